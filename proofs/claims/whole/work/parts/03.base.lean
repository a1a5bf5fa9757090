/-! ===== base: memories, worlds, the judgement JR ===== -/
/-- a memory: ints, longs and places of cells, each by (place, slot or index) -/
abbrev Mem : Type := (Nat → Nat → Int32) × (Nat → Nat → Int64) × (Nat → Nat → Nat)
def sI (m : Mem) (r k : Nat) (v : Int32) : Mem := (va_up m.1 r (upd (m.1 r) k v), m.2)
def sL (m : Mem) (r k : Nat) (v : Int64) : Mem := (m.1, va_up m.2.1 r (vp_updL (m.2.1 r) k v), m.2.2)
def sR (m : Mem) (r k v : Nat) : Mem := (m.1, m.2.1, va_up m.2.2 r (va_up (m.2.2 r) k v))
/-- a whole row of ints at once -/
def sW (m : Mem) (r : Nat) (f : Nat → Int32) : Mem := (va_up m.1 r f, m.2)
/-- the launch's numbers: classes and slots; array classes of int, byte, long, boolean; addresses of the places -/
abbrev Gt : Type := va_G × (ClassId × ClassId × ClassId × ClassId) × (Nat → Nat)
abbrev jcl : List vw_C := [(RX0, TX0, 4), (RX1, TX1, 7), (RX2, TX2, 4), (RX3, TX3, 4), (RX3, TX3, 4), (RX5, TX5, 9), (RX6, TX6, 19), (RX7, TX7, 6), (RX8, TX8, 7), (RX9, TX9, 4), (RX10, TX10, 8), (RX11, TX11, 10), (RX12, TX12, 75)]
def tyG (G : Gt) : List (ClassId × FieldType) := [(G.2.1.1, .int), (G.2.1.2.1, .byte), (G.2.1.2.2.1, .long), (G.2.1.2.2.2, .boolean)]
def WT : List Cond := lw_tbl.filter goodWord
theorem wt_mem {w : Cond} (i : Nat) (h : lw_tbl[i]? = some w) (g : goodWord w = true) : w ∈ WT := List.mem_filter.mpr ⟨List.mem_of_getElem? h, g⟩
def isNest : Cond → Bool
  | .fieldLinkNest _ _ _ _ _ _ => true
  | .methodLinkNest _ _ _ _ => true
  | _ => false
def nestW : List Cond := tables_1.filter isNest
theorem nw_mem {w : Cond} (i : Nat) (h : tables_1[i]? = some w) (g : isNest w = true) : w ∈ nestW := List.mem_filter.mpr ⟨List.mem_of_getElem? h, g⟩
def NW (U : State) : Prop := ∀ w ∈ nestW, va_Nw w U
theorem NW.warm {s U : State} (hW : s.WarmedH U.vm) (h : NW s) : NW U := by
  intro w hw
  have h1 := (List.mem_filter.mp hw).2
  have h2 := h w hw
  cases w <;> first | exact va_Nw.warmF hW h2 | exact va_Nw.warmM hW h2 | (exact absurd h1 (by simp [isNest]))
theorem NW.calling {U : State} (g : JFrame) (mk : MethodId) (a : Array Value) (h : NW U) : NW (U.calling g mk a) := by
  intro w hw
  have h1 := (List.mem_filter.mp hw).2
  have h2 := h w hw
  cases w <;> first | exact va_Nw.same rfl (u := U) (U := U.calling g mk a) rfl h2 | (exact absurd h1 (by simp [isNest]))
/-- which cells are the world's -/
def inA (G : Gt) (n : Nat) : Nat → Prop := fun q => ∃ k, k < n ∧ q = G.2.2 k
/-- the text constants of the tape: their objects at places 1000 and 1001, their rows at 2000 and 2001; nobody writes them -/
abbrev tx0 : String := "person meet noise wakeful dawn dusk harm date at night hinge hours worth loud hour far or and not "
abbrev tx1 : String := ";()<>=+-*/%"
def txB : List (List Int32) := [[112, 101, 114, 115, 111, 110, 32, 109, 101, 101, 116, 32, 110, 111, 105, 115, 101, 32, 119, 97, 107, 101, 102, 117, 108, 32, 100, 97, 119, 110, 32, 100, 117, 115, 107, 32, 104, 97, 114, 109, 32, 100, 97, 116, 101, 32, 97, 116, 32, 110, 105, 103, 104, 116, 32, 104, 105, 110, 103, 101, 32, 104, 111, 117, 114, 115, 32, 119, 111, 114, 116, 104, 32, 108, 111, 117, 100, 32, 104, 111, 117, 114, 32, 102, 97, 114, 32, 111, 114, 32, 97, 110, 100, 32, 110, 111, 116, 32], [59, 40, 41, 60, 62, 61, 43, 45, 42, 47, 37]]
/-- two statics of the JDK's: COMPACT_STRINGS, and a formatter that is a reference or null -/
def ZZ (A : Nat → Prop) (U : State) (H : Heap) : Prop := va_Z "java/lang/String" "COMPACT_STRINGS" "Z" (.int 1) A U H ∧ va_Zq "jdk/internal/util/Preconditions" "SIOOBE_FORMATTER" "Ljava/util/function/BiFunction;" A U H
theorem ZZ.moved {A : Nat → Prop} {u U : State} {H : Heap} (hvm : u.vm.Alike U.vm) (h : ZZ A u H) : ZZ A U H := ⟨va_Z.moved hvm h.1, va_Zq.moved hvm h.2⟩
theorem ZZ.kept {A : Nat → Prop} {U : State} {H H1 : Heap} (h : ZZ A U H) (hq : ∀ a : Nat, a < H.size → ¬ A a → H1[a]? = H[a]?) : ZZ A U H1 := ⟨h.1.kept hq, h.2.kept hq⟩
theorem ZZ.narrow {A B : Nat → Prop} {U : State} {H : Heap} (h : ZZ A U H) (hAB : ∀ q, B q → A q) : ZZ B U H := ⟨h.1.narrow hAB, h.2.narrow hAB⟩
def SS (G : Gt) (n : Nat) (U : State) : Prop := vk_R "HingeTown$Tape" 17 tx0 (G.2.2 1000) U ∧ vk_R "HingeTown$Tape" 61 tx1 (G.2.2 1001) U ∧ vk_S 2 [98, 11] txB (fun i => G.2.2 (1000 + i)) (fun i => G.2.2 (2000 + i)) (inA G n) U U.heap ∧ ZZ (inA G n) U U.heap
/-- nest links and texts -/
def NX (G : Gt) (n : Nat) (U : State) : Prop := NW U ∧ SS G n U
theorem NX.calling {G : Gt} {n : Nat} {U : State} (g : JFrame) (mk : MethodId) (a : Array Value) (h : NX G n U) : NX G n (U.calling g mk a) := ⟨NW.calling g mk a h.1, vk_R.same rfl h.2.1, vk_R.same rfl h.2.2.1, vk_S.moved (u := U) (U := U.calling g mk a) (Vm.Alike.refl U.vm) h.2.2.2.1, ZZ.moved (u := U) (U := U.calling g mk a) (Vm.Alike.refl U.vm) h.2.2.2.2⟩
theorem NX.warm {G : Gt} {n : Nat} {s U : State} {H : Heap} {locs : List Loc} (hS : va_S (inA G n) s.heap H locs) (hU : U.heap = H) (hW : s.WarmedH U.vm) (h : NX G n s) : NX G n U := by
  refine ⟨h.1.warm hW, h.2.1.warm hW, h.2.2.1.warm hW, ?_, ?_⟩
  · rw [hU]
    exact vk_S.moved hW.alike (h.2.2.2.1.kept hS.2.1)
  · rw [hU]
    exact ZZ.moved hW.alike (h.2.2.2.2.kept hS.2.1)
abbrev Wf : Type := Gt → Mem → va_W
def rmv (lev : Nat) : Room := { frames := lev, cells := 0, slots := 0, locals := 64 * lev }
/-- what a method's end says: the answer, the new memory, what else is as it was -/
def Qo (G : Gt) (wf : Wf) (n : Nat) (o : Option Value × Mem) : Array Value → State → Outcome → State → Prop := fun _ st oc t => oc = .returned o.1 ∧ va_P G.1 jcl (wf G o.2) t.heap ∧ va_F (inA G n) st t
/-- what a method's start says -/
def Hd (G : Gt) (wf : Wf) (n : Nat) (m : Mem) (U : State) : Prop := va_P G.1 jcl (wf G m) U.heap ∧ va_K G.1 jcl (tyG G) U ∧ NX G n U
/-- the contract of a method that makes nothing -/
def Ct (l : Launch) (G : Gt) (wf : Wf) (n : Nat) (y : MethodName) (bytes : ByteArray) (maxL : Nat) (ret : Option FieldType) (lev : Nat) (as : List Value) (m : Mem) (o : Option Value × Mem) : Prop :=
  Met l y (.code y bytes maxL ret :: WT) (rmv lev) (va_Pc as (Hd G wf n m)) (Qo G wf n o) 0 0 (inA G n)
/-- the machine's context, and the world -/
abbrev Cx : Type := Program × Launch × Env × Room × State × MethodId × Array Value × List Frame × Method × Code
abbrev Zx : Type := Cx × Gt × Wf × Nat
def aL : Nat → List (Option Value) → List (Nat × Value)
  | _, [] => []
  | i, none :: r => aL (i + 1) r
  | i, some v :: r => (i, v) :: aL (i + 1) r
theorem aL_mem : ∀ (ls : List (Option Value)) (b i : Nat) (v : Value), (i, v) ∈ aL b ls ↔ ∃ j, i = b + j ∧ ls[j]? = some (some v)
  | [], b, i, v => by simp [aL]
  | none :: r, b, i, v => by
    rw [aL, aL_mem r]
    constructor
    · rintro ⟨j, rfl, h⟩
      exact ⟨j + 1, by omega, by simpa using h⟩
    · rintro ⟨j, rfl, h⟩
      cases j with
      | zero => simp at h
      | succ j => exact ⟨j, by omega, by simpa using h⟩
  | some w :: r, b, i, v => by
    rw [aL, List.mem_cons, aL_mem r]
    constructor
    · rintro (h | ⟨j, rfl, h⟩)
      · cases h
        exact ⟨0, rfl, by simp⟩
      · exact ⟨j + 1, by omega, by simpa using h⟩
    · rintro ⟨j, rfl, h⟩
      cases j with
      | zero =>
        left
        simp at h
        subst h
        rfl
      | succ j => exact Or.inr ⟨j, by omega, by simpa using h⟩
def lO (Ls : Array Slot) (ls : List (Option Value)) : Prop := lv_has Ls ls.length (aL 0 ls)
theorem lO_at {Ls : Array Slot} {ls : List (Option Value)} (h : lO Ls ls) {i : Nat} {v : Value} (hi : ls[i]? = some (some v)) : Ls[i]? = some (.val v) := h.2.2 (i, v) ((aL_mem ls 0 i v).mpr ⟨i, by omega, hi⟩)
/-- is there the first half of a long just ahead of this place? -/
def c2at (ls : List (Option Value)) : Nat → Bool
  | 0 => false
  | j + 1 => match ls[j]? with
    | some (some v) => v.category == 2
    | _ => false
theorem lO_set {ls : List (Option Value)} {i : Nat} {v : Value} {o : Option Value} (hi : ls[i]? = some o) (hc : c2at ls i = false) {Ls : Array Slot} (h : lv_has Ls ls.length ((i, v) :: (aL 0 ls).filter (fun q => !(q.1 == i) && !(q.1 + 1 == i && q.2.category == 2)))) : lO Ls (ls.set i (some v)) := by
  refine ⟨by rw [List.length_set]; exact h.1, h.2.1, fun q hq => h.2.2 q ?_⟩
  obtain ⟨j, w⟩ := q
  obtain ⟨j', e, hj⟩ := (aL_mem _ 0 j w).mp hq
  have e : j = j' := by omega
  subst e
  by_cases hji : j = i
  · subst hji
    rw [List.getElem?_set_self (List.getElem?_eq_some_iff.mp hi).1] at hj
    cases hj
    exact List.mem_cons_self
  · rw [List.getElem?_set_ne (Ne.symm hji)] at hj
    refine List.mem_cons_of_mem _ (List.mem_filter.mpr ⟨(aL_mem _ 0 j w).mpr ⟨j, by omega, hj⟩, ?_⟩)
    have h1 : (j == i) = false := by simpa using hji
    have h2 : (j + 1 == i && w.category == 2) = false := by
      by_cases h3 : j + 1 = i
      · subst h3
        simp only [c2at, hj] at hc
        simp [hc]
      · simp [h3]
    simp only [h1, h2]
    rfl
/-- fewer locals are known -/
def lwk : List (Option Value) → List (Option Value) → Prop
  | [], [] => True
  | none :: r, _ :: r' => lwk r r'
  | some v :: r, some v' :: r' => v = v' ∧ lwk r r'
  | _, _ => False
theorem lwk_get : ∀ (a b : List (Option Value)), lwk a b → a.length = b.length ∧ ∀ (i : Nat) (v : Value), a[i]? = some (some v) → b[i]? = some (some v)
  | [], [], _ => ⟨rfl, fun _ _ h => h⟩
  | none :: r, _ :: r', h => by
    obtain ⟨h1, h2⟩ := lwk_get r r' h
    refine ⟨by simp [h1], fun i v hi => ?_⟩
    cases i with
    | zero => simp at hi
    | succ i => simpa using h2 i v (by simpa using hi)
  | some v :: r, some v' :: r', h => by
    obtain ⟨h1, h2⟩ := lwk_get r r' h.2
    refine ⟨by simp [h1], fun i w hi => ?_⟩
    cases i with
    | zero =>
      have e := h.1
      subst e
      exact hi
    | succ i => simpa using h2 i w (by simpa using hi)
  | [], _ :: _, h => h.elim
  | some _ :: _, none :: _, h => h.elim
  | some _ :: _, [], h => h.elim
  | none :: _, [], h => h.elim
theorem lO_wk {a b : List (Option Value)} (hab : lwk a b) {Ls : Array Slot} (h : lO Ls b) : lO Ls a := by
  obtain ⟨h1, h2⟩ := lwk_get a b hab
  refine ⟨by rw [h1]; exact h.1, h.2.1, fun q hq => ?_⟩
  obtain ⟨j, w⟩ := q
  obtain ⟨j', e, hj⟩ := (aL_mem _ 0 j w).mp hq
  have e : j = j' := by omega
  subst e
  exact lO_at h (h2 j w hj)
/-- the judgement: from here the machine comes to the method's end with what E says, if E says something -/
def JR {α : Type} (Z : Zx) (cv : α → Option Value × Mem) (m : Mem) (pc : Nat) (ls : List (Option Value)) (st : List Value) (E : Option α) : Prop :=
  ∀ a, E = some a → ∀ (H : Heap) (locs : List Loc) (Ls : Array Slot), va_P Z.2.1.1 jcl (Z.2.2.1 Z.2.1 m) H → va_S (inA Z.2.1 Z.2.2.2) Z.1.2.2.2.2.1.heap H locs → lO Ls ls →
    W Z.1.1 Z.1.2.1 Z.1.2.2.1 Z.1.2.2.2.1 Z.1.2.2.2.2.1 Z.1.2.2.2.2.2.1 Z.1.2.2.2.2.2.2.1 Z.1.2.2.2.2.2.2.2.1 Z.1.2.2.2.2.2.2.2.2.1 Z.1.2.2.2.2.2.2.2.2.2 H locs 0 0
      (MQ Z.1.2.2.2.2.2.2.2.1 (Qo Z.2.1 Z.2.2.1 Z.2.2.2 (cv a)) Z.1.2.2.2.2.2.2.1 Z.1.2.2.2.2.1 0 0 (inA Z.2.1 Z.2.2.2)) (F0 Z.1.2.2.2.2.2.1 pc Ls st)
/-- what holds in a method's body -/
def OkX (Z : Zx) (cc : ByteArray) (own : String) (nL : Nat) (ret : Option FieldType) (lev : Nat) : Prop :=
  Z.1.1.tables.exec = Jvm.exec ∧ Z.1.2.2.2.2.2.2.2.2.2.code = cc ∧ Z.1.2.2.2.2.2.2.2.2.1.sig.returnType = ret ∧ Z.1.2.2.2.2.2.2.2.2.2.maxLocals = nL ∧ Z.1.2.2.2.2.1.vm.findClass own = some Z.1.2.2.2.2.2.1.cls ∧ (∀ w ∈ WT, w.before Z.1.2.2.2.2.2.2.1 Z.1.2.2.2.2.1 = true) ∧ va_K Z.2.1.1 jcl (tyG Z.2.1) Z.1.2.2.2.2.1 ∧ NX Z.2.1 Z.2.2.2 Z.1.2.2.2.2.1 ∧ Z.1.2.2.2.2.2.2.2.2.1.locks = false ∧ Z.1.2.2.2.1 = rmv lev ∧ (∀ m, va_D (inA Z.2.1 Z.2.2.2) (Z.2.2.1 Z.2.1 m))
/-- how an instruction is read: it, its length, the next place -/
def DD (cc : ByteArray) (pc : Nat) (i : Instr) (len nx : Nat) : Prop := decode cc pc = .ok (i, len) ∧ pc + len = nx
