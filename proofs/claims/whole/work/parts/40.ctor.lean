/-! ===== constructors: a judgement over a list of cells that grows ===== -/
def SSA (G : Gt) (A : Nat → Prop) (U : State) : Prop := vk_R "HingeTown$Tape" 17 tx0 (G.2.2 1000) U ∧ vk_R "HingeTown$Tape" 61 tx1 (G.2.2 1001) U ∧ vk_S 2 [98, 11] txB (fun i => G.2.2 (1000 + i)) (fun i => G.2.2 (2000 + i)) A U U.heap ∧ ZZ A U U.heap
def NY (G : Gt) (A : Nat → Prop) (U : State) : Prop := NW U ∧ SSA G A U
theorem NY.calling {G : Gt} {A : Nat → Prop} {U : State} (g : JFrame) (mk : MethodId) (a : Array Value) (h : NY G A U) : NY G A (U.calling g mk a) := ⟨NW.calling g mk a h.1, vk_R.same rfl h.2.1, vk_R.same rfl h.2.2.1, vk_S.moved (u := U) (U := U.calling g mk a) (Vm.Alike.refl U.vm) h.2.2.2.1, ZZ.moved (u := U) (U := U.calling g mk a) (Vm.Alike.refl U.vm) h.2.2.2.2⟩
theorem NY.warm {G : Gt} {A B : Nat → Prop} {s U : State} {H : Heap} {locs : List Loc} (hS : va_S A s.heap H locs) (hAB : ∀ q, B q → A q) (hU : U.heap = H) (hW : s.WarmedH U.vm) (h : NY G A s) : NY G B U := by
  refine ⟨h.1.warm hW, h.2.1.warm hW, h.2.2.1.warm hW, ?_, ?_⟩
  · rw [hU]
    exact (vk_S.moved hW.alike (h.2.2.2.1.kept hS.2.1)).narrow hAB
  · rw [hU]
    exact (ZZ.moved hW.alike (h.2.2.2.2.kept hS.2.1)).narrow hAB
/-- the contract of a constructor: its object alone at first, then what it made -/
def CtN (l : Launch) (G : Gt) (y : MethodName) (bytes : ByteArray) (maxL lev cN sN : Nat) (as : List Value) (h0 : Nat) (e0 : va_E) (mk : List Nat → va_W) : Prop := ∀ sz : Nat,
  Met l y (.code y bytes maxL none :: WT) { frames := lev, cells := cN, slots := sN, locals := 64 * lev } (va_Pc as (fun U => U.heap.size = sz ∧ va_P G.1 jcl [(h0, e0)] U.heap ∧ va_K G.1 jcl (tyG G) U ∧ NY G (va_A [(h0, e0)] sz) U))
    (va_Qv (fun u : List Nat => u.length = cN) (fun u t => va_P G.1 jcl (mk u) t.heap ∧ va_D (va_A [(h0, e0)] sz) (mk u)) (va_A [(h0, e0)] sz)) cN sN (va_A [(h0, e0)] sz)
def JN (X : Cx) (G : Gt) (A : Nat → Prop) (Q : State → Prop) (ws : va_W) (cN sN pc : Nat) (ls : List (Option Value)) (st : List Value) : Prop :=
  ∀ (H : Heap) (locs : List Loc) (Ls : Array Slot), va_P G.1 jcl ws H → va_D A ws → va_S A X.2.2.2.2.1.heap H locs → lO Ls ls →
    W X.1 X.2.1 X.2.2.1 X.2.2.2.1 X.2.2.2.2.1 X.2.2.2.2.2.1 X.2.2.2.2.2.2.1 X.2.2.2.2.2.2.2.1 X.2.2.2.2.2.2.2.2.1 X.2.2.2.2.2.2.2.2.2 H locs cN sN Q (F0 X.2.2.2.2.2.1 pc Ls st)
def OkN (X : Cx) (G : Gt) (A : Nat → Prop) (cc : ByteArray) (own : String) (nL : Nat) (rm : Room) : Prop :=
  X.1.tables.exec = Jvm.exec ∧ X.2.2.2.2.2.2.2.2.2.code = cc ∧ X.2.2.2.2.2.2.2.2.1.sig.returnType = none ∧ X.2.2.2.2.2.2.2.2.2.maxLocals = nL ∧ X.2.2.2.2.1.vm.findClass own = some X.2.2.2.2.2.1.cls ∧ (∀ w ∈ WT, w.before X.2.2.2.2.2.2.1 X.2.2.2.2.1 = true) ∧ va_K G.1 jcl (tyG G) X.2.2.2.2.1 ∧ NY G A X.2.2.2.2.1 ∧ X.2.2.2.2.2.2.2.2.1.locks = false ∧ X.2.2.2.1 = rm ∧ X.2.2.2.2.2.2.2.2.1.name = "<init>" ∧ (∀ q, X.2.2.2.2.1.heap.size ≤ q → A q)
section CN
variable {X : Cx} {G : Gt} {A : Nat → Prop} {Q : State → Prop} {cc : ByteArray} {own : String} {nL : Nat} {rm : Room} {ws ws' : va_W} {cN sN pc nx : Nat} {ls : List (Option Value)} {st : List Value}
theorem n_eq (h : ws = ws') (k : JN X G A Q ws' cN sN pc ls st) : JN X G A Q ws cN sN pc ls st := h ▸ k
theorem n_wid {c' s' : Nat} (h1 : cN ≤ c') (h2 : sN ≤ s') (k : JN X G A Q ws c' s' pc ls st) : JN X G A Q ws cN sN pc ls st := fun H locs Ls hP hD hS hl => W.widen h1 h2 (k H locs Ls hP hD hS hl)
theorem n_aload (h : OkN X G A cc own nL rm) {i : Fin 4} {x : Nat} (d : DD cc pc (.aload_n i) 1 nx) (hi : ls[(i : Nat)]? = some (some (.ref x))) (k : JN X G A Q ws cN sN nx ls (.ref x :: st)) : JN X G A Q ws cN sN pc ls st := by
  obtain ⟨d, rfl⟩ := d
  intro H locs Ls hP hD hS hl
  exact lv_aload_n h.1 h.2.1 d rfl (lO_at hl hi) (k H locs Ls hP hD hS hl)
theorem n_iload (h : OkN X G A cc own nL rm) {i : Fin 4} {x : Int32} (d : DD cc pc (.iload_n i) 1 nx) (hi : ls[(i : Nat)]? = some (some (.int x))) (k : JN X G A Q ws cN sN nx ls (.int x :: st)) : JN X G A Q ws cN sN pc ls st := by
  obtain ⟨d, rfl⟩ := d
  intro H locs Ls hP hD hS hl
  exact lv_iload_n h.1 h.2.1 d rfl (lO_at hl hi) (k H locs Ls hP hD hS hl)
theorem n_istore (h : OkN X G A cc own nL rm) {i : Fin 4} {x : Int32} {o : Option Value} (d : DD cc pc (.istore_n i) 1 nx) (hi : ls[(i : Nat)]? = some o) (hc : c2at ls (i : Nat) = false) (k : JN X G A Q ws cN sN nx (ls.set (i : Nat) (some (.int x))) st) : JN X G A Q ws cN sN pc ls (.int x :: st) := by
  obtain ⟨d, rfl⟩ := d
  intro H locs Ls hP hD hS hl
  exact lv_istore_n h.1 h.2.1 d rfl hl (List.getElem?_eq_some_iff.mp hi).1 rfl (fun Ls hl2 => k H locs Ls hP hD hS (lO_set hi hc hl2))
theorem n_iinc (h : OkN X G A cc own nL rm) {i : Nat} {n : Int} {x v : Int32} (d : DD cc pc (.iinc i n) 3 nx) (hi : ls[i]? = some (some (.int x))) (hv : x + Int32.ofInt n = v) (hc : c2at ls i = false) (k : JN X G A Q ws cN sN nx (ls.set i (some (.int v))) st) : JN X G A Q ws cN sN pc ls st := by
  obtain ⟨d, rfl⟩ := d
  intro H locs Ls hP hD hS hl
  obtain ⟨kk, hk⟩ := List.getElem?_of_mem ((aL_mem ls 0 i (.int x)).mpr ⟨i, by omega, hi⟩)
  exact lv_iinc h.1 h.2.1 d hl hk hv (List.getElem?_eq_some_iff.mp hi).1 rfl (fun Ls hl2 => k H locs Ls hP hD hS (lO_set hi hc hl2))
theorem n_goto (h : OkN X G A cc own nL rm) {off : Int} {tgt : Nat} (d : DD cc pc (.goto off) 3 nx) (ht : (pc : Int) + off = (tgt : Int)) (k : JN X G A Q ws cN sN tgt ls st) : JN X G A Q ws cN sN pc ls st := by
  obtain ⟨d, rfl⟩ := d
  intro H locs Ls hP hD hS hl
  exact lv_goto h.1 h.2.1 d ht (k H locs Ls hP hD hS hl)
theorem n_icmp_ge (h : OkN X G A cc own nL rm) {x y : Int32} {off : Int} {tgt : Nat} (d : DD cc pc (.if_icmp .ge off) 3 nx) (ht : (pc : Int) + off = (tgt : Int)) (kt : y ≤ x → JN X G A Q ws cN sN tgt ls st) (kf : ¬ y ≤ x → JN X G A Q ws cN sN nx ls st) : JN X G A Q ws cN sN pc ls (.int y :: .int x :: st) := by
  obtain ⟨d, rfl⟩ := d
  intro H locs Ls hP hD hS hl
  exact lv_icmp_ge h.1 h.2.1 d ht (fun c => kt c H locs Ls hP hD hS hl) (fun c => kf c H locs Ls hP hD hS hl)
theorem n_icmp_ne (h : OkN X G A cc own nL rm) {x y : Int32} {off : Int} {tgt : Nat} (d : DD cc pc (.if_icmp .ne off) 3 nx) (ht : (pc : Int) + off = (tgt : Int)) (kt : ¬ x = y → JN X G A Q ws cN sN tgt ls st) (kf : x = y → JN X G A Q ws cN sN nx ls st) : JN X G A Q ws cN sN pc ls (.int y :: .int x :: st) := by
  obtain ⟨d, rfl⟩ := d
  intro H locs Ls hP hD hS hl
  exact lv_icmp_ne h.1 h.2.1 d ht (fun c => kt c H locs Ls hP hD hS hl) (fun c => kf c H locs Ls hP hD hS hl)
theorem n_dup (h : OkN X G A cc own nL rm) {v : Value} (d : DD cc pc .dup 1 nx) (hv : v.category = 1) (k : JN X G A Q ws cN sN nx ls (v :: v :: st)) : JN X G A Q ws cN sN pc ls (v :: st) := by
  obtain ⟨d, rfl⟩ := d
  intro H locs Ls hP hD hS hl
  exact lv_dup h.1 h.2.1 d hv (k H locs Ls hP hD hS hl)
theorem n_iconst (h : OkN X G A cc own nL rm) {n : Int} {v : Int32} (d : DD cc pc (.iconst n) 1 nx) (hv : Int32.ofInt n = v) (k : JN X G A Q ws cN sN nx ls (.int v :: st)) : JN X G A Q ws cN sN pc ls st := by
  obtain ⟨d, rfl⟩ := d
  intro H locs Ls hP hD hS hl
  exact lv_iconst h.1 h.2.1 d hv (k H locs Ls hP hD hS hl)
theorem n_bipush (h : OkN X G A cc own nL rm) {n : Int} {v : Int32} (d : DD cc pc (.bipush n) 2 nx) (hv : (Int8.ofInt n).toInt32 = v) (k : JN X G A Q ws cN sN nx ls (.int v :: st)) : JN X G A Q ws cN sN pc ls st := by
  obtain ⟨d, rfl⟩ := d
  intro H locs Ls hP hD hS hl
  exact lv_bipush h.1 h.2.1 d hv (k H locs Ls hP hD hS hl)
theorem n_sipush (h : OkN X G A cc own nL rm) {n : Int} {v : Int32} (d : DD cc pc (.sipush n) 3 nx) (hv : (Int16.ofInt n).toInt32 = v) (k : JN X G A Q ws cN sN nx ls (.int v :: st)) : JN X G A Q ws cN sN pc ls st := by
  obtain ⟨d, rfl⟩ := d
  intro H locs Ls hP hD hS hl
  exact lv_sipush h.1 h.2.1 d hv (k H locs Ls hP hD hS hl)
/-- a new row: its class is the one that the tables name -/
theorem n_newa (h : OkN X G A cc own nL rm) {atype : ArrayType} {ty : FieldType} {n : Int32} {N t0 : Nat} {cA0 : ClassId} {a0 : vp_A} (hw : Cond.arrayClass ty ∈ WT) (hty : newarray.typeOf atype = ty) (ht : (tyG G)[t0]? = some (cA0, ty)) (hra : ∀ U : State, ∀ c, va_RA U c ty → U.vm.findClass ("[" ++ ty.toString) = some c) (ha : ∀ cA : ClassId, vp_cell cA a0 = arrV cA N (fun _ => defaultValue ty)) (hn : ¬ n < 0) (hN : n.toNatClampNeg = N) (hb : N * componentBytes ty ≤ 536870912) (hc : cN + 1 ≤ rm.cells) (hs : sN + N ≤ rm.slots) (d : DD cc pc (.newarray atype) 2 nx) (k : ∀ q, JN X G A Q (ws ++ [(q, .inl (cA0, a0))]) (cN + 1) (sN + N) nx ls (.ref q :: st)) : JN X G A Q ws cN sN pc ls (.int n :: st) := by
  obtain ⟨d, rfl⟩ := d
  intro H locs Ls hP hD hS hl
  have hR := h.2.2.2.2.2.2.2.2.2.1
  refine va_newa (ty := ty) h.1 h.2.1 (by rw [hty]; exact h.2.2.2.2.2.1 _ hw) hty h.2.2.2.2.2.2.1 hP hD hS h.2.2.2.2.2.2.2.2.2.2.2 ha hn hN hb (by rw [hR]; exact hc) (by rw [hR]; exact hs) d (fun q cA H1 hK1 hP1 hD1 hS1 => ?_)
  have e : cA = cA0 := by
    have h1 := hra _ _ (hK1.2 (tyG G).length (cA, ty) (by simp)).2
    have h2 := hra _ _ (h.2.2.2.2.2.2.1.2 t0 (cA0, ty) ht).2
    rw [h1] at h2
    exact Option.some.inj h2
  subst e
  exact k q H1 locs Ls hP1 hD1 hS1 hl
theorem n_new (h : OkN X G A cc own nL rm) {C : String} {T : u_T} {N ci idx : Nat} {fs : List Value} (hin : ∀ w ∈ u_ws C T N, w ∈ WT) (ty : Nat → FieldType) (hty : ∀ k, k < N → parseFieldDescriptor (T k).2.2.1 = some (ty k)) (hcl : Cond.classLink own idx C ∈ WT) (hinst : Cond.instantiable C N ∈ WT) (hini : Cond.initialized C ∈ WT) (hc : jcl[ci]? = some (C, T, N)) (hfs : ∀ j, j < N → defaultValue (ty j) = vp_V fs j) (hcN : cN + 1 ≤ rm.cells) (hsN : sN + N ≤ rm.slots) (d : DD cc pc (.new idx) 3 nx) (k : ∀ q, JN X G A Q (ws ++ [(q, .inr (ci, fs))]) (cN + 1) (sN + N) nx ls (.ref q :: st)) : JN X G A Q ws cN sN pc ls st := by
  obtain ⟨d, rfl⟩ := d
  intro H locs Ls hP hD hS hl
  have hR := h.2.2.2.2.2.2.2.2.2.1
  exact va_new h.1 h.2.1 h.2.2.2.2.2.1 hin ty hty h.2.2.2.2.1 (h.2.2.2.2.2.1 _ hcl) (h.2.2.2.2.2.1 _ hinst) (h.2.2.2.2.2.1 _ hini) h.2.2.2.2.2.2.1 hP hD hS h.2.2.2.2.2.2.2.2.2.2.2 hc hfs (by rw [hR]; exact hcN) (by rw [hR]; exact hsN) d (fun q H1 hP1 hD1 hS1 => k q H1 locs Ls hP1 hD1 hS1 hl)
theorem n_objInit (h : OkN X G A cc own nL rm) {idx a : Nat} (hlk : Cond.methodLink own idx Lib.objectInit ∈ WT) (hnl : ls.length = nL) (hroom : (st.map fun v => v.category).sum ≤ 8) (hf : 1 ≤ rm.frames) (hlo : 20 ≤ rm.locals) (ho : Cond.instanceMethod Lib.objectInit ∈ WT ∧ Cond.code Lib.objectInit ⟨#[0xb1]⟩ 1 none ∈ WT) (d : DD cc pc (.invokespecial idx) 3 nx) (k : JN X G A Q ws cN sN nx ls st) : JN X G A Q ws cN sN pc ls (.ref a :: st) := by
  obtain ⟨d, rfl⟩ := d
  intro H locs Ls hP hD hS hl
  have hR := h.2.2.2.2.2.2.2.2.2.1
  refine W.objInit h.1 h.2.1 h.2.2.2.2.1 (h.2.2.2.2.2.1 _ hlk) (h.2.2.2.2.2.1 _ ho.1) (h.2.2.2.2.2.1 _ ho.2) rfl (by rw [h.2.2.2.1]; exact hl.1.trans hnl) rfl d (by rw [hR]; exact hf) (by rw [hR]; show 2 * 0 + _ + 12 ≤ _; omega) ?_
  exact W.eq (g2 := F0 _ (pc + 3) Ls st) rfl (k H locs Ls hP hD hS hl)
theorem n_putF (h : OkN X G A cc own nL rm) {T : u_T} {N ci idx k a q0 : Nat} {fs : List Value} {v : Value} {ty : FieldType} {ty0 : Nat → FieldType} (hin : ∀ w ∈ u_ws own T N, w ∈ WT) (hty : ∀ k, k < N → parseFieldDescriptor (T k).2.2.1 = some (ty0 k)) (hnm : ∀ a, a < N → ∀ b, b < N → a ≠ b → (T a).2.1 ≠ (T b).2.1) (hc : jcl[ci]? = some (own, T, N)) (he : ws[q0]? = some (a, .inr (ci, fs))) (hk : k < N) (hlink : Cond.fieldLink own idx own (T k).2.1 (T k).2.2.1 ∈ WT) (hT : (T k).1 = own ∧ (T k).2.2.2 = true ∧ ty0 k = ty) (hn : narrow ty v = v) (hfit : fits ty v = true) (hl0 : k < fs.length) (hset : ws.set q0 (a, .inr (ci, fs.set k v)) = ws') (d : DD cc pc (.putfield idx) 3 nx) (kk : JN X G A Q ws' cN sN nx ls st) : JN X G A Q ws cN sN pc ls (v :: .ref a :: st) := by
  obtain ⟨d, rfl⟩ := d
  subst hset
  intro H locs Ls hP hD hS hl
  exact va_putF h.1 h.2.1 h.2.2.2.2.2.1 hin ty0 hty hnm h.2.2.2.2.1 h.2.2.2.2.2.2.1 hP hD hS q0 he hc k hk (h.2.2.2.2.2.1 _ hlink) (fun x hx => by rw [hT.1] at hx; exact hx) hT.2.1 h.2.2.2.2.2.2.2.2.2.2.1 hT.1 (by rw [← hT.2.2]; exact hty k hk) hn hfit hl0 d (fun H1 locs1 hP1 hD1 hS1 => kk H1 locs1 Ls hP1 hD1 hS1 hl)
theorem n_put (h : OkN X G A cc own nL rm) {T : u_T} {N ci idx k a q0 : Nat} {fs : List Value} {v : Value} {ty : FieldType} {ty0 : Nat → FieldType} (hin : ∀ w ∈ u_ws own T N, w ∈ WT) (hty : ∀ k, k < N → parseFieldDescriptor (T k).2.2.1 = some (ty0 k)) (hnm : ∀ a, a < N → ∀ b, b < N → a ≠ b → (T a).2.1 ≠ (T b).2.1) (hc : jcl[ci]? = some (own, T, N)) (he : ws[q0]? = some (a, .inr (ci, fs))) (hk : k < N) (hlink : Cond.fieldLink own idx own (T k).2.1 (T k).2.2.1 ∈ WT) (hT : (T k).1 = own ∧ (T k).2.2.2 = false ∧ ty0 k = ty) (hn : narrow ty v = v) (hfit : fits ty v = true) (hl0 : k < fs.length) (hset : ws.set q0 (a, .inr (ci, fs.set k v)) = ws') (d : DD cc pc (.putfield idx) 3 nx) (kk : JN X G A Q ws' cN sN nx ls st) : JN X G A Q ws cN sN pc ls (v :: .ref a :: st) := by
  obtain ⟨d, rfl⟩ := d
  subst hset
  intro H locs Ls hP hD hS hl
  exact va_put h.1 h.2.1 h.2.2.2.2.2.1 hin ty0 hty hnm h.2.2.2.2.1 h.2.2.2.2.2.2.1 hP hD hS q0 he hc k hk (h.2.2.2.2.2.1 _ hlink) (fun x hx => by rw [hT.1] at hx; exact hx) hT.2.1 (by rw [← hT.2.2]; exact hty k hk) hn hfit hl0 d (fun H1 locs1 hP1 hD1 hS1 => kk H1 locs1 Ls hP1 hD1 hS1 hl)
theorem n_get (h : OkN X G A cc own nL rm) {C : String} {T : u_T} {N ci idx k a q0 : Nat} {fs : List Value} {v : Value} (hin : ∀ w ∈ u_ws C T N, w ∈ WT) (hc : jcl[ci]? = some (C, T, N)) (he : ws[q0]? = some (a, .inr (ci, fs))) (hk : k < N) (hlink : Cond.fieldLink own idx C (T k).2.1 (T k).2.2.1 ∈ WT) (hT : (T k).1 = C) (hv : fs[k]? = some v) (d : DD cc pc (.getfield idx) 3 nx) (kk : JN X G A Q ws cN sN nx ls (v :: st)) : JN X G A Q ws cN sN pc ls (.ref a :: st) := by
  obtain ⟨d, rfl⟩ := d
  intro H locs Ls hP hD hS hl
  exact va_get h.1 h.2.1 h.2.2.2.2.2.1 hin h.2.2.2.2.1 h.2.2.2.2.2.2.1 hP q0 he hc k hk (h.2.2.2.2.2.1 _ hlink) (fun x hx => by rw [hT] at hx; exact hx) hv d (kk H locs Ls hP hD hS hl)
theorem n_getN (h : OkN X G A cc own nL rm) {C host : String} {T : u_T} {N ci idx k a q0 : Nat} {fs : List Value} {v : Value} (hin : ∀ w ∈ u_ws C T N, w ∈ WT) (hc : jcl[ci]? = some (C, T, N)) (he : ws[q0]? = some (a, .inr (ci, fs))) (hk : k < N) (hlink : Cond.fieldLinkNest own idx C (T k).2.1 (T k).2.2.1 host ∈ nestW) (hT : (T k).1 = C) (hv : fs[k]? = some v) (d : DD cc pc (.getfield idx) 3 nx) (kk : JN X G A Q ws cN sN nx ls (v :: st)) : JN X G A Q ws cN sN pc ls (.ref a :: st) := by
  obtain ⟨d, rfl⟩ := d
  intro H locs Ls hP hD hS hl
  exact va_getN h.1 h.2.1 h.2.2.2.2.2.1 hin h.2.2.2.2.1 h.2.2.2.2.2.2.1 hP q0 he hc k hk (va_Nw.use rfl (h.2.2.2.2.2.2.2.1.1 _ hlink)) (fun x hx => by rw [hT] at hx; exact hx) hv d (kk H locs Ls hP hD hS hl)
end CN
/-- a constructor is called: its object's cell is cut out, what comes back is put behind the rest -/
theorem n_back {X : Cx} {G : Gt} {A : Nat → Prop} {Q : State → Prop} {cc : ByteArray} {own : String} {nL : Nat} {rm : Room} {ws wr : va_W} {cN sN pc : Nat} {ls : List (Option Value)} {st st0 : List Value} (h : OkN X G A cc own nL rm) {y : MethodName} {maxL lev c2 s2 b i0 : Nat} {e0 : va_E} {as : Array Value} {mk : List Nat → va_W} (isR : List Nat) (hi : ws[i0]? = some (b, e0)) (hR : isR.map (fun i => ws[i]?) = wr.map some) (hnd : va_nd isR = true) (hdis : i0 ∉ isR)
    (run : ∀ (H : Heap) (locs : List Loc) (Ls : Array Slot), va_P G.1 jcl ws H → va_S A X.2.2.2.2.1.heap H locs → lO Ls ls → va_Run X.1 X.2.1 X.2.2.1 X.2.2.2.1 X.2.2.2.2.1 X.2.2.2.2.2.1 X.2.2.2.2.2.2.1 X.2.2.2.2.2.2.2.1 X.2.2.2.2.2.2.2.2.1 X.2.2.2.2.2.2.2.2.2 H locs cN sN c2 s2 (F0 X.2.2.2.2.2.1 pc Ls st0) st (va_Qv (fun u : List Nat => u.length = c2) (fun u t => va_P G.1 jcl (mk u) t.heap ∧ va_D (va_A [(b, e0)] H.size) (mk u)) (va_A [(b, e0)] H.size) as) (va_A [(b, e0)] H.size))
    (kk : ∀ u : List Nat, u.length = c2 → JN X G A Q (wr ++ mk u) (cN + c2) (sN + s2) (pc + 3) ls st) : JN X G A Q ws cN sN pc ls st0 := by
  intro H locs Ls hP hD hS hl
  have hF := va_free (wc := [(b, e0)]) hD hS h.2.2.2.2.2.2.2.2.2.2.2 [i0] (by simp [hi])
  refine va_callv (run H locs Ls hP hS hl) hS (fun q _ z => hF q z) hF (fun u t H1 locs1 ht hvm hw hB hz1 hk1 hS1 => ?_)
  obtain ⟨hP1, hD1⟩ := hB
  rw [ht] at hP1
  obtain ⟨hP2, hD2⟩ := va_join (wr := wr) (w1 := mk u) (wc := [(b, e0)]) hP hD [i0] isR (by simp [hi]) hR hnd (fun i hi2 => by simp only [List.mem_singleton]; rintro rfl; exact hdis hi2) hk1 hF hP1 hD1
  exact kk u hw H1 locs1 Ls hP2 hD2 hS1 hl
theorem n_cb {X : Cx} {G : Gt} {A : Nat → Prop} {cc : ByteArray} {own : String} {nL : Nat} {rm : Room} (h : OkN X G A cc own nL rm) {y : MethodName} {bytes : ByteArray} {maxL n lev c2 s2 : Nat} (hM : mOK y bytes maxL none n) (hlev : lev < rm.frames) (hlo : 64 * lev + 64 ≤ rm.locals) (hmax : maxL ≤ 45) : GoodIn WT (.code y bytes maxL none :: WT) ∧ lev + 1 ≤ X.2.2.2.1.frames ∧ 8 + (maxL + 11) + 64 * lev ≤ X.2.2.2.1.locals := by
  refine ⟨good_wt (fun w hw => ?_), ?_, ?_⟩
  · rcases List.mem_cons.mp hw with rfl | hw
    · exact hM.2.1
    · exact hw
  · rw [h.2.2.2.2.2.2.2.2.2.1]; exact hlev
  · rw [h.2.2.2.2.2.2.2.2.2.1]; omega
theorem n_pre {X : Cx} {G : Gt} {A : Nat → Prop} {cc : ByteArray} {own : String} {nL : Nat} {rm : Room} {ws : va_W} (h : OkN X G A cc own nL rm) {b i0 : Nat} {e0 : va_E} {as : List Value} (hi : ws[i0]? = some (b, e0)) (hA : A b) {H : Heap} {locs : List Loc} (hP : va_P G.1 jcl ws H) (hS : va_S A X.2.2.2.2.1.heap H locs) : PreS X.2.2.2.2.1 H (va_Pc as (fun U => U.heap.size = H.size ∧ va_P G.1 jcl [(b, e0)] U.heap ∧ va_K G.1 jcl (tyG G) U ∧ NY G (va_A [(b, e0)] H.size) U)) as := by
  refine ⟨fun a U g mk q => ⟨q.1, q.2.1, q.2.2.1, va_K.moved (u := U) (U := U.calling g mk a) (Vm.Alike.refl U.vm) q.2.2.2.1, NY.calling g mk a q.2.2.2.2⟩, fun U hU hW => ⟨rfl, by rw [hU], by rw [hU]; exact hP.sub [i0] (by simp [hi]), va_K.moved hW.alike h.2.2.2.2.2.2.1, NY.warm hS (fun q hq => ?_) hU hW h.2.2.2.2.2.2.2.1⟩⟩
  rcases hq with ⟨k, e, hk⟩ | hq
  · cases k with
    | zero => simp at hk; rw [← hk.1]; exact hA
    | succ k => simp at hk
  · exact h.2.2.2.2.2.2.2.2.2.2.2 q (Nat.le_trans hS.1 hq)
theorem n_ctor {X : Cx} {G : Gt} {A : Nat → Prop} {Q : State → Prop} {cc : ByteArray} {own : String} {nL : Nat} {rm : Room} {ws wr : va_W} {cN sN pc nx : Nat} {ls : List (Option Value)} {st st0 : List Value} (h : OkN X G A cc own nL rm) {y : MethodName} {bytes : ByteArray} {maxL n lev c2 s2 b i0 idx : Nat} {e0 : va_E} {mk : List Nat → va_W} (As : List Value) (isR : List Nat) (hct : CtN X.2.1 G y bytes maxL lev c2 s2 (.ref b :: As) b e0 mk) (hM : mOK y bytes maxL none n) (hin : Cond.instanceMethod y ∈ WT) (hy : y.name = "<init>") (hlk : Cond.methodLink own idx y ∈ WT) (hi : ws[i0]? = some (b, e0)) (hAb : ∀ H locs, va_P G.1 jcl ws H → va_S A X.2.2.2.2.1.heap H locs → va_D A ws → A b) (hR : isR.map (fun i => ws[i]?) = wr.map some) (hnd : va_nd isR = true) (hdis : i0 ∉ isR) (hst : st0 = As.reverse ++ .ref b :: st) (hAs : As.length = n) (hlev : lev < rm.frames) (hlo : 64 * lev + 64 ≤ rm.locals) (hmax : maxL ≤ 45) (hc : cN + c2 ≤ rm.cells) (hs : sN + s2 ≤ rm.slots) (hroom : (st.map fun v => v.category).sum ≤ 8) (hnl : ls.length = nL) (d : DD cc pc (.invokespecial idx) 3 nx)
    (kk : ∀ u : List Nat, u.length = c2 → JN X G A Q (wr ++ mk u) (cN + c2) (sN + s2) nx ls st) : JN X G A Q ws cN sN pc ls st0 := by
  obtain ⟨d, rfl⟩ := d
  intro H0 locs0 Ls0 hP0 hD0 hS0 hl0
  refine n_back (y := y) (maxL := maxL) (lev := lev) (as := (Value.ref b :: As).toArray) h isR hi hR hnd hdis (fun H locs Ls hP hS hl => ?_) kk H0 locs0 Ls0 hP0 hD0 hS0 hl0
  obtain ⟨g1, g2, g3⟩ := n_cb (c2 := c2) (s2 := s2) h hM hlev hlo hmax
  have hR2 := h.2.2.2.2.2.2.2.2.2.1
  exact va_runI (Ts := WT) ⟨h.1, h.2.1, h.2.2.2.1, h.2.2.2.2.1, h.2.2.2.2.2.1⟩ (hct H.size) ⟨callB_of (Ts := WT) n h.2.2.2.2.2.1 g1 rfl rfl rfl (h.2.2.2.2.2.1 _ hM.1) (h.2.2.2.2.2.1 _ hlk) hM.2.2 ⟨g2, g3⟩, hy, h.2.2.2.2.2.1 _ hin⟩ (n_pre h hi (hAb H0 locs0 hP0 hS0 hD0) hP hS) rfl hAs (hl.1.trans hnl) hst (lv_room hroom) d ⟨by rw [hR2]; exact hc, by rw [hR2]; exact hs⟩
theorem n_ctorN {X : Cx} {G : Gt} {A : Nat → Prop} {Q : State → Prop} {cc : ByteArray} {own host : String} {nL : Nat} {rm : Room} {ws wr : va_W} {cN sN pc nx : Nat} {ls : List (Option Value)} {st st0 : List Value} (h : OkN X G A cc own nL rm) {y : MethodName} {bytes : ByteArray} {maxL n lev c2 s2 b i0 idx : Nat} {e0 : va_E} {mk : List Nat → va_W} (As : List Value) (isR : List Nat) (hct : CtN X.2.1 G y bytes maxL lev c2 s2 (.ref b :: As) b e0 mk) (hM : mOK y bytes maxL none n) (hin : Cond.instanceMethod y ∈ WT) (hy : y.name = "<init>") (hlk : Cond.methodLinkNest own idx y host ∈ nestW) (hi : ws[i0]? = some (b, e0)) (hAb : ∀ H locs, va_P G.1 jcl ws H → va_S A X.2.2.2.2.1.heap H locs → va_D A ws → A b) (hR : isR.map (fun i => ws[i]?) = wr.map some) (hnd : va_nd isR = true) (hdis : i0 ∉ isR) (hst : st0 = As.reverse ++ .ref b :: st) (hAs : As.length = n) (hlev : lev < rm.frames) (hlo : 64 * lev + 64 ≤ rm.locals) (hmax : maxL ≤ 45) (hc : cN + c2 ≤ rm.cells) (hs : sN + s2 ≤ rm.slots) (hroom : (st.map fun v => v.category).sum ≤ 8) (hnl : ls.length = nL) (d : DD cc pc (.invokespecial idx) 3 nx)
    (kk : ∀ u : List Nat, u.length = c2 → JN X G A Q (wr ++ mk u) (cN + c2) (sN + s2) nx ls st) : JN X G A Q ws cN sN pc ls st0 := by
  obtain ⟨d, rfl⟩ := d
  intro H0 locs0 Ls0 hP0 hD0 hS0 hl0
  refine n_back (y := y) (maxL := maxL) (lev := lev) (as := (Value.ref b :: As).toArray) h isR hi hR hnd hdis (fun H locs Ls hP hS hl => ?_) kk H0 locs0 Ls0 hP0 hD0 hS0 hl0
  obtain ⟨g1, g2, g3⟩ := n_cb (c2 := c2) (s2 := s2) h hM hlev hlo hmax
  have hR2 := h.2.2.2.2.2.2.2.2.2.1
  exact va_runIN (Ts := WT) ⟨h.1, h.2.1, h.2.2.2.1, h.2.2.2.2.1, h.2.2.2.2.2.1⟩ (hct H.size) ⟨va_cnB n h.2.2.2.2.2.1 g1 rfl rfl rfl (h.2.2.2.2.2.2.2.1.1 _ hlk) (h.2.2.2.2.2.1 _ hM.1) hM.2.2 ⟨g2, g3⟩, hy, h.2.2.2.2.2.1 _ hin⟩ (n_pre h hi (hAb H0 locs0 hP0 hS0 hD0) hP hS) rfl hAs (hl.1.trans hnl) hst (lv_room hroom) d ⟨by rw [hR2]; exact hc, by rw [hR2]; exact hs⟩
theorem n_inA {G : Gt} {A : Nat → Prop} {ws : va_W} {i b : Nat} {e : va_E} {X : Cx} (hi : ws[i]? = some (b, e)) : ∀ H locs, va_P G.1 jcl ws H → va_S A X.2.2.2.2.1.heap H locs → va_D A ws → A b := fun _ _ _ _ hD => hD.2 i (b, e) hi
/-- a walk of a constructor is its contract -/
theorem ctn_of {G : Gt} {y : MethodName} {bytes : ByteArray} {maxL lev cN sN : Nat} {as : List Value} {h0 : Nat} {e0 : va_E} {mk : List Nat → va_W} {own : String} (hy : plainName y.cls = true) (hown : y.cls = own) (hyn : y.name = "<init>") {ls0 : List (Option Value)} (hls : aL 0 ls0 = lv_args 0 as) (hlen : ls0.length = maxL) (hsl : (lg_sl as).length ≤ maxL) (l : Launch)
    (walk : ∀ (X : Cx) (A : Nat → Prop), X.2.1 = l → OkN X G A bytes own maxL { frames := lev, cells := cN, slots := sN, locals := 64 * lev } → ∀ Q : State → Prop, (∀ (u : List Nat) (pc nx : Nat) (ls : List (Option Value)), u.length = cN → DD bytes pc .return_ 1 nx → JN X G A Q (mk u) cN sN pc ls []) → JN X G A Q [(h0, e0)] 0 0 0 ls0 []) : CtN l G y bytes maxL lev cN sN as h0 e0 mk := by
  intro sz
  subst hown
  refine Met.ofW (cc := bytes) (maxL := maxL) (ret := none) hy rfl ?_
  intro p e s mm args below meth c s₁ B hml hv
  obtain ⟨rfl, hsz, hP, hK, hN⟩ := hv
  subst hsz
  have hts := atoms_spec (ws := Cond.code y bytes maxL none :: WT) B.pre
  have hl := lv_entry as (n := maxL) hsl
  rw [lg_entry_eq]
  have hD0 : va_D (va_A [(h0, e0)] s.heap.size) [(h0, e0)] := by
    refine ⟨fun i j p q hi hj _ => ?_, fun k q hk => Or.inl ⟨k, q.2, hk⟩⟩
    have h1 := (List.getElem?_eq_some_iff.mp hi).1
    have h2 := (List.getElem?_eq_some_iff.mp hj).1
    simp at h1 h2
    omega
  have hA : ∀ q, s.heap.size ≤ q → va_A [(h0, e0)] s.heap.size q := fun q hq => Or.inr hq
  have ok : OkN (p, l, e, _, s, mm, as.toArray, below, meth, c) G (va_A [(h0, e0)] s.heap.size) bytes y.cls maxL { frames := lev, cells := cN, slots := sN, locals := 64 * lev } := ⟨B.exec, B.bytes, B.returns, hml, findClass_of_methodNamed B.named, fun w hw => hts w (List.mem_cons_of_mem _ hw), hK, hN, B.notSynchronized, rfl, by rw [(name_of_methodNamed B.named B.method).1]; exact hyn, hA⟩
  refine walk (p, l, e, _, s, mm, _, below, meth, c) (va_A [(h0, e0)] s.heap.size) rfl ok _ (fun u pc nx ls hu d => ?_) s.heap [] _ hP hD0 va_S.rf ?_
  · obtain ⟨d, rfl⟩ := d
    intro H locs Ls hP1 hD1 hS1 hl1
    exact W.vret B.exec B.bytes B.returns (fun t ht hW => ⟨⟨u, rfl, hu, by rw [ht]; exact hP1, hD1⟩, hS1.F ht⟩) hS1.2.2 d (hlocks := B.notSynchronized)
  · show lv_has _ ls0.length (aL 0 ls0)
    rw [hls, hlen]
    exact hl
theorem wt_oi : Cond.instanceMethod Lib.objectInit ∈ WT ∧ Cond.code Lib.objectInit ⟨#[0xb1]⟩ 1 none ∈ WT := ⟨wt_mem 134 (by decide +kernel) rfl, wt_mem 135 (by decide +kernel) rfl⟩
