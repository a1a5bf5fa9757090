/-! ===== rules: division, names, fields, rows, calls, ends ===== -/
/-- a new memory, named -/
def pt {β : Type} (m : Mem) (K : Mem → Option β) : Option β := K m
/-- a number, named -/
def nm {β : Type} (x : Int32) (K : Int32 → Option β) : Option β := K x
def nmL {β : Type} (x : Int64) (K : Int64 → Option β) : Option β := K x
/-- a row is read, written: nothing comes of a wrong index -/
def rd {β : Type} (f : Nat → Int32) (n : Nat) (i : Int32) (K : Int32 → Option β) : Option β := if ¬ (i < 0 ∨ n ≤ i.toNatClampNeg) then K (f i.toNatClampNeg) else none
def rdL {β : Type} (f : Nat → Int64) (n : Nat) (i : Int32) (K : Int64 → Option β) : Option β := if ¬ (i < 0 ∨ n ≤ i.toNatClampNeg) then K (f i.toNatClampNeg) else none
def wr {β : Type} (m : Mem) (q n : Nat) (i x : Int32) (K : Mem → Option β) : Option β := if ¬ (i < 0 ∨ n ≤ i.toNatClampNeg) then K (sI m q i.toNatClampNeg x) else none
def wrL {β : Type} (m : Mem) (q n : Nat) (i : Int32) (x : Int64) (K : Mem → Option β) : Option β := if ¬ (i < 0 ∨ n ≤ i.toNatClampNeg) then K (sL m q i.toNatClampNeg x) else none
/-- a divisor is looked at -/
def dv {β : Type} (y : Int32) (E : Option β) : Option β := if y = 0 then none else E
/-- a truth value is looked at -/
def tz {β : Type} (v : Int32) (E : Option β) : Option β := if narrow .boolean (.int v) = .int v then E else none
/-- answers: an int and no change; an int and a memory; a memory; a long and no change; a place and a memory -/
def cvP (m : Mem) (r : Int32) : Option Value × Mem := (some (.int r), m)
def cvI (q : Int32 × Mem) : Option Value × Mem := (some (.int q.1), q.2)
def cvV (m : Mem) : Option Value × Mem := (none, m)
def cvL (m : Mem) (r : Int64) : Option Value × Mem := (some (.long r), m)
def cvR (G : Gt) (q : Nat × Mem) : Option Value × Mem := (some (.ref (G.2.2 q.1)), q.2)
section R2
variable {α : Type} {Z : Zx} {cc : ByteArray} {own : String} {nL : Nat} {ret : Option FieldType} {lev : Nat} {cv : α → Option Value × Mem} {m : Mem} {pc nx : Nat} {ls : List (Option Value)} {st : List Value} {E : Option α}
theorem j_idivB (h : OkX Z cc own nL ret lev) {x y : Int32} (d : DD cc pc .idiv 1 nx) (hne : ¬ y = 0) (k : JR Z cv m nx ls (.int (x / y) :: st) E) : JR Z cv m pc ls (.int y :: .int x :: st) E := by
  obtain ⟨d, rfl⟩ := d
  intro a ha H locs Ls hP hS hl
  exact lv_idiv h.1 h.2.1 d hne (k a ha H locs Ls hP hS hl)
theorem j_iremB (h : OkX Z cc own nL ret lev) {x y : Int32} (d : DD cc pc .irem 1 nx) (hne : ¬ y = 0) (k : JR Z cv m nx ls (.int (x - x / y * y) :: st) E) : JR Z cv m pc ls (.int y :: .int x :: st) E := by
  obtain ⟨d, rfl⟩ := d
  intro a ha H locs Ls hP hS hl
  exact lv_irem h.1 h.2.1 d hne (k a ha H locs Ls hP hS hl)
theorem j_idiv (h : OkX Z cc own nL ret lev) {x y : Int32} (d : DD cc pc .idiv 1 nx) (k : JR Z cv m nx ls (.int (x / y) :: st) E) : JR Z cv m pc ls (.int y :: .int x :: st) (dv y E) := by
  intro a ha
  by_cases c : y = 0
  · rw [dv, if_pos c] at ha
    cases ha
  · rw [dv, if_neg c] at ha
    exact j_idivB h d c k a ha
theorem j_irem (h : OkX Z cc own nL ret lev) {x y : Int32} (d : DD cc pc .irem 1 nx) (k : JR Z cv m nx ls (.int (x - x / y * y) :: st) E) : JR Z cv m pc ls (.int y :: .int x :: st) (dv y E) := by
  intro a ha
  by_cases c : y = 0
  · rw [dv, if_pos c] at ha
    cases ha
  · rw [dv, if_neg c] at ha
    exact j_iremB h d c k a ha
theorem j_nm {x : Int32} {K : Int32 → Option α} (k : ∀ y, y = x → JR Z cv m pc ls (.int y :: st) (K y)) : JR Z cv m pc ls (.int x :: st) (nm x K) := k x rfl
theorem j_nmL {x : Int64} {K : Int64 → Option α} (k : ∀ y, y = x → JR Z cv m pc ls (.long y :: st) (K y)) : JR Z cv m pc ls (.long x :: st) (nmL x K) := k x rfl
theorem j_wk {ls' : List (Option Value)} (hw : lwk ls' ls) (k : JR Z cv m pc ls' st E) : JR Z cv m pc ls st E := fun a ha H locs Ls hP hS hl => k a ha H locs Ls hP hS (lO_wk hw hl)
theorem j_none : JR Z cv m pc ls st none := fun a ha => by cases ha
theorem j_get (h : OkX Z cc own nL ret lev) {C : String} {T : u_T} {N ci idx k a q0 : Nat} {fs : List Value} {v : Value} (hin : ∀ w ∈ u_ws C T N, w ∈ WT) (hc : jcl[ci]? = some (C, T, N)) (he : (Z.2.2.1 Z.2.1 m)[q0]? = some (a, .inr (ci, fs))) (hk : k < N) (hlink : Cond.fieldLink own idx C (T k).2.1 (T k).2.2.1 ∈ WT) (hT : (T k).1 = C) (hv : fs[k]? = some v) (d : DD cc pc (.getfield idx) 3 nx) (kk : JR Z cv m nx ls (v :: st) E) : JR Z cv m pc ls (.ref a :: st) E := by
  obtain ⟨d, rfl⟩ := d
  intro a' ha H locs Ls hP hS hl
  exact va_get h.1 h.2.1 h.2.2.2.2.2.1 hin h.2.2.2.2.1 h.2.2.2.2.2.2.1 hP q0 he hc k hk (h.2.2.2.2.2.1 _ hlink) (fun x hx => by rw [hT] at hx; exact hx) hv d (kk a' ha H locs Ls hP hS hl)
theorem j_getN (h : OkX Z cc own nL ret lev) {C host : String} {T : u_T} {N ci idx k a q0 : Nat} {fs : List Value} {v : Value} (hin : ∀ w ∈ u_ws C T N, w ∈ WT) (hc : jcl[ci]? = some (C, T, N)) (he : (Z.2.2.1 Z.2.1 m)[q0]? = some (a, .inr (ci, fs))) (hk : k < N) (hlink : Cond.fieldLinkNest own idx C (T k).2.1 (T k).2.2.1 host ∈ nestW) (hT : (T k).1 = C) (hv : fs[k]? = some v) (d : DD cc pc (.getfield idx) 3 nx) (kk : JR Z cv m nx ls (v :: st) E) : JR Z cv m pc ls (.ref a :: st) E := by
  obtain ⟨d, rfl⟩ := d
  intro a' ha H locs Ls hP hS hl
  exact va_getN h.1 h.2.1 h.2.2.2.2.2.1 hin h.2.2.2.2.1 h.2.2.2.2.2.2.1 hP q0 he hc k hk (va_Nw.use rfl (h.2.2.2.2.2.2.2.1.1 _ hlink)) (fun x hx => by rw [hT] at hx; exact hx) hv d (kk a' ha H locs Ls hP hS hl)
theorem j_put (h : OkX Z cc own nL ret lev) {C : String} {T : u_T} {N ci idx k a q0 : Nat} {fs : List Value} {v : Value} {ty : FieldType} {ty0 : Nat → FieldType} {m' : Mem} {K : Mem → Option α} (hin : ∀ w ∈ u_ws C T N, w ∈ WT) (hty : ∀ k, k < N → parseFieldDescriptor (T k).2.2.1 = some (ty0 k)) (hnm : ∀ a, a < N → ∀ b, b < N → a ≠ b → (T a).2.1 ≠ (T b).2.1) (hc : jcl[ci]? = some (C, T, N)) (he : (Z.2.2.1 Z.2.1 m)[q0]? = some (a, .inr (ci, fs))) (hk : k < N) (hlink : Cond.fieldLink own idx C (T k).2.1 (T k).2.2.1 ∈ WT) (hT : (T k).1 = C ∧ (T k).2.2.2 = false ∧ ty0 k = ty) (hn : narrow ty v = v) (hfit : fits ty v = true) (hl0 : k < fs.length) (hset : (Z.2.2.1 Z.2.1 m).set q0 (a, .inr (ci, fs.set k v)) = Z.2.2.1 Z.2.1 m') (d : DD cc pc (.putfield idx) 3 nx) (kk : ∀ m1, m1 = m' → JR Z cv m1 nx ls st (K m1)) : JR Z cv m pc ls (v :: .ref a :: st) (pt m' K) := by
  obtain ⟨d, rfl⟩ := d
  intro a' ha H locs Ls hP hS hl
  refine va_put h.1 h.2.1 h.2.2.2.2.2.1 hin ty0 hty hnm h.2.2.2.2.1 h.2.2.2.2.2.2.1 hP (h.2.2.2.2.2.2.2.2.2.2 m) hS q0 he hc k hk (h.2.2.2.2.2.1 _ hlink) (fun x hx => by rw [hT.1] at hx; exact hx) hT.2.1 (by rw [← hT.2.2]; exact hty k hk) hn hfit hl0 d (fun H1 locs1 hP1 hD1 hS1 => ?_)
  rw [hset] at hP1
  exact kk m' rfl a' ha H1 locs1 Ls hP1 hS1 hl
theorem j_putN (h : OkX Z cc own nL ret lev) {C host : String} {T : u_T} {N ci idx k a q0 : Nat} {fs : List Value} {v : Value} {ty : FieldType} {ty0 : Nat → FieldType} {m' : Mem} {K : Mem → Option α} (hin : ∀ w ∈ u_ws C T N, w ∈ WT) (hty : ∀ k, k < N → parseFieldDescriptor (T k).2.2.1 = some (ty0 k)) (hnm : ∀ a, a < N → ∀ b, b < N → a ≠ b → (T a).2.1 ≠ (T b).2.1) (hc : jcl[ci]? = some (C, T, N)) (he : (Z.2.2.1 Z.2.1 m)[q0]? = some (a, .inr (ci, fs))) (hk : k < N) (hlink : Cond.fieldLinkNest own idx C (T k).2.1 (T k).2.2.1 host ∈ nestW) (hT : (T k).1 = C ∧ (T k).2.2.2 = false ∧ ty0 k = ty) (hn : narrow ty v = v) (hfit : fits ty v = true) (hl0 : k < fs.length) (hset : (Z.2.2.1 Z.2.1 m).set q0 (a, .inr (ci, fs.set k v)) = Z.2.2.1 Z.2.1 m') (d : DD cc pc (.putfield idx) 3 nx) (kk : ∀ m1, m1 = m' → JR Z cv m1 nx ls st (K m1)) : JR Z cv m pc ls (v :: .ref a :: st) (pt m' K) := by
  obtain ⟨d, rfl⟩ := d
  intro a' ha H locs Ls hP hS hl
  refine va_putN h.1 h.2.1 h.2.2.2.2.2.1 hin ty0 hty hnm h.2.2.2.2.1 h.2.2.2.2.2.2.1 hP (h.2.2.2.2.2.2.2.2.2.2 m) hS q0 he hc k hk (va_Nw.use rfl (h.2.2.2.2.2.2.2.1.1 _ hlink)) (fun x hx => by rw [hT.1] at hx; exact hx) hT.2.1 (by rw [← hT.2.2]; exact hty k hk) hn hfit hl0 d (fun H1 locs1 hP1 hD1 hS1 => ?_)
  rw [hset] at hP1
  exact kk m' rfl a' ha H1 locs1 Ls hP1 hS1 hl
theorem j_iald (h : OkX Z cc own nL ret lev) {a q0 n : Nat} {f : Nat → Int32} {i : Int32} {K : Int32 → Option α} (he : (Z.2.2.1 Z.2.1 m)[q0]? = some (a, .inl (Z.2.1.2.1.1, n, .inl f))) (d : DD cc pc .iaload 1 nx) (kk : ∀ v, v = f i.toNatClampNeg → JR Z cv m nx ls (.int v :: st) (K v)) : JR Z cv m pc ls (.int i :: .ref a :: st) (rd f n i K) := by
  obtain ⟨d, rfl⟩ := d
  intro a' ha H locs Ls hP hS hl
  unfold rd at ha
  split at ha
  · rename_i c
    exact va_iald h.1 h.2.1 h.2.2.2.2.2.2.1 hP q0 0 he rfl c d (kk _ rfl a' ha H locs Ls hP hS hl)
  · cases ha
theorem j_bald (h : OkX Z cc own nL ret lev) {a q0 n : Nat} {f : Nat → Int32} {i : Int32} {K : Int32 → Option α} (he : (Z.2.2.1 Z.2.1 m)[q0]? = some (a, .inl (Z.2.1.2.1.2.1, n, .inl f))) (d : DD cc pc .baload 1 nx) (kk : ∀ v, v = f i.toNatClampNeg → JR Z cv m nx ls (.int v :: st) (K v)) : JR Z cv m pc ls (.int i :: .ref a :: st) (rd f n i K) := by
  obtain ⟨d, rfl⟩ := d
  intro a' ha H locs Ls hP hS hl
  unfold rd at ha
  split at ha
  · rename_i c
    exact va_bald h.1 h.2.1 h.2.2.2.2.2.2.1 hP q0 1 he rfl c d (kk _ rfl a' ha H locs Ls hP hS hl)
  · cases ha
theorem j_zald (h : OkX Z cc own nL ret lev) {a q0 n : Nat} {f : Nat → Int32} {i : Int32} {K : Int32 → Option α} (he : (Z.2.2.1 Z.2.1 m)[q0]? = some (a, .inl (Z.2.1.2.1.2.2.2, n, .inl f))) (d : DD cc pc .baload 1 nx) (kk : ∀ v, v = f i.toNatClampNeg → JR Z cv m nx ls (.int v :: st) (K v)) : JR Z cv m pc ls (.int i :: .ref a :: st) (rd f n i K) := by
  obtain ⟨d, rfl⟩ := d
  intro a' ha H locs Ls hP hS hl
  unfold rd at ha
  split at ha
  · rename_i c
    exact va_zald h.1 h.2.1 h.2.2.2.2.2.2.1 hP q0 3 he rfl c d (kk _ rfl a' ha H locs Ls hP hS hl)
  · cases ha
theorem j_lald (h : OkX Z cc own nL ret lev) {a q0 n : Nat} {f : Nat → Int64} {i : Int32} {K : Int64 → Option α} (he : (Z.2.2.1 Z.2.1 m)[q0]? = some (a, .inl (Z.2.1.2.1.2.2.1, n, .inr (.inl f)))) (d : DD cc pc .laload 1 nx) (kk : ∀ v, v = f i.toNatClampNeg → JR Z cv m nx ls (.long v :: st) (K v)) : JR Z cv m pc ls (.int i :: .ref a :: st) (rdL f n i K) := by
  obtain ⟨d, rfl⟩ := d
  intro a' ha H locs Ls hP hS hl
  unfold rdL at ha
  split at ha
  · rename_i c
    exact va_lald h.1 h.2.1 h.2.2.2.2.2.2.1 hP q0 2 he rfl c d (kk _ rfl a' ha H locs Ls hP hS hl)
  · cases ha
theorem j_iast (h : OkX Z cc own nL ret lev) {a q0 q n : Nat} {i x : Int32} {K : Mem → Option α} (he : (Z.2.2.1 Z.2.1 m)[q0]? = some (a, .inl (Z.2.1.2.1.1, n, .inl (m.1 q)))) (hset : ∀ g, (Z.2.2.1 Z.2.1 m).set q0 (a, .inl (Z.2.1.2.1.1, n, .inl g)) = Z.2.2.1 Z.2.1 (sW m q g)) (d : DD cc pc .iastore 1 nx) (kk : ∀ m1, m1 = sI m q i.toNatClampNeg x → JR Z cv m1 nx ls st (K m1)) : JR Z cv m pc ls (.int x :: .int i :: .ref a :: st) (wr m q n i x K) := by
  obtain ⟨d, rfl⟩ := d
  intro a' ha H locs Ls hP hS hl
  unfold wr at ha
  split at ha
  · rename_i c
    refine va_iast h.1 h.2.1 h.2.2.2.2.2.2.1 hP (h.2.2.2.2.2.2.2.2.2.2 m) hS q0 0 he rfl c d (fun H1 locs1 hP1 hD1 hS1 => ?_)
    rw [hset] at hP1
    exact kk _ rfl a' ha H1 locs1 Ls hP1 hS1 hl
  · cases ha
theorem j_bast (h : OkX Z cc own nL ret lev) {a q0 q n : Nat} {i x : Int32} {K : Mem → Option α} (he : (Z.2.2.1 Z.2.1 m)[q0]? = some (a, .inl (Z.2.1.2.1.2.1, n, .inl (m.1 q)))) (hset : ∀ g, (Z.2.2.1 Z.2.1 m).set q0 (a, .inl (Z.2.1.2.1.2.1, n, .inl g)) = Z.2.2.1 Z.2.1 (sW m q g)) (d : DD cc pc .bastore 1 nx) (kk : ∀ m1, m1 = sI m q i.toNatClampNeg (vp_nar .byte x) → JR Z cv m1 nx ls st (K m1)) : JR Z cv m pc ls (.int x :: .int i :: .ref a :: st) (wr m q n i (vp_nar .byte x) K) := by
  obtain ⟨d, rfl⟩ := d
  intro a' ha H locs Ls hP hS hl
  unfold wr at ha
  split at ha
  · rename_i c
    refine va_bast h.1 h.2.1 h.2.2.2.2.2.2.1 hP (h.2.2.2.2.2.2.2.2.2.2 m) hS q0 1 he rfl c d (fun H1 locs1 hP1 hD1 hS1 => ?_)
    rw [hset] at hP1
    exact kk _ rfl a' ha H1 locs1 Ls hP1 hS1 hl
  · cases ha
theorem j_zast (h : OkX Z cc own nL ret lev) {a q0 q n : Nat} {i x : Int32} {K : Mem → Option α} (he : (Z.2.2.1 Z.2.1 m)[q0]? = some (a, .inl (Z.2.1.2.1.2.2.2, n, .inl (m.1 q)))) (hset : ∀ g, (Z.2.2.1 Z.2.1 m).set q0 (a, .inl (Z.2.1.2.1.2.2.2, n, .inl g)) = Z.2.2.1 Z.2.1 (sW m q g)) (d : DD cc pc .bastore 1 nx) (kk : ∀ m1, m1 = sI m q i.toNatClampNeg (vp_nar .boolean x) → JR Z cv m1 nx ls st (K m1)) : JR Z cv m pc ls (.int x :: .int i :: .ref a :: st) (wr m q n i (vp_nar .boolean x) K) := by
  obtain ⟨d, rfl⟩ := d
  intro a' ha H locs Ls hP hS hl
  unfold wr at ha
  split at ha
  · rename_i c
    refine va_zast h.1 h.2.1 h.2.2.2.2.2.2.1 hP (h.2.2.2.2.2.2.2.2.2.2 m) hS q0 3 he rfl c d (fun H1 locs1 hP1 hD1 hS1 => ?_)
    rw [hset] at hP1
    exact kk _ rfl a' ha H1 locs1 Ls hP1 hS1 hl
  · cases ha
theorem j_last (h : OkX Z cc own nL ret lev) {a q0 q n : Nat} {i : Int32} {x : Int64} {K : Mem → Option α} (he : (Z.2.2.1 Z.2.1 m)[q0]? = some (a, .inl (Z.2.1.2.1.2.2.1, n, .inr (.inl (m.2.1 q))))) (hset : (Z.2.2.1 Z.2.1 m).set q0 (a, .inl (Z.2.1.2.1.2.2.1, n, .inr (.inl (vp_updL (m.2.1 q) i.toNatClampNeg x)))) = Z.2.2.1 Z.2.1 (sL m q i.toNatClampNeg x)) (d : DD cc pc .lastore 1 nx) (kk : ∀ m1, m1 = sL m q i.toNatClampNeg x → JR Z cv m1 nx ls st (K m1)) : JR Z cv m pc ls (.long x :: .int i :: .ref a :: st) (wrL m q n i x K) := by
  obtain ⟨d, rfl⟩ := d
  intro a' ha H locs Ls hP hS hl
  unfold wrL at ha
  split at ha
  · rename_i c
    refine va_last h.1 h.2.1 h.2.2.2.2.2.2.1 hP (h.2.2.2.2.2.2.2.2.2.2 m) hS q0 2 he rfl c d (fun H1 locs1 hP1 hD1 hS1 => ?_)
    rw [hset] at hP1
    exact kk _ rfl a' ha H1 locs1 Ls hP1 hS1 hl
  · cases ha
theorem j_alen (h : OkX Z cc own nL ret lev) {a q0 : Nat} {x : vp_A} {v : Int32} (he : (Z.2.2.1 Z.2.1 m)[q0]? = some (a, .inl (Z.2.1.2.1.1, x))) (hv : Int32.ofNat x.1 = v) (d : DD cc pc .arraylength 1 nx) (kk : JR Z cv m nx ls (.int v :: st) E) : JR Z cv m pc ls (.ref a :: st) E := by
  obtain ⟨d, rfl⟩ := d
  intro a' ha H locs Ls hP hS hl
  exact va_alen h.1 h.2.1 h.2.2.2.2.2.2.1 hP q0 0 he rfl hv d (kk a' ha H locs Ls hP hS hl)
/-- ends -/
theorem j_iret (h : OkX Z cc own nL (some .int) lev) {a : α} {v : Int32} (hcv : cv a = (some (.int v), m)) (d : DD cc pc .ireturn 1 nx) : JR Z cv m pc ls [.int v] (some a) := by
  obtain ⟨d, rfl⟩ := d
  intro a' ha H locs Ls hP hS hl
  cases ha
  exact W.iret h.1 h.2.1 h.2.2.1 (fun t ht hW => ⟨by rw [hcv], by rw [hcv, ht]; exact hP, hS.F ht⟩) hS.2.2 d (hlocks := h.2.2.2.2.2.2.2.2.1)
theorem j_zretB (h : OkX Z cc own nL (some .boolean) lev) {a : α} {v : Int32} (hcv : cv a = (some (.int v), m)) (hn : narrow .boolean (.int v) = .int v) (d : DD cc pc .ireturn 1 nx) : JR Z cv m pc ls [.int v] (some a) := by
  obtain ⟨d, rfl⟩ := d
  intro a' ha H locs Ls hP hS hl
  cases ha
  exact W.zret h.1 h.2.1 h.2.2.1 hn (fun t ht hW => ⟨by rw [hcv], by rw [hcv, ht]; exact hP, hS.F ht⟩) hS.2.2 d (hlocks := h.2.2.2.2.2.2.2.2.1)
theorem j_zret (h : OkX Z cc own nL (some .boolean) lev) {a : α} {v : Int32} (hcv : cv a = (some (.int v), m)) (d : DD cc pc .ireturn 1 nx) : JR Z cv m pc ls [.int v] (tz v (some a)) := by
  intro a' ha
  by_cases c : narrow .boolean (.int v) = .int v
  · rw [tz, if_pos c] at ha
    exact j_zretB h hcv c d a' ha
  · rw [tz, if_neg c] at ha
    cases ha
theorem j_lret (h : OkX Z cc own nL (some .long) lev) {a : α} {v : Int64} (hcv : cv a = (some (.long v), m)) (d : DD cc pc .lreturn 1 nx) : JR Z cv m pc ls [.long v] (some a) := by
  obtain ⟨d, rfl⟩ := d
  intro a' ha H locs Ls hP hS hl
  cases ha
  exact W.lret h.1 h.2.1 h.2.2.1 (fun t ht hW => ⟨by rw [hcv], by rw [hcv, ht]; exact hP, hS.F ht⟩) hS.2.2 d (hlocks := h.2.2.2.2.2.2.2.2.1)
theorem j_vret (h : OkX Z cc own nL none lev) {a : α} (hcv : cv a = (none, m)) (d : DD cc pc .return_ 1 nx) : JR Z cv m pc ls [] (some a) := by
  obtain ⟨d, rfl⟩ := d
  intro a' ha H locs Ls hP hS hl
  cases ha
  exact W.vret h.1 h.2.1 h.2.2.1 (fun t ht hW => ⟨by rw [hcv], by rw [hcv, ht]; exact hP, hS.F ht⟩) hS.2.2 d (hlocks := h.2.2.2.2.2.2.2.2.1)
theorem j_aret {C : String} (h : OkX Z cc own nL (some (.object C)) lev) {a : α} {q : Nat} (hcv : cv a = (some (.ref q), m)) (d : DD cc pc .areturn 1 nx) : JR Z cv m pc ls [.ref q] (some a) := by
  obtain ⟨d, rfl⟩ := d
  intro a' ha H locs Ls hP hS hl
  cases ha
  exact W.aret h.1 h.2.1 h.2.2.1 (Or.inl ⟨_, rfl⟩) (Or.inr ⟨_, rfl⟩) (fun t ht hW => ⟨by rw [hcv], by rw [hcv, ht]; exact hP, hS.F ht⟩) hS.2.2 d (hlocks := h.2.2.2.2.2.2.2.2.1)
/-- switches -/
theorem j_tabIn (h : OkX Z cc own nL ret lev) {dflt lo hi off : Int} {offs : Array Int} {len tgt : Nat} {x v : Int32} (hx : x = v) (d : DD cc pc (.tableswitch dflt lo hi offs) len nx) (h1 : ¬ v.toInt < lo) (h2 : ¬ hi < v.toInt) (ho : offs[(v.toInt - lo).toNat]? = some off) (ht : (pc : Int) + off = (tgt : Int)) (k : JR Z cv m tgt ls st E) : JR Z cv m pc ls (.int x :: st) E := by
  subst hx
  obtain ⟨d, -⟩ := d
  intro a ha H locs Ls hP hS hl
  exact lv_tableIn h.1 h.2.1 d h1 h2 ho ht (k a ha H locs Ls hP hS hl)
theorem j_tabOut (h : OkX Z cc own nL ret lev) {dflt lo hi : Int} {offs : Array Int} {len tgt : Nat} {x : Int32} (vs : List Int32) (d : DD cc pc (.tableswitch dflt lo hi offs) len nx) (hx : ∀ v ∈ vs, ¬ x = v) (hvs : hi = lo + vs.length - 1) (hv : ∀ k, k < vs.length → ∃ v, vs[k]? = some v ∧ v.toInt = lo + k) (ht : (pc : Int) + dflt = (tgt : Int)) (k : JR Z cv m tgt ls st E) : JR Z cv m pc ls (.int x :: st) E := by
  obtain ⟨d, -⟩ := d
  intro a ha H locs Ls hP hS hl
  refine lv_tableOut h.1 h.2.1 d ?_ ht (k a ha H locs Ls hP hS hl)
  by_cases c1 : x.toInt < lo
  · exact Or.inl c1
  · by_cases c2 : hi < x.toInt
    · exact Or.inr c2
    · exfalso
      obtain ⟨v, e1, e2⟩ := hv (x.toInt - lo).toNat (by omega)
      exact hx v (List.mem_of_getElem? e1) (Int32.toInt_inj.mp (by rw [e2]; omega))
theorem j_lookup (h : OkX Z cc own nL ret lev) {dflt off : Int} {ps : Array (Int × Int)} {len tgt : Nat} {x : Int32} (d : DD cc pc (.lookupswitch dflt ps) len nx) (hp : (ps.toList.zip (ps.toList.drop 1)).all (fun (a, next) => a.1 < next.1) = true) (ho : Op.lookupswitch.offset ps.toList dflt x.toInt = off) (ht : (pc : Int) + off = (tgt : Int)) (k : JR Z cv m tgt ls st E) : JR Z cv m pc ls (.int x :: st) E := by
  obtain ⟨d, -⟩ := d
  intro a ha H locs Ls hP hS hl
  exact lv_lookup h.1 h.2.1 d hp ho ht (k a ha H locs Ls hP hS hl)
end R2
/-! calls -/
theorem good_wt {ws : List Cond} (h : ∀ w ∈ ws, w ∈ WT) : GoodIn WT ws := fun w hw => ⟨h w hw, good_of_word (List.mem_filter.mp (h w hw)).2⟩
/-- what a call's words are: of the method, and of the call's own place -/
def mOK (y : MethodName) (bytes : ByteArray) (maxL : Nat) (ret : Option FieldType) (n : Nat) : Prop :=
  (Cond.initialized y.cls ∈ WT) ∧ (Cond.code y bytes maxL ret ∈ WT) ∧ y.cls ≠ "java/lang/invoke/MethodHandle" ∧ y.cls ≠ "java/lang/invoke/VarHandle" ∧ (parseMethodDescriptor y.desc).map (fun d => d.parameters.length) = some n
theorem Hd.blind {G : Gt} {wf : Wf} {n : Nat} {m : Mem} {as : List Value} : FrameBlind (va_Pc as (Hd G wf n m)) := fun a U g mk q => ⟨q.1, q.2.1, va_K.moved (u := U) (U := U.calling g mk a) (Vm.Alike.refl U.vm) q.2.2.1, NX.calling g mk a q.2.2.2⟩
theorem callOK {Z : Zx} {cc : ByteArray} {own : String} {nL : Nat} {ret : Option FieldType} {lev : Nat} (h : OkX Z cc own nL ret lev) {y : MethodName} {bytes : ByteArray} {maxL n idx lev2 : Nat} {ret2 : Option FieldType} (hM : mOK y bytes maxL ret2 n) (hl : Cond.methodLink own idx y ∈ WT) (hlev : lev2 < lev) (hmax : maxL ≤ 45) : CallB Z.1.2.2.2.1 Z.1.2.2.2.2.1 Z.1.2.2.2.2.2.2.1 own idx y bytes maxL ret2 (.code y bytes maxL ret2 :: WT) (rmv lev2) 0 0 n := by
  obtain ⟨h1, h2, h3, h4, h5⟩ := hM
  refine callB_of (Ts := WT) n h.2.2.2.2.2.1 (good_wt ?_) rfl rfl rfl (h.2.2.2.2.2.1 _ h1) (h.2.2.2.2.2.1 _ hl) ⟨h3, h4, h5⟩ ?_
  · intro w hw
    rcases List.mem_cons.mp hw with rfl | hw
    · exact h2
    · exact hw
  · rw [h.2.2.2.2.2.2.2.2.2.1]
    simp only [rmv]
    omega
theorem j_back {α β : Type} {Z : Zx} {cc : ByteArray} {own : String} {nL : Nat} {ret : Option FieldType} {lev : Nat} (h : OkX Z cc own nL ret lev) {cv : α → Option Value × Mem} {m : Mem} {pc : Nat} {ls : List (Option Value)} {st st0 : List Value} {cv2 : β → Option Value × Mem} {F : Option β} {K : β → Option α} {as : Array Value}
    (run : ∀ b, F = some b → ∀ (H : Heap) (locs : List Loc) (Ls : Array Slot), va_P Z.2.1.1 jcl (Z.2.2.1 Z.2.1 m) H → va_S (inA Z.2.1 Z.2.2.2) Z.1.2.2.2.2.1.heap H locs → lO Ls ls → va_Run Z.1.1 Z.1.2.1 Z.1.2.2.1 Z.1.2.2.2.1 Z.1.2.2.2.2.1 Z.1.2.2.2.2.2.1 Z.1.2.2.2.2.2.2.1 Z.1.2.2.2.2.2.2.2.1 Z.1.2.2.2.2.2.2.2.2.1 Z.1.2.2.2.2.2.2.2.2.2 H locs 0 0 0 0 (F0 Z.1.2.2.2.2.2.1 pc Ls st0) st (Qo Z.2.1 Z.2.2.1 Z.2.2.2 (cv2 b) as) (inA Z.2.1 Z.2.2.2))
    (kk : ∀ b, F = some b → JR Z cv (cv2 b).2 (pc + 3) ls ((cv2 b).1.toList ++ st) (K b)) : JR Z cv m pc ls st0 (F.bind K) := by
  intro a ha H locs Ls hP hS hl
  cases hF : F with
  | none => rw [hF] at ha; cases ha
  | some b =>
    rw [hF] at ha
    have ha : K b = some a := ha
    intro T hT X
    obtain ⟨v, st₀, t, T', L, h0, X', hL, e1, e2, ⟨hv, hp, hz, hk⟩, sg⟩ := run b hF H locs Ls hP hS hl T hT X
    cases hv
    rw [h0] at hz hk
    obtain ⟨t2, a1, b1⟩ := kk b hF a ha T'.heap (locs ++ L) Ls (by rw [e1]; exact hp) ⟨Nat.le_trans hS.1 (by rw [e1]; exact hz), fun q h1 h2 => by rw [e1, hk q (Nat.lt_of_lt_of_le h1 hS.1) h2]; exact hS.2.1 q h1 h2, fun q hq => by
      rcases List.mem_append.mp hq with h | h
      · exact hS.2.2 q h
      · exact hL q h⟩ hl T' rfl X'
    exact ⟨t2, sg t2 a1, b1⟩
theorem j_callV {α β : Type} {Z : Zx} {cc : ByteArray} {own : String} {nL : Nat} {ret : Option FieldType} {lev : Nat} (h : OkX Z cc own nL ret lev) {cv : α → Option Value × Mem} {m : Mem} {pc nx : Nat} {ls : List (Option Value)} {st st0 : List Value} {cv2 : β → Option Value × Mem} {F : Option β} {K : β → Option α} {y : MethodName} {bytes : ByteArray} {maxL n idx lev2 b q0 ci N : Nat} {T : u_T} {fs : List Value} {ret2 : Option FieldType} (As : List Value)
    (hct : ∀ a, F = some a → Ct Z.1.2.1 Z.2.1 Z.2.2.1 Z.2.2.2 y bytes maxL ret2 lev2 (.ref b :: As) m (cv2 a)) (hM : mOK y bytes maxL ret2 n) (hi : Cond.instanceMethod y ∈ WT ∧ Cond.selects y.cls y y ∈ WT) (hlk : Cond.methodLink own idx y ∈ WT) (hc : jcl[ci]? = some (y.cls, T, N)) (he : (Z.2.2.1 Z.2.1 m)[q0]? = some (b, .inr (ci, fs))) (hst : st0 = As.reverse ++ .ref b :: st) (hAs : As.length = n) (hlev : lev2 < lev) (hmax : maxL ≤ 45) (hroom : (st.map fun v => v.category).sum ≤ 8) (hnl : ls.length = nL) (d : DD cc pc (.invokevirtual idx) 3 nx)
    (kk : ∀ a, F = some a → JR Z cv (cv2 a).2 nx ls ((cv2 a).1.toList ++ st) (K a)) : JR Z cv m pc ls st0 (F.bind K) := by
  obtain ⟨d, rfl⟩ := d
  refine j_back (as := (Value.ref b :: As).toArray) h (fun a ha H locs Ls hP hS hl => ?_) kk
  exact va_runV (C := y.cls) (Ts := WT) ⟨h.1, h.2.1, h.2.2.2.1, h.2.2.2.2.1, h.2.2.2.2.2.1⟩ (hct a ha) ⟨callOK h hM hlk hlev hmax, h.2.2.2.2.2.1 _ hi.1, h.2.2.2.2.2.1 _ hi.2⟩ ⟨Hd.blind, va_recv h.2.2.2.2.2.2.1 hP hc he, fun U hU hW => ⟨rfl, by rw [hU]; exact hP, va_K.moved hW.alike h.2.2.2.2.2.2.1, NX.warm hS hU hW h.2.2.2.2.2.2.2.1⟩⟩ rfl hAs (hl.1.trans hnl) hst (lv_room hroom) d ⟨Nat.zero_le _, Nat.zero_le _⟩
theorem j_callS {α β : Type} {Z : Zx} {cc : ByteArray} {own : String} {nL : Nat} {ret : Option FieldType} {lev : Nat} (h : OkX Z cc own nL ret lev) {cv : α → Option Value × Mem} {m : Mem} {pc nx : Nat} {ls : List (Option Value)} {st st0 : List Value} {cv2 : β → Option Value × Mem} {F : Option β} {K : β → Option α} {y : MethodName} {bytes : ByteArray} {maxL n idx lev2 : Nat} {ret2 : Option FieldType} (As : List Value)
    (hct : ∀ a, F = some a → Ct Z.1.2.1 Z.2.1 Z.2.2.1 Z.2.2.2 y bytes maxL ret2 lev2 As m (cv2 a)) (hM : mOK y bytes maxL ret2 n) (hi : Cond.static y ∈ WT) (hlk : Cond.methodLink own idx y ∈ WT) (hst : st0 = As.reverse ++ st) (hAs : As.length = n) (hlev : lev2 < lev) (hmax : maxL ≤ 45) (hroom : (st.map fun v => v.category).sum ≤ 8) (hnl : ls.length = nL) (d : DD cc pc (.invokestatic idx) 3 nx)
    (kk : ∀ a, F = some a → JR Z cv (cv2 a).2 nx ls ((cv2 a).1.toList ++ st) (K a)) : JR Z cv m pc ls st0 (F.bind K) := by
  obtain ⟨d, rfl⟩ := d
  refine j_back (as := As.toArray) h (fun a ha H locs Ls hP hS hl => ?_) kk
  exact va_runS (Ts := WT) ⟨h.1, h.2.1, h.2.2.2.1, h.2.2.2.2.1, h.2.2.2.2.2.1⟩ (hct a ha) ⟨callOK h hM hlk hlev hmax, h.2.2.2.2.2.1 _ hi⟩ ⟨Hd.blind, fun U hU hW => ⟨rfl, by rw [hU]; exact hP, va_K.moved hW.alike h.2.2.2.2.2.2.1, NX.warm hS hU hW h.2.2.2.2.2.2.2.1⟩⟩ rfl hAs (hl.1.trans hnl) hst (lv_room hroom) d ⟨Nat.zero_le _, Nat.zero_le _⟩
/-- a walk of the body is a contract -/
theorem ct_of {α : Type} {G : Gt} {wf : Wf} {n : Nat} {y : MethodName} {bytes : ByteArray} {maxL : Nat} {ret : Option FieldType} {lev : Nat} {as : List Value} {m : Mem} {cv : α → Option Value × Mem} {E : Option α} {own : String} (hy : plainName y.cls = true) (hown : y.cls = own) {ls0 : List (Option Value)} (hls : aL 0 ls0 = lv_args 0 as) (hlen : ls0.length = maxL) (hsl : (lg_sl as).length ≤ maxL) (hD : ∀ m, va_D (inA G n) (wf G m)) (walk : ∀ X : Cx, OkX (X, G, wf, n) bytes own maxL ret lev → JR (X, G, wf, n) cv m 0 ls0 [] E) (l : Launch) : ∀ a, E = some a → Ct l G wf n y bytes maxL ret lev as m (cv a) := by
  intro a ha
  subst hown
  refine Met.ofW (cc := bytes) (maxL := maxL) (ret := ret) hy rfl ?_
  intro p e s mm args below meth c s₁ B hml hv
  obtain ⟨rfl, hP, hK, hN⟩ := hv
  have hts := atoms_spec (ws := Cond.code y bytes maxL ret :: WT) B.pre
  have hl := lv_entry as (n := maxL) hsl
  rw [lg_entry_eq]
  refine walk (p, l, e, _, s, mm, _, below, meth, c) ⟨B.exec, B.bytes, B.returns, hml, findClass_of_methodNamed B.named, fun w hw => hts w (List.mem_cons_of_mem _ hw), hK, hN, B.notSynchronized, rfl, hD⟩ a ha s.heap [] _ hP va_S.rf ?_
  show lv_has _ ls0.length (aL 0 ls0)
  rw [hls, hlen]
  exact hl
