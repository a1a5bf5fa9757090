/-! ===== the law: two objects, a script, a call of each by turns ===== -/
def R_law : String := "HingeTownLaw"
abbrev Lc : Nat := 122
abbrev Ls_ : Nat := 13891
def JL (X : Cx) (Gc Gm : Gt) (Q : State → Prop) (mC mM : Mem) (pc : Nat) (ls : List (Option Value)) (st : List Value) : Prop :=
  ∀ (H : Heap) (locs : List Loc) (Ls : Array Slot), va_P Gc.1 jcl (wC Gc mC) H → va_P Gm.1 jcl (wM Gm mM) H → va_S (fun q => X.2.2.2.2.1.heap.size ≤ q) X.2.2.2.2.1.heap H locs → lO Ls ls →
    W X.1 X.2.1 X.2.2.1 X.2.2.2.1 X.2.2.2.2.1 X.2.2.2.2.2.1 X.2.2.2.2.2.2.1 X.2.2.2.2.2.2.2.1 X.2.2.2.2.2.2.2.2.1 X.2.2.2.2.2.2.2.2.2 H locs Lc Ls_ Q (F0 X.2.2.2.2.2.1 pc Ls st)
def OkL (X : Cx) (Gc Gm : Gt) (b L : Nat) (xs : Nat → Int32) : Prop :=
  X.1.tables.exec = Jvm.exec ∧ X.2.2.2.2.2.2.2.2.2.code = code ∧ X.2.2.2.2.2.2.2.2.2.maxLocals = 4 ∧ X.2.2.2.2.1.vm.findClass R_law = some X.2.2.2.2.2.1.cls ∧ (∀ w ∈ WT, w.before X.2.2.2.2.2.2.1 X.2.2.2.2.1 = true) ∧ va_K Gc.1 jcl (tyG Gc) X.2.2.2.2.1 ∧ va_K Gm.1 jcl (tyG Gm) X.2.2.2.2.1 ∧ NX Gc nC X.2.2.2.2.1 ∧ NX Gm nM X.2.2.2.2.1 ∧ va_X b L xs X.2.2.2.2.1 X.2.2.2.2.1.heap ∧ b < X.2.2.2.2.1.heap.size ∧ X.2.2.2.1 = room_1 ∧ (∀ m, va_D (fun q => X.2.2.2.2.1.heap.size ≤ q) (wC Gc m)) ∧ (∀ m, va_D (fun q => X.2.2.2.2.1.heap.size ≤ q) (wM Gm m)) ∧ ∀ i, i < 74 → ∀ j, j < 48 → Gc.2.2 i ≠ Gm.2.2 j
section LWR
variable {X : Cx} {Gc Gm : Gt} {b L : Nat} {xs : Nat → Int32} {Q : State → Prop} {mC mM : Mem} {pc nx : Nat} {ls : List (Option Value)} {st : List Value}
theorem l_aload (h : OkL X Gc Gm b L xs) {i : Fin 4} {x : Nat} (d : DD code pc (.aload_n i) 1 nx) (hi : ls[(i : Nat)]? = some (some (.ref x))) (k : JL X Gc Gm Q mC mM nx ls (.ref x :: st)) : JL X Gc Gm Q mC mM pc ls (st) := by
  obtain ⟨d, rfl⟩ := d
  intro H locs Ls hP hM hS hl
  exact lv_aload_n h.1 h.2.1 d rfl (lO_at hl hi) (k H locs Ls hP hM hS hl)
theorem l_iload (h : OkL X Gc Gm b L xs) {i : Fin 4} {x : Int32} (d : DD code pc (.iload_n i) 1 nx) (hi : ls[(i : Nat)]? = some (some (.int x))) (k : JL X Gc Gm Q mC mM nx ls (.int x :: st)) : JL X Gc Gm Q mC mM pc ls (st) := by
  obtain ⟨d, rfl⟩ := d
  intro H locs Ls hP hM hS hl
  exact lv_iload_n h.1 h.2.1 d rfl (lO_at hl hi) (k H locs Ls hP hM hS hl)
theorem l_iconst (h : OkL X Gc Gm b L xs) {n : Int} {v : Int32} (d : DD code pc (.iconst n) 1 nx) (hv : Int32.ofInt n = v) (k : JL X Gc Gm Q mC mM nx ls (.int v :: st)) : JL X Gc Gm Q mC mM pc ls (st) := by
  obtain ⟨d, rfl⟩ := d
  intro H locs Ls hP hM hS hl
  exact lv_iconst h.1 h.2.1 d hv (k H locs Ls hP hM hS hl)
theorem l_bipush (h : OkL X Gc Gm b L xs) {n : Int} {v : Int32} (d : DD code pc (.bipush n) 2 nx) (hv : (Int8.ofInt n).toInt32 = v) (k : JL X Gc Gm Q mC mM nx ls (.int v :: st)) : JL X Gc Gm Q mC mM pc ls (st) := by
  obtain ⟨d, rfl⟩ := d
  intro H locs Ls hP hM hS hl
  exact lv_bipush h.1 h.2.1 d hv (k H locs Ls hP hM hS hl)
theorem l_iadd (h : OkL X Gc Gm b L xs) {x y : Int32} (d : DD code pc (.iadd) 1 nx) (k : JL X Gc Gm Q mC mM nx ls (.int (x + y) :: st)) : JL X Gc Gm Q mC mM pc ls (.int y :: .int x :: st) := by
  obtain ⟨d, rfl⟩ := d
  intro H locs Ls hP hM hS hl
  exact lv_iadd h.1 h.2.1 d (k H locs Ls hP hM hS hl)
theorem l_isub (h : OkL X Gc Gm b L xs) {x y : Int32} (d : DD code pc (.isub) 1 nx) (k : JL X Gc Gm Q mC mM nx ls (.int (x - y) :: st)) : JL X Gc Gm Q mC mM pc ls (.int y :: .int x :: st) := by
  obtain ⟨d, rfl⟩ := d
  intro H locs Ls hP hM hS hl
  exact lv_isub h.1 h.2.1 d (k H locs Ls hP hM hS hl)
theorem l_iand (h : OkL X Gc Gm b L xs) {x y : Int32} (d : DD code pc (.iand) 1 nx) (k : JL X Gc Gm Q mC mM nx ls (.int (x &&& y) :: st)) : JL X Gc Gm Q mC mM pc ls (.int y :: .int x :: st) := by
  obtain ⟨d, rfl⟩ := d
  intro H locs Ls hP hM hS hl
  exact lv_iand h.1 h.2.1 d (k H locs Ls hP hM hS hl)
theorem l_sld (h : OkL X Gc Gm b L xs) {i : Int32} (hi : vp_in i L) (d : DD code pc .iaload 1 nx) (k : JL X Gc Gm Q mC mM nx ls (.int (xs i.toNatClampNeg) :: st)) : JL X Gc Gm Q mC mM pc ls (.int i :: .ref b :: st) := by
  obtain ⟨d, rfl⟩ := d
  intro H locs Ls hP hM hS hl
  exact va_sld h.1 h.2.1 h.2.2.2.2.2.2.2.2.2.1 h.2.2.2.2.2.2.2.2.2.2.1 (Nat.not_le.mpr h.2.2.2.2.2.2.2.2.2.2.1) hS hi d (k H locs Ls hP hM hS hl)
theorem l_slen (h : OkL X Gc Gm b L xs) (d : DD code pc .arraylength 1 nx) (k : JL X Gc Gm Q mC mM nx ls (.int (nI L) :: st)) : JL X Gc Gm Q mC mM pc ls (.ref b :: st) := by
  obtain ⟨d, rfl⟩ := d
  intro H locs Ls hP hM hS hl
  exact va_slen h.1 h.2.1 h.2.2.2.2.2.2.2.2.2.1 h.2.2.2.2.2.2.2.2.2.2.1 (Nat.not_le.mpr h.2.2.2.2.2.2.2.2.2.2.1) hS d (k H locs Ls hP hM hS hl)
theorem l_gt (h : OkL X Gc Gm b L xs) {x y : Int32} {off : Int} {tgt : Nat} (d : DD code pc (.if_icmp .gt off) 3 nx) (ht : (pc : Int) + off = (tgt : Int)) (kt : y < x → JL X Gc Gm Q mC mM tgt ls st) (kf : ¬ y < x → JL X Gc Gm Q mC mM nx ls st) : JL X Gc Gm Q mC mM pc ls (.int y :: .int x :: st) := by
  obtain ⟨d, rfl⟩ := d
  intro H locs Ls hP hM hS hl
  exact lv_icmp_gt h.1 h.2.1 d ht (fun c => kt c H locs Ls hP hM hS hl) (fun c => kf c H locs Ls hP hM hS hl)
theorem l_eqT (h : OkL X Gc Gm b L xs) {x : Int32} {off : Int} {tgt : Nat} (d : DD code pc (.if_icmp .eq off) 3 nx) (ht : (pc : Int) + off = (tgt : Int)) (kt : JL X Gc Gm Q mC mM tgt ls st) : JL X Gc Gm Q mC mM pc ls (.int x :: .int x :: st) := by
  obtain ⟨d, rfl⟩ := d
  intro H locs Ls hP hM hS hl
  exact lv_icmp_eq h.1 h.2.1 d ht (fun c => kt H locs Ls hP hM hS hl) (fun c => absurd rfl c)
theorem l_ifeq (h : OkL X Gc Gm b L xs) {x : Int32} {off : Int} {tgt : Nat} (d : DD code pc (.ifCond .eq off) 3 nx) (ht : (pc : Int) + off = (tgt : Int)) (kt : x = 0 → JL X Gc Gm Q mC mM tgt ls st) (kf : ¬ x = 0 → JL X Gc Gm Q mC mM nx ls st) : JL X Gc Gm Q mC mM pc ls (.int x :: st) := by
  obtain ⟨d, rfl⟩ := d
  intro H locs Ls hP hM hS hl
  exact lv_if_eq h.1 h.2.1 d ht (fun c => kt c H locs Ls hP hM hS hl) (fun c => kf c H locs Ls hP hM hS hl)
theorem l_goto (h : OkL X Gc Gm b L xs) {off : Int} {tgt : Nat} (d : DD code pc (.goto off) 3 nx) (ht : (pc : Int) + off = (tgt : Int)) (k : JL X Gc Gm Q mC mM tgt ls st) : JL X Gc Gm Q mC mM pc ls st := by
  obtain ⟨d, rfl⟩ := d
  intro H locs Ls hP hM hS hl
  exact lv_goto h.1 h.2.1 d ht (k H locs Ls hP hM hS hl)
theorem l_iinc (h : OkL X Gc Gm b L xs) {i : Nat} {n : Int} {x v : Int32} (d : DD code pc (.iinc i n) 3 nx) (hi : ls[i]? = some (some (.int x))) (hv : x + Int32.ofInt n = v) (hc : c2at ls i = false) (k : JL X Gc Gm Q mC mM nx (ls.set i (some (.int v))) st) : JL X Gc Gm Q mC mM pc ls st := by
  obtain ⟨d, rfl⟩ := d
  intro H locs Ls hP hM hS hl
  obtain ⟨kk, hk⟩ := List.getElem?_of_mem ((aL_mem ls 0 i (.int x)).mpr ⟨i, by omega, hi⟩)
  exact lv_iinc h.1 h.2.1 d hl hk hv (List.getElem?_eq_some_iff.mp hi).1 rfl (fun Ls hl2 => k H locs Ls hP hM hS (lO_set hi hc hl2))
theorem l_tabIn (h : OkL X Gc Gm b L xs) {dflt lo hi off : Int} {offs : Array Int} {len tgt : Nat} {x v : Int32} (hx : x = v) (d : DD code pc (.tableswitch dflt lo hi offs) len nx) (h1 : ¬ v.toInt < lo) (h2 : ¬ hi < v.toInt) (ho : offs[(v.toInt - lo).toNat]? = some off) (ht : (pc : Int) + off = (tgt : Int)) (k : JL X Gc Gm Q mC mM tgt ls st) : JL X Gc Gm Q mC mM pc ls (.int x :: st) := by
  subst hx
  obtain ⟨d, -⟩ := d
  intro H locs Ls hP hM hS hl
  exact lv_tableIn h.1 h.2.1 d h1 h2 ho ht (k H locs Ls hP hM hS hl)
theorem l_tabOut (h : OkL X Gc Gm b L xs) {dflt lo hi : Int} {offs : Array Int} {len tgt : Nat} {x : Int32} (vs : List Int32) (d : DD code pc (.tableswitch dflt lo hi offs) len nx) (hx : ∀ v ∈ vs, ¬ x = v) (hvs : hi = lo + vs.length - 1) (hv : ∀ k, k < vs.length → ∃ v, vs[k]? = some v ∧ v.toInt = lo + k) (ht : (pc : Int) + dflt = (tgt : Int)) (k : JL X Gc Gm Q mC mM tgt ls st) : JL X Gc Gm Q mC mM pc ls (.int x :: st) := by
  obtain ⟨d, -⟩ := d
  intro H locs Ls hP hM hS hl
  refine lv_tableOut h.1 h.2.1 d ?_ ht (k H locs Ls hP hM hS hl)
  by_cases c1 : x.toInt < lo
  · exact Or.inl c1
  · by_cases c2 : hi < x.toInt
    · exact Or.inr c2
    · exfalso
      obtain ⟨v, e1, e2⟩ := hv (x.toInt - lo).toNat (by omega)
      exact hx v (List.mem_of_getElem? e1) (Int32.toInt_inj.mp (by rw [e2]; omega))
theorem l_arg (h : OkL X Gc Gm b L xs) {i k p1 p2 p3 p4 : Nat} {n : Int} (hk : Int32.ofInt n = nI k) (hi : i + k < L) (hL : L < 2 ^ 31) (h0 : ls[0]? = some (some (.ref b))) (h3 : ls[3]? = some (some (.int (nI i)))) (d1 : DD code pc (.aload_n 0) 1 p1) (d2 : DD code p1 (.iload_n 3) 1 p2) (d3 : DD code p2 (.iconst n) 1 p3) (d4 : DD code p3 .iadd 1 p4) (d5 : DD code p4 .iaload 1 nx) (kk : JL X Gc Gm Q mC mM nx ls (.int (xs (i + k)) :: st)) : JL X Gc Gm Q mC mM pc ls st := by
  refine l_aload h d1 h0 ?_
  refine l_iload h d2 h3 ?_
  refine l_iconst h d3 hk ?_
  refine l_iadd h d4 ?_
  rw [nI_add]
  refine l_sld h (vp_in_nI hi hL) d5 ?_
  rw [nI_clamp (by omega)]
  exact kk
/-- a call of the class's object -/
theorem l_callC (h : OkL X Gc Gm b L xs) {r : Int32} {mC' : Mem} {y : MethodName} {bytes : ByteArray} {maxL n idx lev2 : Nat} {T : u_T} {N : Nat} {ret2 : Option FieldType} {st0 : List Value} (As : List Value) (hct : (∀ m, va_D (inA Gc nC) (wC Gc m)) → Ct X.2.1 Gc wC nC y bytes maxL ret2 lev2 (.ref (Gc.2.2 0) :: As) mC (some (.int r), mC')) (hM : mOK y bytes maxL ret2 n) (hi : Cond.instanceMethod y ∈ WT ∧ Cond.selects y.cls y y ∈ WT) (hlk : Cond.methodLink R_law idx y ∈ WT) (hc : jcl[11]? = some (y.cls, T, N)) (hst : st0 = As.reverse ++ .ref (Gc.2.2 0) :: st) (hAs : As.length = n) (hlev : lev2 < 1000) (hmax : maxL ≤ 45) (hroom : (st.map fun v => v.category).sum ≤ 8) (hnl : ls.length = 4) (d : DD code pc (.invokevirtual idx) 3 nx) (kk : JL X Gc Gm Q mC' mM nx ls (.int r :: st)) : JL X Gc Gm Q mC mM pc ls st0 := by
  obtain ⟨d, rfl⟩ := d
  intro H locs Ls hP hM2 hS hl
  obtain ⟨g1, g2, g3, g4, g5, g6, g7, g8, g9, g10, g11, g12, g13, g14, g15⟩ := h
  have hin := inA_of (wC_adr Gc mC) (g13 mC)
  have cb : CallB X.2.2.2.1 X.2.2.2.2.1 X.2.2.2.2.2.2.1 R_law idx y bytes maxL ret2 (.code y bytes maxL ret2 :: WT) (rmv lev2) 0 0 n := by
    obtain ⟨h1, h2, h3, h4, h5⟩ := hM
    refine callB_of (Ts := WT) n g5 (good_wt ?_) rfl rfl rfl (g5 _ h1) (g5 _ hlk) ⟨h3, h4, h5⟩ ?_
    · intro w hw
      rcases List.mem_cons.mp hw with rfl | hw
      · exact h2
      · exact hw
    · rw [g12]; simp only [rmv, room_1]; omega
  intro T0 hT0 X0
  obtain ⟨v, st₀, t, T', LL, h0, X', hL, f1, f2, ⟨hv, hp, hz, hk⟩, sg⟩ := va_runV (C := y.cls) (Ts := WT) ⟨g1, g2, g3, g4, g5⟩ (hct (fun m2 => D_inA (wC_adr Gc m2) (g13 m2))) ⟨cb, g5 _ hi.1, g5 _ hi.2⟩ ⟨Hd.blind, va_recv (q0 := 0) (ci := 11) (fs := fC11 Gc mC) g6 hP hc rfl, fun U hU hW => ⟨rfl, by rw [hU]; exact hP, va_K.moved hW.alike g6, ⟨g8.1.warm hW, g8.2.1.warm hW, g8.2.2.1.warm hW, by rw [hU]; exact vk_S.moved hW.alike (g8.2.2.2.1.kept (fun a ha hna => hS.2.1 a ha (Nat.not_le.mpr ha))), by rw [hU]; exact ZZ.moved hW.alike (g8.2.2.2.2.kept (fun a ha hna => hS.2.1 a ha (Nat.not_le.mpr ha)))⟩⟩⟩ rfl hAs (hl.1.trans hnl) hst (lv_room hroom) d ⟨by rw [g12]; decide, by rw [g12]; decide⟩ T0 hT0 X0
  cases hv
  rw [h0] at hz hk
  have hMk : va_P Gm.1 jcl (wM Gm mM) t.heap := hM2.kept (fun k q hkq => hk q.1 (hM2 k q hkq).lt (fun z => by
    obtain ⟨i, hi1, hi2⟩ := z
    obtain ⟨j, hj1, hj2⟩ := (D_inA (wM_adr Gm mM) (g14 mM)).2 k q hkq
    exact g15 i hi1 j hj1 (hi2.symm.trans hj2)))
  obtain ⟨t2, a1, b1⟩ := kk T'.heap (locs ++ LL) Ls (by rw [f1]; exact hp) (by rw [f1]; exact hMk) ⟨Nat.le_trans hS.1 (by rw [f1]; exact hz), fun q h1 h2 => by rw [f1, hk q (Nat.lt_of_lt_of_le h1 hS.1) (fun z => h2 (hin q z))]; exact hS.2.1 q h1 h2, fun q hq => by
    rcases List.mem_append.mp hq with h | h
    · exact hS.2.2 q h
    · exact hin _ (hL q h)⟩ hl T' rfl X'
  exact ⟨t2, sg t2 a1, b1⟩
/-- a call of the reference's object -/
theorem l_callM (h : OkL X Gc Gm b L xs) {r : Int32} {mM' : Mem} {y : MethodName} {bytes : ByteArray} {maxL n idx lev2 : Nat} {T : u_T} {N : Nat} {ret2 : Option FieldType} {st0 : List Value} (As : List Value) (hct : (∀ m, va_D (inA Gm nM) (wM Gm m)) → Ct X.2.1 Gm wM nM y bytes maxL ret2 lev2 (.ref (Gm.2.2 0) :: As) mM (some (.int r), mM')) (hM : mOK y bytes maxL ret2 n) (hi : Cond.instanceMethod y ∈ WT ∧ Cond.selects y.cls y y ∈ WT) (hlk : Cond.methodLink R_law idx y ∈ WT) (hc : jcl[12]? = some (y.cls, T, N)) (hst : st0 = As.reverse ++ .ref (Gm.2.2 0) :: st) (hAs : As.length = n) (hlev : lev2 < 1000) (hmax : maxL ≤ 45) (hroom : (st.map fun v => v.category).sum ≤ 8) (hnl : ls.length = 4) (d : DD code pc (.invokevirtual idx) 3 nx) (kk : JL X Gc Gm Q mC mM' nx ls (.int r :: st)) : JL X Gc Gm Q mC mM pc ls st0 := by
  obtain ⟨d, rfl⟩ := d
  intro H locs Ls hP hM2 hS hl
  obtain ⟨g1, g2, g3, g4, g5, g6, g7, g8, g9, g10, g11, g12, g13, g14, g15⟩ := h
  have hin := inA_of (wM_adr Gm mM) (g14 mM)
  have cb : CallB X.2.2.2.1 X.2.2.2.2.1 X.2.2.2.2.2.2.1 R_law idx y bytes maxL ret2 (.code y bytes maxL ret2 :: WT) (rmv lev2) 0 0 n := by
    obtain ⟨h1, h2, h3, h4, h5⟩ := hM
    refine callB_of (Ts := WT) n g5 (good_wt ?_) rfl rfl rfl (g5 _ h1) (g5 _ hlk) ⟨h3, h4, h5⟩ ?_
    · intro w hw
      rcases List.mem_cons.mp hw with rfl | hw
      · exact h2
      · exact hw
    · rw [g12]; simp only [rmv, room_1]; omega
  intro T0 hT0 X0
  obtain ⟨v, st₀, t, T', LL, h0, X', hL, f1, f2, ⟨hv, hp, hz, hk⟩, sg⟩ := va_runV (C := y.cls) (Ts := WT) ⟨g1, g2, g3, g4, g5⟩ (hct (fun m2 => D_inA (wM_adr Gm m2) (g14 m2))) ⟨cb, g5 _ hi.1, g5 _ hi.2⟩ ⟨Hd.blind, va_recv (q0 := 0) (ci := 12) (fs := fM Gm mM) g7 hM2 hc rfl, fun U hU hW => ⟨rfl, by rw [hU]; exact hM2, va_K.moved hW.alike g7, ⟨g9.1.warm hW, g9.2.1.warm hW, g9.2.2.1.warm hW, by rw [hU]; exact vk_S.moved hW.alike (g9.2.2.2.1.kept (fun a ha hna => hS.2.1 a ha (Nat.not_le.mpr ha))), by rw [hU]; exact ZZ.moved hW.alike (g9.2.2.2.2.kept (fun a ha hna => hS.2.1 a ha (Nat.not_le.mpr ha)))⟩⟩⟩ rfl hAs (hl.1.trans hnl) hst (lv_room hroom) d ⟨by rw [g12]; decide, by rw [g12]; decide⟩ T0 hT0 X0
  cases hv
  rw [h0] at hz hk
  have hMk : va_P Gc.1 jcl (wC Gc mC) t.heap := hP.kept (fun k q hkq => hk q.1 (hP k q hkq).lt (fun z => by
    obtain ⟨j, hj1, hj2⟩ := z
    obtain ⟨i, hi1, hi2⟩ := (D_inA (wC_adr Gc mC) (g13 mC)).2 k q hkq
    exact g15 i hi1 j hj1 (hi2.symm.trans hj2)))
  obtain ⟨t2, a1, b1⟩ := kk T'.heap (locs ++ LL) Ls (by rw [f1]; exact hMk) (by rw [f1]; exact hp) ⟨Nat.le_trans hS.1 (by rw [f1]; exact hz), fun q h1 h2 => by rw [f1, hk q (Nat.lt_of_lt_of_le h1 hS.1) (fun z => h2 (hin q z))]; exact hS.2.1 q h1 h2, fun q hq => by
    rcases List.mem_append.mp hq with h | h
    · exact hS.2.2 q h
    · exact hin _ (hL q h)⟩ hl T' rfl X'
  exact ⟨t2, sg t2 a1, b1⟩
end LWR
