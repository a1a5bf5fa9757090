/-! ===== the tape's constructor ===== -/
def tapeWords : Nat → Int64 := fun j => ([232608281, 259679, 7742498, 8930969373, 80096, 94565, 158692, 80006, 47, 7622660, 4439075, 4562587, 12532058, 247702, 168984, 4419, 423, 1111, 10631] : List Int64).getD j 0
def mkX10_init (G : Gt) (h0 : Nat) (u : List Nat) : va_W := [(h0, .inr (10, [.ref (u.getD 0 0), .int 0, .ref (u.getD 1 0), .int 0, .int 0, .int 0, .int 0, .long 0])), ((u.getD 0 0), .inl (G.2.1.2.1, 1600, .inl (fun _ => 0))), ((u.getD 1 0), .inl (G.2.1.2.2.1, 19, .inr (.inl tapeWords)))]
/-- a world with no cell: for methods that write none -/
def wE : Wf := fun _ _ => []
theorem wE_D (G : Gt) : ∀ m, va_D (inA G 0) (wE G m) := fun m => ⟨fun i j p q hi _ _ => by simp [wE] at hi, fun k q hk => by simp [wE] at hk⟩
theorem wE_in {G : Gt} {q : Nat} (h : inA G 0 q) : False := by
  obtain ⟨k, hk, -⟩ := h
  omega
abbrev m0E : Mem := (fun _ _ => 0, fun _ _ => 0, fun _ _ => 0)
section TN
variable {X : Cx} {G : Gt} {A : Nat → Prop} {Q : State → Prop} {cc : ByteArray} {own : String} {nL : Nat} {rm : Room} {ws ws' : va_W} {cN sN pc nx idx : Nat} {ls : List (Option Value)} {st st0 : List Value}
theorem n_cbE (h : OkN X G A cc own nL rm) {y : MethodName} {bytes : ByteArray} {maxL n lev2 : Nat} {ret2 : Option FieldType} (hM : mOK y bytes maxL ret2 n) (hlk : Cond.methodLink own idx y ∈ WT) (hlev : lev2 < rm.frames) (hlo : 64 * lev2 + 64 ≤ rm.locals) (hmax : maxL ≤ 45) : CallB X.2.2.2.1 X.2.2.2.2.1 X.2.2.2.2.2.2.1 own idx y bytes maxL ret2 (.code y bytes maxL ret2 :: WT) (rmv lev2) 0 0 n := by
  obtain ⟨h1, h2, h3, h4, h5⟩ := hM
  refine callB_of (Ts := WT) n h.2.2.2.2.2.1 (good_wt ?_) rfl rfl rfl (h.2.2.2.2.2.1 _ h1) (h.2.2.2.2.2.1 _ hlk) ⟨h3, h4, h5⟩ ?_
  · intro w hw
    rcases List.mem_cons.mp hw with rfl | hw
    · exact h2
    · exact hw
  · rw [h.2.2.2.2.2.2.2.2.2.1]; simp only [rmv]; omega
theorem n_HdE (h : OkN X G A cc own nL rm) {H : Heap} {locs : List Loc} (hS : va_S A X.2.2.2.2.1.heap H locs) {U : State} (hU : U.heap = H) (hW : X.2.2.2.2.1.WarmedH U.vm) : Hd G wE 0 m0E U := by
  refine ⟨fun k q hk => by simp [wE] at hk, va_K.moved hW.alike h.2.2.2.2.2.2.1, ?_⟩
  have := NY.warm (B := inA G 0) hS (fun q hq => (wE_in hq).elim) hU hW h.2.2.2.2.2.2.2.1
  exact this
theorem n_backE (h : OkN X G A cc own nL rm) {v : Value} {as : Array Value}
    (run : ∀ (H : Heap) (locs : List Loc) (Ls : Array Slot), va_S A X.2.2.2.2.1.heap H locs → lO Ls ls → va_Run X.1 X.2.1 X.2.2.1 X.2.2.2.1 X.2.2.2.2.1 X.2.2.2.2.2.1 X.2.2.2.2.2.2.1 X.2.2.2.2.2.2.2.1 X.2.2.2.2.2.2.2.2.1 X.2.2.2.2.2.2.2.2.2 H locs cN sN 0 0 (F0 X.2.2.2.2.2.1 pc Ls st0) st (Qo G wE 0 (some v, m0E) as) (inA G 0))
    (kk : JN X G A Q ws cN sN (pc + 3) ls (v :: st)) : JN X G A Q ws cN sN pc ls st0 := by
  intro H locs Ls hP hD hS hl
  intro T0 hT0 X0
  obtain ⟨v', st₀, t, T', L, h0, X', hL, f1, f2, ⟨hv, hp, hz, hk⟩, sg⟩ := run H locs Ls hS hl T0 hT0 X0
  cases hv
  rw [h0] at hz hk
  obtain ⟨t2, a1, b1⟩ := kk T'.heap (locs ++ L) Ls (by rw [f1]; exact hP.kept (fun k q hkq => hk q.1 (hP k q hkq).lt (fun z => wE_in z))) hD ⟨Nat.le_trans hS.1 (by rw [f1]; exact hz), fun q h1 h2 => by rw [f1, hk q (Nat.lt_of_lt_of_le h1 hS.1) (fun z => wE_in z)]; exact hS.2.1 q h1 h2, fun q hq => by
    rcases List.mem_append.mp hq with h | h
    · exact hS.2.2 q h
    · exact (wE_in (hL q h)).elim⟩ hl T' rfl X'
  exact ⟨t2, sg t2 a1, b1⟩
/-- a member of a text is called -/
theorem n_callT (h : OkN X G A cc own nL rm) {i : Nat} (hi : i < 2) {v : Value} {y : MethodName} {bytes : ByteArray} {maxL n lev2 : Nat} {ret2 : Option FieldType} (As : List Value) (hy : y.cls = "java/lang/String") (hct : Ct X.2.1 G wE 0 y bytes maxL ret2 lev2 (.ref (G.2.2 (1000 + i)) :: As) m0E (some v, m0E)) (hM : mOK y bytes maxL ret2 n) (hin : Cond.instanceMethod y ∈ WT ∧ Cond.selects y.cls y y ∈ WT) (hlk : Cond.methodLink own idx y ∈ WT) (hst : st0 = As.reverse ++ .ref (G.2.2 (1000 + i)) :: st) (hAs : As.length = n) (hlev : lev2 < rm.frames) (hlo : 64 * lev2 + 64 ≤ rm.locals) (hmax : maxL ≤ 45) (hcl : cN ≤ rm.cells) (hsl : sN ≤ rm.slots) (hroom : (st.map fun v => v.category).sum ≤ 8) (hnl : ls.length = nL) (d : DD cc pc (.invokevirtual idx) 3 nx) (kk : JN X G A Q ws cN sN nx ls (v :: st)) : JN X G A Q ws cN sN pc ls st0 := by
  obtain ⟨d, rfl⟩ := d
  have hR := h.2.2.2.2.2.2.2.2.2.1
  refine n_backE (as := (Value.ref (G.2.2 (1000 + i)) :: As).toArray) h (fun H locs Ls hS hl => ?_) kk
  exact va_runV (C := y.cls) (Ts := WT) ⟨h.1, h.2.1, h.2.2.2.1, h.2.2.2.2.1, h.2.2.2.2.2.1⟩ hct ⟨n_cbE h hM hlk hlev hlo hmax, h.2.2.2.2.2.1 _ hin.1, h.2.2.2.2.2.1 _ hin.2⟩ ⟨Hd.blind, by rw [hy]; exact vk_recv (i := i) h.2.2.2.2.2.2.2.1.2.2.2.1 hi hS, fun U hU hW => ⟨rfl, n_HdE h hS hU hW⟩⟩ rfl hAs (hl.1.trans hnl) hst (lv_room hroom) d ⟨by rw [hR]; exact hcl, by rw [hR]; exact hsl⟩
theorem n_callE (h : OkN X G A cc own nL rm) {v : Value} {y : MethodName} {bytes : ByteArray} {maxL n lev2 : Nat} {ret2 : Option FieldType} (As : List Value) (hct : Ct X.2.1 G wE 0 y bytes maxL ret2 lev2 As m0E (some v, m0E)) (hM : mOK y bytes maxL ret2 n) (hin : Cond.static y ∈ WT) (hlk : Cond.methodLink own idx y ∈ WT) (hst : st0 = As.reverse ++ st) (hAs : As.length = n) (hlev : lev2 < rm.frames) (hlo : 64 * lev2 + 64 ≤ rm.locals) (hmax : maxL ≤ 45) (hcl : cN ≤ rm.cells) (hsl : sN ≤ rm.slots) (hroom : (st.map fun v => v.category).sum ≤ 8) (hnl : ls.length = nL) (d : DD cc pc (.invokestatic idx) 3 nx) (kk : JN X G A Q ws cN sN nx ls (v :: st)) : JN X G A Q ws cN sN pc ls st0 := by
  obtain ⟨d, rfl⟩ := d
  have hR := h.2.2.2.2.2.2.2.2.2.1
  refine n_backE (as := As.toArray) h (fun H locs Ls hS hl => ?_) kk
  exact va_runS (Ts := WT) ⟨h.1, h.2.1, h.2.2.2.1, h.2.2.2.2.1, h.2.2.2.2.2.1⟩ hct ⟨n_cbE h hM hlk hlev hlo hmax, h.2.2.2.2.2.1 _ hin⟩ ⟨Hd.blind, fun U hU hW => ⟨rfl, n_HdE h hS hU hW⟩⟩ rfl hAs (hl.1.trans hnl) hst (lv_room hroom) d ⟨by rw [hR]; exact hcl, by rw [hR]; exact hsl⟩
theorem n_ldc17 (h : OkN X G A cc RX10 nL rm) (d : DD cc pc (.ldc 17) 2 nx) (k : JN X G A Q ws cN sN nx ls (.ref (G.2.2 1000) :: st)) : JN X G A Q ws cN sN pc ls st := by
  obtain ⟨d, rfl⟩ := d
  intro H locs Ls hP hD hS hl
  exact va_ldcS h.1 h.2.1 h.2.2.2.2.1 h.2.2.2.2.2.2.2.1.2.1 d (k H locs Ls hP hD hS hl)
theorem n_lald (h : OkN X G A cc own nL rm) {a q0 n j : Nat} {f : Nat → Int64} (he : ws[q0]? = some (a, .inl (G.2.1.2.2.1, n, .inr (.inl f)))) (hj : j < n) (hn : n < 2 ^ 31) (d : DD cc pc .laload 1 nx) (kk : JN X G A Q ws cN sN nx ls (.long (f j) :: st)) : JN X G A Q ws cN sN pc ls (.int (nI j) :: .ref a :: st) := by
  obtain ⟨d, rfl⟩ := d
  intro H locs Ls hP hD hS hl
  have e : f j = f (nI j).toNatClampNeg := by rw [nI_clamp (by omega)]
  rw [e] at kk
  exact va_lald h.1 h.2.1 h.2.2.2.2.2.2.1 hP q0 2 he rfl (nI_in hj hn) d (kk H locs Ls hP hD hS hl)
theorem n_last (h : OkN X G A cc own nL rm) {a q0 n j : Nat} {f : Nat → Int64} {x : Int64} (he : ws[q0]? = some (a, .inl (G.2.1.2.2.1, n, .inr (.inl f)))) (hj : j < n) (hn : n < 2 ^ 31) (hset : ws.set q0 (a, .inl (G.2.1.2.2.1, n, .inr (.inl (vp_updL f j x)))) = ws') (d : DD cc pc .lastore 1 nx) (kk : JN X G A Q ws' cN sN nx ls st) : JN X G A Q ws cN sN pc ls (.long x :: .int (nI j) :: .ref a :: st) := by
  obtain ⟨d, rfl⟩ := d
  subst hset
  intro H locs Ls hP hD hS hl
  have e : vp_updL f j x = vp_updL f (nI j).toNatClampNeg x := by rw [nI_clamp (by omega)]
  rw [e] at kk
  exact va_last h.1 h.2.1 h.2.2.2.2.2.2.1 hP hD hS q0 2 he rfl (nI_in hj hn) d (fun H1 locs1 hP1 hD1 hS1 => kk H1 locs1 Ls hP1 hD1 hS1 hl)
end TN
theorem k_wl (l : Launch) (G : Gt) (wf : Wf) (n : Nat) (hD : ∀ m, va_D (inA G n) (wf G m)) (m : Mem) (x0 : Int64) (x2 : Int32) : ∀ a, fX10_withLetter x0 x2 = some a → Ct l G wf n yX10_withLetter cX10_withLetter 3 (some .long) 1 [.long x0, .int x2] m ((cvL m) a) := by
  refine ct_of (own := RX10) (ls0 := [some (.long x0), none, some (.int x2)]) (by decide) rfl rfl rfl (Nat.le_of_ble_eq_true rfl) hD (fun X h => ?_) l
  unfold fX10_withLetter
  refine j_lload_n h dX10_withLetter_0 rfl ?_
  refine j_ldc2 (v := (27 : Int64)) h dX10_withLetter_1 cl10_74 ?_
  refine j_lmul h dX10_withLetter_4 ?_
  refine j_iload_n h dX10_withLetter_5 rfl ?_
  refine j_i2l h dX10_withLetter_6 ?_
  refine j_ladd h dX10_withLetter_7 ?_
  refine j_ldc2 (v := (97 : Int64)) h dX10_withLetter_8 cl10_76 ?_
  refine j_lsub h dX10_withLetter_11 ?_
  refine j_lconst (v := (1 : Int64)) h dX10_withLetter_12 rfl ?_
  refine j_ladd h dX10_withLetter_13 ?_
  exact j_lret h rfl dX10_withLetter_14
/-- the words' text read up to a place: the word's number, and the row so far -/
abbrev tpC (i : Nat) : Int32 := (txB.getD 0 []).getD i 0
def tpS : Nat → Nat × List Int64
  | 0 => (0, List.replicate 19 0)
  | i + 1 => if tpC i = 32 then ((tpS i).1 + 1, (tpS i).2) else ((tpS i).1, (tpS i).2.set (tpS i).1 (((((tpS i).2.getD (tpS i).1 0) * 27 + (tpC i).toInt64) - 97) + 1))
def tpG : Nat → Nat → Nat × List Int64 → Nat × List Int64
  | 0, _, p => p
  | n + 1, i, p => tpG n (i + 1) (if tpC i = 32 then (p.1 + 1, p.2) else (p.1, p.2.set p.1 ((((p.2.getD p.1 0) * 27 + (tpC i).toInt64) - 97) + 1)))
theorem tpG_eq : ∀ (n i : Nat), tpG n i (tpS i) = tpS (i + n)
  | 0, i => rfl
  | n + 1, i => by
    rw [tpG, show i + (n + 1) = (i + 1) + n by omega, ← tpG_eq n (i + 1)]
    rfl
def tpOK : Nat → Nat → Nat × List Int64 → Bool
  | 0, _, _ => true
  | n + 1, i, p => decide (p.1 < 19) && (decide (p.2.length = 19) && tpOK n (i + 1) (if tpC i = 32 then (p.1 + 1, p.2) else (p.1, p.2.set p.1 ((((p.2.getD p.1 0) * 27 + (tpC i).toInt64) - 97) + 1))))
theorem tpOK_eq : ∀ (n i : Nat), tpOK n i (tpS i) = true → ∀ j, j < n → (tpS (i + j)).1 < 19 ∧ (tpS (i + j)).2.length = 19
  | 0, i, _, j, hj => by omega
  | n + 1, i, h, j, hj => by
    rw [tpOK, Bool.and_eq_true, Bool.and_eq_true] at h
    cases j with
    | zero => exact ⟨of_decide_eq_true h.1, of_decide_eq_true h.2.1⟩
    | succ j =>
      rw [show i + (j + 1) = (i + 1) + j by omega]
      exact tpOK_eq n (i + 1) h.2.2 j (by omega)
theorem tp_ok (i : Nat) (hi : i < 98) : (tpS i).1 < 19 ∧ (tpS i).2.length = 19 := by
  have := tpOK_eq 98 0 (by decide +kernel) i hi
  rw [Nat.zero_add] at this
  exact this
theorem tp_end : (tpS 98).2 = [232608281, 259679, 7742498, 8930969373, 80096, 94565, 158692, 80006, 47, 7622660, 4439075, 4562587, 12532058, 247702, 168984, 4419, 423, 1111, 10631] := by
  have := tpG_eq 98 0
  rw [Nat.zero_add] at this
  rw [← this]
  decide +kernel
def tpR (i : Nat) : Nat → Int64 := fun j => (tpS i).2.getD j 0
theorem tpR_0 : tpR 0 = fun _ => 0 := by
  funext j
  show (List.replicate 19 (0 : Int64)).getD j 0 = 0
  rw [List.getD_eq_getElem?_getD, List.getElem?_replicate]
  split <;> rfl
theorem tpR_end : tpR 98 = tapeWords := by
  funext j
  show (tpS 98).2.getD j 0 = _
  rw [tp_end]
  rfl
theorem tpR_sp {i : Nat} (h : tpC i = 32) : (tpS (i + 1)).1 = (tpS i).1 + 1 ∧ tpR (i + 1) = tpR i := by
  have e : tpS (i + 1) = ((tpS i).1 + 1, (tpS i).2) := by rw [tpS, if_pos h]
  exact ⟨by rw [e], by unfold tpR; rw [e]⟩
theorem tpR_let {i : Nat} (hl : (tpS i).1 < (tpS i).2.length) (h : ¬ tpC i = 32) : (tpS (i + 1)).1 = (tpS i).1 ∧ tpR (i + 1) = vp_updL (tpR i) (tpS i).1 (((tpR i (tpS i).1 * 27 + (tpC i).toInt64) - 97) + 1) := by
  have e : tpS (i + 1) = ((tpS i).1, (tpS i).2.set (tpS i).1 (((((tpS i).2.getD (tpS i).1 0) * 27 + (tpC i).toInt64) - 97) + 1)) := by rw [tpS, if_neg h]
  refine ⟨by rw [e], ?_⟩
  funext j
  unfold tpR vp_updL
  rw [e]
  dsimp only
  rw [List.getD_eq_getElem?_getD, List.getElem?_set]
  by_cases c : (tpS i).1 = j
  · rw [if_pos c, if_pos (by omega), if_pos c.symm]
    rfl
  · rw [if_neg c, if_neg (fun z => c z.symm), List.getD_eq_getElem?_getD]
theorem ml10_3 : Cond.methodLink RX10 3 Lib.objectInit ∈ WT := wt_mem 141 (by decide +kernel) rfl
theorem ml10_19 : Cond.methodLink RX10 19 yS_length ∈ WT := wt_mem 143 (by decide +kernel) rfl
theorem ml10_25 : Cond.methodLink RX10 25 yS_charAt ∈ WT := wt_mem 153 (by decide +kernel) rfl
def tpW (G : Gt) (h0 q1 q2 : Nat) (f : Nat → Int64) : va_W := [(h0, .inr (10, [.ref q1, .int 0, .ref q2, .int 0, .int 0, .int 0, .int 0, .long 0])), (q1, .inl (G.2.1.2.1, 1600, .inl (fun _ => 0))), (q2, .inl (G.2.1.2.2.1, 19, .inr (.inl f)))]
set_option maxHeartbeats 4000000 in
set_option maxRecDepth 100000 in
theorem cnX10_init (l : Launch) (G : Gt) (h0 : Nat) : CtN l G yX10_init cX10_init 4 5 2 1619 [.ref h0] h0 (.inr (10, [.null, .int 0, .null, .int 0, .int 0, .int 0, .int 0, .long 0])) (mkX10_init G h0) := by
  refine ctn_of (own := RX10) (ls0 := [some (.ref h0), none, none, none]) (by decide) rfl rfl rfl rfl (Nat.le_of_ble_eq_true rfl) l (fun X A hl h Q hret => ?_)
  refine n_aload (i := 0) (nx := 1) h ⟨by decide +kernel, rfl⟩ rfl ?_
  refine n_objInit (nx := 4) h ml10_3 rfl (Nat.le_of_ble_eq_true rfl) (by decide) (by decide) wt_oi ⟨by decide +kernel, rfl⟩ ?_
  refine n_aload (i := 0) (nx := 5) h ⟨by decide +kernel, rfl⟩ rfl ?_
  refine n_sipush (n := 1600) (v := (1600 : Int32)) (nx := 8) h ⟨by decide +kernel, rfl⟩ (by decide) ?_
  refine n_newa (atype := .byte) (ty := .byte) (N := 1600) (t0 := 1) (a0 := (1600, .inl (fun _ => 0))) (nx := 10) h aw_byte rfl rfl (fun _ _ z => z) (fun _ => rfl) (by decide) (by decide) (by decide) (by decide) (by decide) ⟨by decide +kernel, rfl⟩ (fun q1 => ?_)
  refine n_eq (ws' := [(h0, .inr (10, [.null, .int 0, .null, .int 0, .int 0, .int 0, .int 0, .long 0])), (q1, .inl (G.2.1.2.1, 1600, .inl (fun _ => 0)))]) rfl ?_
  refine n_putF (q0 := 0) (ci := 10) (k := 0) (ty0 := tyX10) (nx := 13) (ws' := [(h0, .inr (10, [.ref q1, .int 0, .null, .int 0, .int 0, .int 0, .int 0, .long 0])), (q1, .inl (G.2.1.2.1, 1600, .inl (fun _ => 0)))]) h inC10 tyX10_ok nmX10 rfl rfl (by decide) fl10_9 ⟨rfl, rfl, rfl⟩ rfl rfl (Nat.lt_of_lt_of_eq (by decide : 0 < 8) rfl) rfl ⟨by decide +kernel, rfl⟩ ?_
  refine n_aload (i := 0) (nx := 14) h ⟨by decide +kernel, rfl⟩ rfl ?_
  refine n_bipush (n := 19) (v := (19 : Int32)) (nx := 16) h ⟨by decide +kernel, rfl⟩ (by decide) ?_
  refine n_newa (atype := .long) (ty := .long) (N := 19) (t0 := 2) (a0 := (19, .inr (.inl (fun _ => 0)))) (nx := 18) h aw_long rfl rfl (fun _ _ z => z) (fun _ => rfl) (by decide) (by decide) (by decide) (by decide) (by decide) ⟨by decide +kernel, rfl⟩ (fun q2 => ?_)
  refine n_eq (ws' := [(h0, .inr (10, [.ref q1, .int 0, .null, .int 0, .int 0, .int 0, .int 0, .long 0])), (q1, .inl (G.2.1.2.1, 1600, .inl (fun _ => 0))), (q2, .inl (G.2.1.2.2.1, 19, .inr (.inl (fun _ => 0))))]) rfl ?_
  refine n_putF (q0 := 0) (ci := 10) (k := 2) (ty0 := tyX10) (nx := 21) (ws' := tpW G h0 q1 q2 (fun _ => 0)) h inC10 tyX10_ok nmX10 rfl rfl (by decide) fl10_13 ⟨rfl, rfl, rfl⟩ rfl rfl (Nat.lt_of_lt_of_eq (by decide : 2 < 8) rfl) rfl ⟨by decide +kernel, rfl⟩ ?_
  refine n_iconst (n := 0) (v := nI 0) (nx := 22) h ⟨by decide +kernel, rfl⟩ rfl ?_
  refine n_istore (i := 1) (nx := 23) h ⟨by decide +kernel, rfl⟩ rfl rfl ?_
  refine n_iconst (n := 0) (v := nI 0) (nx := 24) h ⟨by decide +kernel, rfl⟩ rfl ?_
  refine n_istore (i := 2) (nx := 25) h ⟨by decide +kernel, rfl⟩ rfl rfl ?_
  have loop : ∀ (k i : Nat), i + k = 98 → ∀ o : Option Value, JN X G A Q (tpW G h0 q1 q2 (tpR i)) 2 1619 25 [some (.ref h0), some (.int (nI (tpS i).1)), some (.int (nI i)), o] [] := by
    intro k
    induction k with
    | zero =>
      intro i hi o
      have hi : i = 98 := by omega
      subst hi
      refine n_iload (i := 2) (nx := 26) h ⟨by decide +kernel, rfl⟩ rfl ?_
      refine n_ldc17 (nx := 28) h ⟨by decide +kernel, rfl⟩ ?_
      refine n_callT (i := 0) (v := .int 98) (nx := 31) h (by omega) [] rfl (k_length _ G wE 0 (wE_D G) m0E (by omega) _ rfl) okS_length inS_length ml10_19 rfl rfl (by decide) (by decide) (by decide) (by decide) (by decide) (Nat.le_of_ble_eq_true rfl) rfl ⟨by decide +kernel, rfl⟩ ?_
      refine n_icmp_ge (tgt := 81) (off := 50) (nx := 34) h ⟨by decide +kernel, rfl⟩ (by decide) (fun _ => ?_) (fun c => absurd (by decide) c)
      rw [tpR_end]
      exact hret [q1, q2] 81 82 _ rfl ⟨by decide +kernel, rfl⟩
    | succ k ih =>
      intro i hi o
      have hi98 : i < 98 := by omega
      obtain ⟨t1, t2⟩ := tp_ok i hi98
      refine n_iload (i := 2) (nx := 26) h ⟨by decide +kernel, rfl⟩ rfl ?_
      refine n_ldc17 (nx := 28) h ⟨by decide +kernel, rfl⟩ ?_
      refine n_callT (i := 0) (v := .int 98) (nx := 31) h (by omega) [] rfl (k_length _ G wE 0 (wE_D G) m0E (by omega) _ rfl) okS_length inS_length ml10_19 rfl rfl (by decide) (by decide) (by decide) (by decide) (by decide) (Nat.le_of_ble_eq_true rfl) rfl ⟨by decide +kernel, rfl⟩ ?_
      refine n_icmp_ge (tgt := 81) (off := 50) (nx := 34) h ⟨by decide +kernel, rfl⟩ (by decide) (fun c => absurd c (nI_ge (b := 98) hi98 (by omega))) (fun _ => ?_)
      refine n_iload (i := 1) (nx := 35) h ⟨by decide +kernel, rfl⟩ rfl ?_
      refine n_bipush (n := 19) (v := (19 : Int32)) (nx := 37) h ⟨by decide +kernel, rfl⟩ (by decide) ?_
      refine n_icmp_ge (tgt := 81) (off := 44) (nx := 40) h ⟨by decide +kernel, rfl⟩ (by decide) (fun c => absurd c (nI_ge (b := 19) t1 (by omega))) (fun _ => ?_)
      refine n_ldc17 (nx := 42) h ⟨by decide +kernel, rfl⟩ ?_
      refine n_iload (i := 2) (nx := 43) h ⟨by decide +kernel, rfl⟩ rfl ?_
      refine n_callT (i := 0) (v := .int (tpC i)) (nx := 46) h (by omega) [.int (nI i)] rfl (k_charAt _ G wE 0 (wE_D G) m0E hi98 _ rfl) okS_charAt inS_charAt ml10_25 rfl rfl (by decide) (by decide) (by decide) (by decide) (by decide) (Nat.le_of_ble_eq_true rfl) rfl ⟨by decide +kernel, rfl⟩ ?_
      refine n_istore (i := 3) (nx := 47) h ⟨by decide +kernel, rfl⟩ rfl rfl ?_
      refine n_iload (i := 3) (nx := 48) h ⟨by decide +kernel, rfl⟩ rfl ?_
      refine n_bipush (n := 32) (v := (32 : Int32)) (nx := 50) h ⟨by decide +kernel, rfl⟩ (by decide) ?_
      refine n_icmp_ne (tgt := 59) (off := 9) (nx := 53) h ⟨by decide +kernel, rfl⟩ (by decide) (fun c => ?_) (fun c => ?_)
      · obtain ⟨s1, s2⟩ := tpR_let (by omega) c
        refine n_aload (i := 0) (nx := 60) h ⟨by decide +kernel, rfl⟩ rfl ?_
        refine n_get (q0 := 0) (ci := 10) (k := 2) (v := .ref q2) (nx := 63) h inC10 rfl rfl (by decide) fl10_13 rfl rfl ⟨by decide +kernel, rfl⟩ ?_
        refine n_iload (i := 1) (nx := 64) h ⟨by decide +kernel, rfl⟩ rfl ?_
        refine n_aload (i := 0) (nx := 65) h ⟨by decide +kernel, rfl⟩ rfl ?_
        refine n_get (q0 := 0) (ci := 10) (k := 2) (v := .ref q2) (nx := 68) h inC10 rfl rfl (by decide) fl10_13 rfl rfl ⟨by decide +kernel, rfl⟩ ?_
        refine n_iload (i := 1) (nx := 69) h ⟨by decide +kernel, rfl⟩ rfl ?_
        refine n_lald (q0 := 2) (n := 19) (nx := 70) h rfl t1 (by omega) ⟨by decide +kernel, rfl⟩ ?_
        refine n_iload (i := 3) (nx := 71) h ⟨by decide +kernel, rfl⟩ rfl ?_
        refine n_callE (v := .long (((tpR i (tpS i).1 * 27 + (tpC i).toInt64) - 97) + 1)) (nx := 74) h [.long (tpR i (tpS i).1), .int (tpC i)] (k_wl _ G wE 0 (wE_D G) m0E _ _ _ rfl) okX10_withLetter stX10_withLetter ml10_29 rfl rfl (by decide) (by decide) (by decide) (by decide) (by decide) (Nat.le_of_ble_eq_true rfl) rfl ⟨by decide +kernel, rfl⟩ ?_
        refine n_last (q0 := 2) (n := 19) (nx := 75) (ws' := tpW G h0 q1 q2 (tpR (i + 1))) h rfl t1 (by omega) (by rw [s2]; rfl) ⟨by decide +kernel, rfl⟩ ?_
        refine n_iinc (i := 2) (n := 1) (v := nI (i + 1)) (nx := 78) h ⟨by decide +kernel, rfl⟩ rfl (nI_succ i).symm rfl ?_
        refine n_goto (tgt := 25) (off := -53) (nx := 81) h ⟨by decide +kernel, rfl⟩ (by decide) ?_
        have := ih (i + 1) (by omega) (some (.int (tpC i)))
        rw [s1] at this
        exact this
      · obtain ⟨s1, s2⟩ := tpR_sp c
        refine n_iinc (i := 1) (n := 1) (v := nI ((tpS i).1 + 1)) (nx := 56) h ⟨by decide +kernel, rfl⟩ rfl (nI_succ _).symm rfl ?_
        refine n_goto (tgt := 75) (off := 19) (nx := 59) h ⟨by decide +kernel, rfl⟩ (by decide) ?_
        refine n_iinc (i := 2) (n := 1) (v := nI (i + 1)) (nx := 78) h ⟨by decide +kernel, rfl⟩ rfl (nI_succ i).symm rfl ?_
        refine n_goto (tgt := 25) (off := -53) (nx := 81) h ⟨by decide +kernel, rfl⟩ (by decide) ?_
        have := ih (i + 1) (by omega) (some (.int (tpC i)))
        rw [s1, s2] at this
        exact this
  have := loop 98 0 rfl none
  rw [tpR_0] at this
  exact this
