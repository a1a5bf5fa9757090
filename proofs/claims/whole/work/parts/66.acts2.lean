/-! ===== an act in general; hush, undo, redo, images ===== -/
/-- a class's memory that has the same but its state, its day and scratch rows; a reference's that has the same but its state, kept states and scratch rows -/
def cLike (T : Tn) (c c' : Mem) : Prop := c'.2 = c.2 ∧ (∀ r, r ∉ [27, 28, 29, 30, 31, tP T + 14, tP T + 17, tP T + 20, 53, 54, 55, 58, 59, 60, 61, 62, 65, 71] → c'.1 r = c.1 r) ∧ c'.1 65 0 = c.1 65 0 ∧ c'.1 65 1 = c.1 65 1 ∧ DC T c'
def mLike (m m' : Mem) : Prop := m'.2 = m.2 ∧ (∀ k, k ≠ 60 → k ≠ 61 → m'.1 0 k = m.1 0 k) ∧ ∀ r, r ∉ [0, 10, 13, 33, 34, 35, 36, 37, 44, 45] → m'.1 r = m.1 r
theorem Rl.like {T : Tn} {c c' m m' : Mem} (h1 : TOK T) (h2 : TC T c) (h3 : TM T m) (h4 : FC T c) (h5 : FM T m) (h9 : RL_ c m) (h10 : RY c m) (h11 : RB T c m) (h12 : RT c m) (h13 : RF c m) (h14 : CW c) (hc : cLike T c c') (hk56 : ∀ c1 : Mem, c1.2 = c'.2 → (∀ r, r ≠ 56 → r ≠ 57 → c1.1 r = c'.1 r) → True) (c1 : Mem) (hc1 : c1.2 = c'.2 ∧ ∀ r, r ≠ 56 → r ≠ 57 → c1.1 r = c'.1 r) (hm : mLike m m') (hRS : RSt T c1 m') (hRA : RA T c1 m') : Rl c1 m' := by
  obtain ⟨e2, er, e65, e65', eD⟩ := hc
  obtain ⟨f2, fr⟩ := hc1
  obtain ⟨g2, g0, gr⟩ := hm
  have hP := h2.pl
  have cr : ∀ r, (r < 5 ∨ r = 26 ∨ 63 ≤ r ∧ r ≤ 64 ∨ 66 ≤ r ∧ r ≤ 70 ∨ 72 ≤ r) → c1.1 r = c.1 r := by
    intro r hr
    rw [fr r (by omega) (by omega)]
    refine er r ?_
    simp only [List.mem_cons, List.not_mem_nil, or_false]
    rcases hP with p | p <;> rw [p] <;> omega
  have mr : ∀ r, (1 ≤ r ∧ r < 10 ∨ 11 ≤ r ∧ r ≤ 12 ∨ 14 ≤ r ∧ r ≤ 32 ∨ 38 ≤ r ∧ r ≤ 43 ∨ 46 ≤ r) → m'.1 r = m.1 r := by
    intro r hr
    refine gr r ?_
    simp only [List.mem_cons, List.not_mem_nil, or_false]
    omega
  refine ⟨T, h1, ?_, h3.keep (fun k _ => g0 k (by omega) (by omega)) (fun r hr => mr r (by omega)), ?_, h5.keep (fun r hr => mr r (by omega)), eD.keep (fun r hr => fr r (by omega) (by omega)), hRS, hRA, h9.keep ⟨by rw [fr 65 (by omega) (by omega)]; exact e65, by rw [fr 65 (by omega) (by omega)]; exact e65'⟩ (fun r hr => cr r (by omega)) ⟨g0 69 (by omega) (by omega), g0 70 (by omega) (by omega)⟩ (fun r hr => mr r (by omega)), h10.keep ⟨by rw [cr 0 (by omega)], cr 73 (by omega)⟩ ⟨g0 63 (by omega) (by omega), mr 38 (by omega)⟩, h11.keep ⟨by rw [cr 0 (by omega)], cr 72 (by omega)⟩ ⟨mr 46 (by omega), mr 47 (by omega)⟩, h12.keep ⟨by rw [cr 1 (by omega)], cr 2 (by omega)⟩ ⟨g0 1 (by omega) (by omega), mr 1 (by omega)⟩, h13.keep ⟨by rw [cr 4 (by omega)], by rw [cr 4 (by omega)]⟩ ⟨g0 2 (by omega) (by omega), g0 3 (by omega) (by omega)⟩, h14.keep (by rw [f2, e2]) (by rw [cr 63 (by omega)]) (by rw [cr 64 (by omega)])⟩
  · obtain ⟨y1, a, b, c1', d, e, f, g, i, j⟩ := h2
    have hp : ∀ k, k < 14 → c1.1 (tP T + k) = c.1 (tP T + k) := fun k hk => by
      rw [fr _ (by rcases hP with p | p <;> rw [p] <;> omega) (by rcases hP with p | p <;> rw [p] <;> omega)]
      exact er _ (by simp only [List.mem_cons, List.not_mem_nil, or_false]; rcases hP with p | p <;> rw [p] <;> omega)
    have hp0 : c1.1 (tP T) = c.1 (tP T) := hp 0 (by omega)
    refine ⟨y1, by rw [f2, e2]; exact a, by rw [f2, e2]; exact b, by rw [hp0]; exact c1', by rw [hp0]; exact d, by rw [hp0]; exact e, by rw [hp0]; exact f, fun p hq => ?_, fun k hk => ?_, fun k hk => ?_⟩
    · rw [hp 2 (by omega), hp 4 (by omega)]; exact g p hq
    · rw [hp 5 (by omega), hp 6 (by omega), hp 7 (by omega), hp 8 (by omega)]; exact i k hk
    · rw [hp 9 (by omega), hp 10 (by omega), hp 11 (by omega)]; exact j k hk
  · refine FC.keep h2 h4 (fun w hw => ⟨?_, ?_⟩)
    · rw [fr _ (by rcases hP with p | p <;> rw [p] <;> omega) (by rcases hP with p | p <;> rw [p] <;> omega)]
      exact er _ (by simp only [List.mem_cons, List.not_mem_nil, or_false]; rcases hP with p | p <;> rw [p] <;> omega)
    · rw [fr _ (by rcases hP with p | p <;> rw [p] <;> omega) (by rcases hP with p | p <;> rw [p] <;> omega)]
      exact er _ (by simp only [List.mem_cons, List.not_mem_nil, or_false]; rcases hP with p | p <;> rw [p] <;> omega)
theorem i_sh1 : ∀ p, p < 7 → (1 : Int32) <<< (nI p &&& 31) = nI (2 ^ p) := by decide +kernel
theorem i_bit : ∀ q, q < 128 → ∀ p, p < 7 → (nI q >>> (nI p &&& 31)) &&& 1 = nI (q / 2 ^ p % 2) := by decide +kernel
theorem m2_cases (n : Nat) : nI (n % 2) = 0 ∧ n % 2 = 0 ∨ nI (n % 2) = 1 ∧ n % 2 = 1 := by
  rcases (show n % 2 = 0 ∨ n % 2 = 1 by omega) with h | h <;> rw [h]
  · exact Or.inl ⟨rfl, rfl⟩
  · exact Or.inr ⟨rfl, rfl⟩
theorem cSt_q {m : Mem} {v : Int32} : ∀ i, i < 37 → cSt (sI m 27 4 v) i = upd (cSt m) 34 v i := by
  intro i hi
  by_cases e : i = 34
  · subst e
    rw [upd_at]
    unfold cSt
    rw [if_neg (by decide), if_neg (by decide), if_neg (by decide), if_neg (by decide), sI_row]
    exact upd_at _ _ _
  · rw [upd_ne e]
    unfold cSt
    rw [sI_row, sI_oth (by decide), sI_oth (by decide), sI_oth (by decide), sI_oth (by decide), upd_ne (by omega)]
theorem pow_np {np : Nat} (h : np ≤ 7) : 2 ^ np ≤ 128 := Nat.pow_le_pow_right (by decide) h
set_option maxHeartbeats 1000000 in
theorem o_hush : Ob_hush Rl := by
  intro mC mM x hR
  obtain ⟨T, h1, h2, h3, h4, h5, h6, h7, h8, h9, h10, h11, h12, h13, h14⟩ := id hR
  have hPP := h2.pl
  have hnp := h1.1
  unfold fX11_hush fX12_hush
  rcases ix3 x (tnp T) (by omega) with c | ⟨c0, c⟩ | ⟨p, hp, rfl⟩
  · rw [c_hasP_lt h2 c, m_isP_lt c, cP_some, cP_some]
    exact ⟨_, _, _, by rw [if_pos rfl], by rw [if_pos rfl], hR⟩
  · rw [c_hasP_ge h2 c0 c, m_isP_ge h1 h3 c0 c, cP_some, cP_some]
    exact ⟨_, _, _, by rw [if_pos rfl], by rw [if_pos rfl], hR⟩
  rw [c_hasP_in h1 h2 hp, m_isP_in h1 h3 hp, cP_some, cP_some, if_neg (by decide : ¬ (1 : Int32) = 0), if_neg (by decide : ¬ (1 : Int32) = 0), pt_eq]
  obtain ⟨rw_, a, u, a1, a2, a3, a4, a5, a6, a7, a8⟩ := id h8
  obtain ⟨z1, ⟨q, hq, hq2⟩, z3, z4⟩ := id h7.2
  have hqC : mC.1 27 4 = nI q := h7.at.1.trans hq2
  have hpw := pow_np hnp
  have hx : nI q ^^^ ((1 : Int32) <<< (nI p &&& 31)) = nI (q ^^^ 2 ^ p) := by rw [i_sh1 p (by omega), nx_xor]
  have hlt : q ^^^ 2 ^ p < 2 ^ tnp T := Nat.xor_lt_two_pow hq (Nat.pow_lt_pow_right (by decide) hp)
  rw [hqC, hx]
  generalize hv : nI (q ^^^ 2 ^ p) = v
  obtain ⟨c1, k1, k2, k3, k4, k5, k6⟩ := c_keep (m := sI mC 27 4 v) (a := a) a1 (by omega) (by rw [sI_oth (by decide)]; exact a3) (by rw [sI_oth (by decide)]; exact a4)
  obtain ⟨m1, q1, q2, q3, q4, q5, q6, q7⟩ := m_act (m := mM) (a := a) (by omega) a6
  have e34 : m1.1 33 34 = nI q := by rw [q3 33 (by omega) (by omega)]; exact hq2
  have hwr : ∀ (K : Mem → Option (Int32 × Mem)), wr m1 33 37 (34 : Int32) v K = K (sI m1 33 34 v) := fun K => wr_ok (k := 34) (by omega) (by omega)
  rw [k1, q1, cV_some, cV_some, (rd_now _ _).1, e34, hx, hv, hwr, (rd_now _ _).1, sI_row, upd_at]
  have hq4 : c1.1 27 4 = v := by rw [k2.2 27 (by decide), sI_row, upd_at]
  have hbit : (v >>> (nI p &&& 31)) &&& 1 = nI ((q ^^^ 2 ^ p) / 2 ^ p % 2) := by rw [← hv]; exact i_bit _ (by omega) p (by omega)
  have hans : (cP (fX9_isQuiet c1 (nI p)) fun r7 => if r7 = 0 then some ((0 : Int32), c1) else some (1, c1)) = some (nI ((q ^^^ 2 ^ p) / 2 ^ p % 2), c1) := by
    unfold fX9_isQuiet
    rw [hq4, hbit]
    rcases m2_cases ((q ^^^ 2 ^ p) / 2 ^ p) with ⟨h, _⟩ | ⟨h, _⟩ <;> rw [h] <;> rfl
  rw [hans, hbit]
  refine ⟨_, _, _, rfl, rfl, ?_⟩
  have m33 : (sI m1 33 34 v).1 33 = upd (mM.1 33) 34 v := by rw [sI_row, q3 33 (by omega) (by omega)]
  have hcs : ∀ i, i < 37 → cSt c1 i = upd (cSt mC) 34 v i := fun i hi => by rw [cSt.keep (m := sI mC 27 4 v) (fun r hr => k2.2 r (by simp only [List.mem_cons, List.not_mem_nil, or_false]; omega))]; exact cSt_q i hi
  have hq : stEq (tnp T) (upd (cSt mC) 34 v) (upd (mM.1 33) 34 v) := fun i hi hc => by
    by_cases ei : i = 34
    · subst ei; rw [upd_at, upd_at]
    · rw [upd_ne ei, upd_ne ei]; exact h7.1 i hi hc
  have hok : stOK (tnp T) (upd (mM.1 33) 34 v) := by
    refine ⟨fun i hi => by rw [upd_ne (by omega)]; exact z1 i hi, ⟨_, hlt, by rw [upd_at, hv]⟩, by rw [upd_ne (by omega)]; exact z3, by rw [upd_ne (by omega)]; exact z4⟩
  have hRS : RSt T c1 (sI m1 33 34 v) := ⟨by rw [m33]; exact hq.of hcs (fun _ _ => rfl), by rw [m33]; exact hok⟩
  have hRA : RA T c1 (sI m1 33 34 v) := by
    refine RA.act (newC := cSt (sI mC 27 4 v)) h1 h8 h7.2 (by rw [m33]; exact hq.of cSt_q (fun _ _ => rfl)) (fun rw' a' e1 e2 e3 e4 => ?_) (fun a' e1 e2 => ?_)
    · have x1 : rw' = rw_ := (nI_eq (by omega) (by omega)).mp (e1.symm.trans a3)
      have x2 : a' = a := (nI_eq (by omega) (by omega)).mp (e2.symm.trans a4)
      subst x1; subst x2
      refine ⟨k3, k4, k5, ?_⟩
      rw [k6, sI_oth (by decide)]
    · have x2 : a' = a := (nI_eq (by omega) (by omega)).mp (e1.symm.trans a6)
      subst x2
      exact ⟨by rw [sI_oth (by decide)]; exact q5, by rw [sI_oth (by decide)]; exact q6, by rw [sI_oth (by decide)]; exact q7⟩
  refine Rl.like (c' := sI mC 27 4 v) h1 h2 h3 h4 h5 h9 h10 h11 h12 h13 h14 ⟨rfl, fun r hr => sI_oth (by rintro rfl; exact hr (by simp)), by rw [sI_oth (by decide)], by rw [sI_oth (by decide)], h6.keep (fun r hr => sI_oth (by omega))⟩ (fun _ _ _ => trivial) c1 ⟨k2.1, fun r x1 x2 => k2.2 r (by simp only [List.mem_cons, List.not_mem_nil, or_false]; omega)⟩ ⟨q2, fun k x1 x2 => by rw [sI_oth (by decide), q4 k x1 x2], fun r hr => ?_⟩ hRS hRA
  simp only [List.mem_cons, List.not_mem_nil, or_false, not_or] at hr
  rw [sI_oth (by omega), q3 r (by omega) (by omega)]

