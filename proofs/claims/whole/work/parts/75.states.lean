/-! ===== undo, redo, images, lights told, bytes fed ===== -/
theorem Rl.like2 {T : Tn} {c c1 m m' : Mem} (hX : RX T c m) (e2 : c1.2 = c.2) (er : ∀ r, r ∉ [27, 28, 29, 30, 31, 56, 57, tP T + 14, tP T + 17, tP T + 20, 53, 54, 55, 58, 59, 60, 61, 62, 65, 71] → c1.1 r = c.1 r) (e65 : c1.1 65 0 = c.1 65 0 ∧ c1.1 65 1 = c.1 65 1) (eD : DC T c1) (hm : mLike m m') (hRS : RSt T c1 m') (hRA : RA T c1 m') : Rl c1 m' := by
  obtain ⟨h1, h2, h3, h4, h5, h6, h7, h8, h9, h10, h11, h12, h13, h14⟩ := hX
  have kr : ∀ r, r ≠ 56 → r ≠ 57 → (sW (sW c1 56 (c.1 56)) 57 (c.1 57)).1 r = c1.1 r := fun r x1 x2 => by rw [sW_oth x2, sW_oth x1]
  refine Rl.like (c' := sW (sW c1 56 (c.1 56)) 57 (c.1 57)) h1 h2 h3 h4 h5 h9 h10 h11 h12 h13 h14 ⟨e2, fun r hr => ?_, by rw [kr 65 (by omega) (by omega)]; exact e65.1, by rw [kr 65 (by omega) (by omega)]; exact e65.2, eD.keep (fun r hr => kr r (by omega) (by omega))⟩ (fun _ _ _ => trivial) c1 ⟨rfl, fun r x1 x2 => (kr r x1 x2).symm⟩ hm hRS hRA
  by_cases x2 : r = 57
  · subst x2; rw [sW_row]
  by_cases x1 : r = 56
  · subst x1; rw [sW_oth (by omega), sW_row]
  rw [kr r x1 x2]
  refine er r ?_
  simp only [List.mem_cons, List.not_mem_nil, or_false] at hr ⊢
  omega
theorem i_41 (x : Nat) (h : x < 2 ^ 20) : ((nI x + (41 : Int32)) - (1 : Int32)) - ((nI x + (41 : Int32)) - (1 : Int32)) / (41 : Int32) * (41 : Int32) = nI ((x + 40) % 41) := by
  have e : (nI x + (41 : Int32)) - (1 : Int32) = nI (x + 40) := by rw [show nI x + (41 : Int32) = nI (x + 40 + 1) from nI_add x 41, nI_pred]
  rw [e]
  exact i_rem41 _ (by omega)
theorem i_37 (j : Nat) : nI j * (37 : Int32) = nI (37 * j) := by rw [show (37 : Int32) = nI 37 from rfl, pk_mul, Nat.mul_comm]
theorem c_stepBack {m : Mem} {rw a u : Nat} (hr : rw < 41) (h1 : m.1 56 1 = nI rw) (h2 : m.1 56 2 = nI (a + 1)) (h3 : m.1 56 3 = nI (u)) (ha : a ≤ 40) (hu : u ≤ 40) : ∃ m', fX0_stepBack m = some (1, m') ∧ m'.2 = m.2 ∧ (∀ r, r ∉ [27, 28, 29, 30, 31, 56] → m'.1 r = m.1 r) ∧ m'.1 56 1 = nI ((rw + 40) % 41) ∧ m'.1 56 2 = nI (a) ∧ m'.1 56 3 = nI (u + 1) ∧ ∀ i, i < 37 → cSt m' i = rowAt (m.1 57) ((rw + 40) % 41) i := by
  unfold fX0_stepBack
  rw [h1, h2, if_neg (nI_ne0 (by omega) (by omega)), pt_eq, pt_eq, pt_eq, i_41 _ (by omega)]
  have e2 : (sI m 56 1 (nI ((rw + 40) % 41))).1 56 2 = nI (a + 1) := by rw [sI_row, upd_ne (by decide), h2]
  have e3 : ∀ v, (sI (sI m 56 1 (nI ((rw + 40) % 41))) 56 2 v).1 56 3 = nI (u) := fun v => by rw [sI_row, upd_ne (by decide), sI_row, upd_ne (by decide), h3]
  rw [e2, nI_pred, e3, nI_1]
  generalize hm3 : sI (sI (sI m 56 1 (nI ((rw + 40) % 41))) 56 2 (nI (a))) 56 3 (nI (u + 1)) = m3
  have f1 : m3.1 56 1 = nI ((rw + 40) % 41) := by rw [← hm3, sI_row, upd_ne (by decide), sI_row, upd_ne (by decide), sI_row, upd_at]
  have f2 : m3.1 56 2 = nI (a) := by rw [← hm3, sI_row, upd_ne (by decide), sI_row, upd_at]
  have f3 : m3.1 56 3 = nI (u + 1) := by rw [← hm3, sI_row, upd_at]
  have k3 : keeps [56] m m3 := by rw [← hm3]; exact ((keeps.rfl'.sI (by decide)).sI (by decide)).sI (by decide)
  have hlt : (rw + 40) % 41 < 41 := Nat.mod_lt _ (by decide)
  obtain ⟨m', b1, b2, b3⟩ := c_load (m := m3) (R := 57) (j := (rw + 40) % 41) (Or.inl rfl) (show 37 * ((rw + 40) % 41) + 37 ≤ 1517 by omega)
  rw [f1, i_37, b1, cV_some]
  refine ⟨m', rfl, by rw [b2.1, k3.1], fun r hr => ?_, ?_, ?_, ?_, fun i hi => ?_⟩
  · simp only [List.mem_cons, List.not_mem_nil, or_false] at hr
    rw [b2.2 r (by simp <;> omega), k3.2 r (by simp <;> omega)]
  · rw [b2.2 56 (by simp)]; exact f1
  · rw [b2.2 56 (by simp)]; exact f2
  · rw [b2.2 56 (by simp)]; exact f3
  · rw [b3 i hi, k3.2 57 (by simp)]
theorem c_stepOn {m : Mem} {rw a u : Nat} (hr : rw < 41) (h1 : m.1 56 1 = nI rw) (h2 : m.1 56 2 = nI (a)) (h3 : m.1 56 3 = nI (u + 1)) (ha : a ≤ 40) (hu : u ≤ 40) : ∃ m', fX0_stepOn m = some (1, m') ∧ m'.2 = m.2 ∧ (∀ r, r ∉ [27, 28, 29, 30, 31, 56] → m'.1 r = m.1 r) ∧ m'.1 56 1 = nI ((rw + 1) % 41) ∧ m'.1 56 2 = nI (a + 1) ∧ m'.1 56 3 = nI (u) ∧ ∀ i, i < 37 → cSt m' i = rowAt (m.1 57) ((rw + 1) % 41) i := by
  unfold fX0_stepOn
  rw [h1, h3, if_neg (nI_ne0 (by omega) (by omega)), pt_eq, pt_eq, pt_eq, show nI rw + (1 : Int32) = nI (rw + 1) from nI_1 rw, i_rem41 _ (by omega)]
  have e2 : (sI m 56 1 (nI ((rw + 1) % 41))).1 56 2 = nI (a) := by rw [sI_row, upd_ne (by decide), h2]
  have e3 : ∀ v, (sI (sI m 56 1 (nI ((rw + 1) % 41))) 56 2 v).1 56 3 = nI (u + 1) := fun v => by rw [sI_row, upd_ne (by decide), sI_row, upd_ne (by decide), h3]
  rw [e2, nI_1, e3, nI_pred]
  generalize hm3 : sI (sI (sI m 56 1 (nI ((rw + 1) % 41))) 56 2 (nI (a + 1))) 56 3 (nI (u)) = m3
  have f1 : m3.1 56 1 = nI ((rw + 1) % 41) := by rw [← hm3, sI_row, upd_ne (by decide), sI_row, upd_ne (by decide), sI_row, upd_at]
  have f2 : m3.1 56 2 = nI (a + 1) := by rw [← hm3, sI_row, upd_ne (by decide), sI_row, upd_at]
  have f3 : m3.1 56 3 = nI (u) := by rw [← hm3, sI_row, upd_at]
  have k3 : keeps [56] m m3 := by rw [← hm3]; exact ((keeps.rfl'.sI (by decide)).sI (by decide)).sI (by decide)
  have hlt : (rw + 1) % 41 < 41 := Nat.mod_lt _ (by decide)
  obtain ⟨m', b1, b2, b3⟩ := c_load (m := m3) (R := 57) (j := (rw + 1) % 41) (Or.inl rfl) (show 37 * ((rw + 1) % 41) + 37 ≤ 1517 by omega)
  rw [f1, i_37, b1, cV_some]
  refine ⟨m', rfl, by rw [b2.1, k3.1], fun r hr => ?_, ?_, ?_, ?_, fun i hi => ?_⟩
  · simp only [List.mem_cons, List.not_mem_nil, or_false] at hr
    rw [b2.2 r (by simp <;> omega), k3.2 r (by simp <;> omega)]
  · rw [b2.2 56 (by simp)]; exact f1
  · rw [b2.2 56 (by simp)]; exact f2
  · rw [b2.2 56 (by simp)]; exact f3
  · rw [b3 i hi, k3.2 57 (by simp)]
theorem m_undo {m : Mem} {a u : Nat} (h60 : m.1 0 60 = nI (a + 1)) (h61 : m.1 0 61 = nI u) (ha : a ≤ 39) : ∃ m', fX12_undo m = some (1, m') ∧ m'.2 = m.2 ∧ (∀ r, r ≠ 0 → r ≠ 33 → r ≠ 37 → m'.1 r = m.1 r) ∧ (∀ k, k ≠ 60 → k ≠ 61 → m'.1 0 k = m.1 0 k) ∧ m'.1 0 60 = nI a ∧ m'.1 0 61 = nI (u + 1) ∧ m'.1 37 = fb_put (m.1 37) (m.1 33) (37 * a) 37 ∧ ∀ i, i < 37 → m'.1 33 i = rowAt (m.1 37) a i := by
  unfold fX12_undo
  rw [h60, if_neg (nI_ne0 (by omega) (by omega)), pt_eq, pt_eq, nI_pred]
  have e61 : (sI m 0 60 (nI a)).1 0 61 = nI u := by rw [sI_row, upd_ne (by decide), h61]
  rw [e61, nI_1]
  generalize hm3 : sI (sI m 0 60 (nI a)) 0 61 (nI (u + 1)) = m3
  have f60 : m3.1 0 60 = nI a := by rw [← hm3, sI_row, upd_ne (by decide), sI_row, upd_at]
  have f61 : m3.1 0 61 = nI (u + 1) := by rw [← hm3, sI_row, upd_at]
  have f0 : ∀ k, k ≠ 60 → k ≠ 61 → m3.1 0 k = m.1 0 k := fun k x1 x2 => by rw [← hm3, sI_row, upd_ne x2, sI_row, upd_ne x1]
  have fr : ∀ r, r ≠ 0 → m3.1 r = m.1 r := fun r hr => by rw [← hm3, sI_oth hr, sI_oth hr]
  have f2 : m3.2 = m.2 := by rw [← hm3]; rfl
  rw [f60, show (37 : Int32) * nI a = nI (37 * a) from pk_mul 37 a, m_exchange m3 a ha, cV_some]
  refine ⟨_, rfl, f2, fun r x1 x2 x3 => by rw [sW_oth x2, sW_oth x3, fr r x1], fun k x1 x2 => by rw [sW_oth (by omega), sW_oth (by omega)]; exact f0 k x1 x2, by rw [sW_oth (by omega), sW_oth (by omega)]; exact f60, by rw [sW_oth (by omega), sW_oth (by omega)]; exact f61, by rw [sW_oth (by omega), sW_row, fr 37 (by omega), fr 33 (by omega)], fun i hi => by rw [sW_row, cpN_in hi, fr 37 (by omega)]⟩
theorem m_redo {m : Mem} {a u : Nat} (h60 : m.1 0 60 = nI a) (h61 : m.1 0 61 = nI (u + 1)) (ha : a ≤ 39) (hu : u ≤ 39) : ∃ m', fX12_redo m = some (1, m') ∧ m'.2 = m.2 ∧ (∀ r, r ≠ 0 → r ≠ 33 → r ≠ 37 → m'.1 r = m.1 r) ∧ (∀ k, k ≠ 60 → k ≠ 61 → m'.1 0 k = m.1 0 k) ∧ m'.1 0 60 = nI (a + 1) ∧ m'.1 0 61 = nI u ∧ m'.1 37 = fb_put (m.1 37) (m.1 33) (37 * a) 37 ∧ ∀ i, i < 37 → m'.1 33 i = rowAt (m.1 37) a i := by
  unfold fX12_redo
  rw [h61, if_neg (nI_ne0 (by omega) (by omega)), h60, show (37 : Int32) * nI a = nI (37 * a) from pk_mul 37 a, m_exchange m a ha, cV_some, pt_eq, pt_eq]
  generalize hm3 : sW (sW m 37 (fb_put (m.1 37) (m.1 33) (37 * a) 37)) 33 (cpN (rowAt (m.1 37) a) (m.1 33) 37) = m3
  have fr : ∀ r, r ≠ 33 → r ≠ 37 → m3.1 r = m.1 r := fun r x1 x2 => by rw [← hm3, sW_oth x1, sW_oth x2]
  have e60 : m3.1 0 60 = nI a := by rw [fr 0 (by omega) (by omega), h60]
  have e61 : ∀ v, (sI m3 0 60 v).1 0 61 = nI (u + 1) := fun v => by rw [sI_row, upd_ne (by decide), fr 0 (by omega) (by omega), h61]
  rw [e60, e61, nI_1, nI_pred]
  refine ⟨_, rfl, by rw [← hm3]; rfl, fun r x1 x2 x3 => by rw [sI_oth x1, sI_oth x1, fr r x2 x3], fun k x1 x2 => by rw [sI_row, upd_ne x2, sI_row, upd_ne x1, fr 0 (by omega) (by omega)], by rw [sI_row, upd_ne (by decide), sI_row, upd_at], by rw [sI_row, upd_at], by rw [sI_oth (by omega), sI_oth (by omega), ← hm3, sW_oth (by omega), sW_row], fun i hi => by rw [sI_oth (by omega), sI_oth (by omega), ← hm3, sW_row, cpN_in hi]⟩
theorem o_undo : Ob_undo Rl := by
  intro mC mM hR
  obtain ⟨T, hX⟩ : ∃ T, RX T mC mM := id hR
  obtain ⟨h1, h2, h3, h4, h5, h6, h7, h8, h9, h10, h11, h12, h13, h14⟩ := id hX
  have hP := h2.pl
  have hnp := h1.1
  obtain ⟨rw_, a, u, a1, a2, a3, a4, a5, a6, a7, a8, a9, a10⟩ := id h8
  by_cases c0 : a = 0
  · subst c0
    refine ⟨0, mC, mM, ?_, ?_, hR⟩
    · unfold fX11_undo fX0_stepBack
      rw [a4, if_pos (show nI 0 = 0 from rfl), cI_some, tz_0]
    · unfold fX12_undo
      rw [a6, if_pos (show nI 0 = 0 from rfl)]
  obtain ⟨a, rfl⟩ : ∃ b, a = b + 1 := ⟨a - 1, by omega⟩
  obtain ⟨c1, p1, p2, p3, p4, p5, p6, p7⟩ := c_stepBack a1 a3 a4 a5 (by omega) (by omega)
  obtain ⟨m1, q1, q2, q3, q4, q5, q6, q7, q8⟩ := m_undo a6 a7 (by omega)
  refine ⟨1, c1, m1, by unfold fX11_undo; rw [p1, cI_some, tz_1], q1, ?_⟩
  obtain ⟨z1, z2⟩ := a9 a (by omega)
  rw [show (rw_ + 41 - (a + 1 - a)) % 41 = (rw_ + 40) % 41 by omega] at z1
  have hst : stEq (tnp T) (cSt c1) (m1.1 33) := z1.of p7 q8
  have hok : stOK (tnp T) (m1.1 33) := z2.of hnp q8
  refine Rl.like2 hX p2 (fun r hr => p3 r (by simp only [List.mem_cons, List.not_mem_nil, or_false] at hr ⊢; omega)) ⟨by rw [p3 65 (by simp)], by rw [p3 65 (by simp)]⟩ (h6.keep (fun r hr => p3 r (by simp <;> omega))) ⟨q2, q4, fun r hr => by simp only [List.mem_cons, List.not_mem_nil, or_false, not_or] at hr; exact q3 r (by omega) (by omega) (by omega)⟩ ⟨hst, hok⟩ ?_
  have e57 : c1.1 57 = mC.1 57 := p3 57 (by simp)
  refine ⟨(rw_ + 40) % 41, a, u + 1, Nat.mod_lt _ (by decide), by omega, p4, p5, p6, q5, q6, ?_, fun j hj => ?_, fun j hj => ?_⟩
  · rw [e57]; exact z1.of (fun _ _ => rfl) q8
  · rw [e57, q7]
    obtain ⟨y1, y2⟩ := a9 j (by omega)
    rw [show ((rw_ + 40) % 41 + 41 - (a - j)) % 41 = (rw_ + 41 - (a + 1 - j)) % 41 by omega]
    exact ⟨y1.of (fun _ _ => rfl) (fun i hi => rowAt_ne hi (by omega)), y2.of hnp (fun i hi => rowAt_ne hi (by omega))⟩
  · rw [e57, q7]
    by_cases cj : j = 0
    · subst cj
      rw [show ((rw_ + 40) % 41 + 1 + 0) % 41 = rw_ by omega]
      exact ⟨a8.of (fun _ _ => rfl) (fun i hi => rowAt_same hi), h7.2.of hnp (fun i hi => rowAt_same hi)⟩
    · obtain ⟨j, rfl⟩ : ∃ b, j = b + 1 := ⟨j - 1, by omega⟩
      obtain ⟨y1, y2⟩ := a10 j (by omega)
      rw [show ((rw_ + 40) % 41 + 1 + (j + 1)) % 41 = (rw_ + 1 + j) % 41 by omega, show a + (j + 1) = a + 1 + j by omega]
      exact ⟨y1.of (fun _ _ => rfl) (fun i hi => rowAt_ne hi (by omega)), y2.of hnp (fun i hi => rowAt_ne hi (by omega))⟩
theorem o_redo : Ob_redo Rl := by
  intro mC mM hR
  obtain ⟨T, hX⟩ : ∃ T, RX T mC mM := id hR
  obtain ⟨h1, h2, h3, h4, h5, h6, h7, h8, h9, h10, h11, h12, h13, h14⟩ := id hX
  have hP := h2.pl
  have hnp := h1.1
  obtain ⟨rw_, a, u, a1, a2, a3, a4, a5, a6, a7, a8, a9, a10⟩ := id h8
  by_cases c0 : u = 0
  · subst c0
    refine ⟨0, mC, mM, ?_, ?_, hR⟩
    · unfold fX11_redo fX0_stepOn
      rw [a5, if_pos (show nI 0 = 0 from rfl), cI_some, tz_0]
    · unfold fX12_redo
      rw [a7, if_pos (show nI 0 = 0 from rfl)]
  obtain ⟨u, rfl⟩ : ∃ b, u = b + 1 := ⟨u - 1, by omega⟩
  obtain ⟨c1, p1, p2, p3, p4, p5, p6, p7⟩ := c_stepOn a1 a3 a4 a5 (by omega) (by omega)
  obtain ⟨m1, q1, q2, q3, q4, q5, q6, q7, q8⟩ := m_redo a6 a7 (by omega) (by omega)
  refine ⟨1, c1, m1, by unfold fX11_redo; rw [p1, cI_some, tz_1], q1, ?_⟩
  obtain ⟨z1, z2⟩ := a10 0 (by omega)
  rw [Nat.add_zero, Nat.add_zero] at z1
  rw [Nat.add_zero] at z2
  have hst : stEq (tnp T) (cSt c1) (m1.1 33) := z1.of p7 q8
  have hok : stOK (tnp T) (m1.1 33) := z2.of hnp q8
  refine Rl.like2 hX p2 (fun r hr => p3 r (by simp only [List.mem_cons, List.not_mem_nil, or_false] at hr ⊢; omega)) ⟨by rw [p3 65 (by simp)], by rw [p3 65 (by simp)]⟩ (h6.keep (fun r hr => p3 r (by simp <;> omega))) ⟨q2, q4, fun r hr => by simp only [List.mem_cons, List.not_mem_nil, or_false, not_or] at hr; exact q3 r (by omega) (by omega) (by omega)⟩ ⟨hst, hok⟩ ?_
  have e57 : c1.1 57 = mC.1 57 := p3 57 (by simp)
  refine ⟨(rw_ + 1) % 41, a + 1, u, Nat.mod_lt _ (by decide), by omega, p4, p5, p6, q5, q6, ?_, fun j hj => ?_, fun j hj => ?_⟩
  · rw [e57]; exact z1.of (fun _ _ => rfl) q8
  · rw [e57, q7]
    by_cases cj : j = a
    · subst cj
      rw [show ((rw_ + 1) % 41 + 41 - (j + 1 - j)) % 41 = rw_ by omega]
      exact ⟨a8.of (fun _ _ => rfl) (fun i hi => rowAt_same hi), h7.2.of hnp (fun i hi => rowAt_same hi)⟩
    · obtain ⟨y1, y2⟩ := a9 j (by omega)
      rw [show ((rw_ + 1) % 41 + 41 - (a + 1 - j)) % 41 = (rw_ + 41 - (a - j)) % 41 by omega]
      exact ⟨y1.of (fun _ _ => rfl) (fun i hi => rowAt_ne hi (by omega)), y2.of hnp (fun i hi => rowAt_ne hi (by omega))⟩
  · rw [e57, q7]
    obtain ⟨y1, y2⟩ := a10 (j + 1) (by omega)
    rw [show ((rw_ + 1) % 41 + 1 + j) % 41 = (rw_ + 1 + (j + 1)) % 41 by omega, show a + 1 + j = a + (j + 1) by omega]
    exact ⟨y1.of (fun _ _ => rfl) (fun i hi => rowAt_ne hi (by omega)), y2.of hnp (fun i hi => rowAt_ne hi (by omega))⟩
theorem bf_or : ∀ f, f < 8 → ∀ b, b < 3 → ∀ c, c < 3 → (f ||| 2 ^ b) / 2 ^ c % 2 = if c = b then 1 else f / 2 ^ c % 2 := by decide +kernel
theorem bf_lt : ∀ f, f < 8 → ∀ b, b < 3 → f ||| 2 ^ b < 8 := by decide +kernel
theorem nar_1 : vp_nar .boolean (1 : Int32) = 1 := rfl
theorem nar_0 : vp_nar .boolean (0 : Int32) = 0 := rfl
theorem o_image : Ob_image Rl := by
  intro mC mM x hR
  obtain ⟨T, hX⟩ : ∃ T, RX T mC mM := id hR
  obtain ⟨h1, h2, h3, h4, h5, h6, h7, h8, h9, h10, h11, h12, h13, h14⟩ := id hX
  have hP := h2.pl
  have hnp := h1.1
  have hPP := hP
  unfold fX11_image fX12_image
  rcases box_c x with ⟨e1, e2⟩ | ⟨b, hb, rfl, e1, e2⟩
  · rw [e1, e2, cP_some, cP_some]
    exact ⟨_, _, _, by rw [if_pos rfl], by rw [if_pos rfl], hR⟩
  rw [e1, e2, cP_some, cP_some, if_neg i10, if_neg i10]
  obtain ⟨bf, g1, g2, g3⟩ := id h11
  have hm := m_image (sI mM 46 b 1) b hb 37 0 (by omega) 5000 (by omega)
  rw [fb_put_0, sW_self] at hm
  rw [i_37, c_save (Or.inr rfl) (show 37 * b + 37 ≤ 111 by omega), cV_some, pt_eq, nar_1, wr_ok hb (by omega), show gX12_image 5000 (nI b) 0 (sI mM 46 b 1) = _ from hm]
  rw [sW_oth (show 0 ≠ 72 by omega), g2, sh_pow b (by omega), fa_or]
  generalize hc1 : sI (sW mC 72 (fb_put (mC.1 72) (cSt mC) (37 * b) 37)) 0 7 (nI (bf ||| 2 ^ b)) = c1
  generalize hm1 : sW (sI mM 46 b 1) 47 (fb_put ((sI mM 46 b 1).1 47) ((sI mM 46 b 1).1 33) (37 * b) 37) = m1
  have e1 : c1.1 27 6 = mM.1 33 36 := by rw [← hc1, sI_oth (by omega), sW_oth (by omega)]; exact h7.at.2.2
  have e2 : (sI mM 46 b 1).1 33 36 = mM.1 33 36 := by rw [sI_oth (by omega)]
  rw [e1, e2]
  refine ⟨_, _, _, rfl, rfl, ?_⟩
  have cr : ∀ r, r ≠ 0 → r ≠ 72 → c1.1 r = mC.1 r := fun r x1 x2 => by rw [← hc1, sI_oth x1, sW_oth x2]
  have c0 : ∀ k, k ≠ 7 → c1.1 0 k = mC.1 0 k := fun k hk => by rw [← hc1, sI_row, upd_ne hk, sW_oth (by omega)]
  have c07 : c1.1 0 7 = nI (bf ||| 2 ^ b) := by rw [← hc1, sI_row, upd_at]
  have c72 : c1.1 72 = fb_put (mC.1 72) (cSt mC) (37 * b) 37 := by rw [← hc1, sI_oth (by omega), sW_row]
  have c2 : c1.2 = mC.2 := by rw [← hc1]; rfl
  have mr : ∀ r, r ≠ 46 → r ≠ 47 → m1.1 r = mM.1 r := fun r x1 x2 => by rw [← hm1, sW_oth x2, sI_oth x1]
  have m46 : m1.1 46 = upd (mM.1 46) b 1 := by rw [← hm1, sW_oth (by omega), sI_row]
  have m47 : m1.1 47 = fb_put (mM.1 47) (mM.1 33) (37 * b) 37 := by rw [← hm1, sW_row, sI_oth (by omega), sI_oth (by omega)]
  have m0 : ∀ k, m1.1 0 k = mM.1 0 k := fun k => by rw [mr 0 (by omega) (by omega)]
  have hRB : RB T c1 m1 := by
    refine ⟨bf ||| 2 ^ b, bf_lt bf g1 b hb, c07, fun b' hb' => ?_⟩
    rw [bf_or bf g1 b hb b' hb', m46, c72, m47]
    by_cases e : b' = b
    · subst e
      rw [if_pos rfl, upd_at]
      exact ⟨rfl, fun _ => ⟨h7.1.of (fun i hi => rowAt_same hi) (fun i hi => rowAt_same hi), h7.2.of hnp (fun i hi => rowAt_same hi)⟩⟩
    · rw [if_neg e, upd_ne e]
      refine ⟨(g3 b' hb').1, fun hx => ?_⟩
      obtain ⟨y1, y2⟩ := (g3 b' hb').2 hx
      exact ⟨y1.of (fun i hi => rowAt_ne hi e) (fun i hi => rowAt_ne hi e), y2.of hnp (fun i hi => rowAt_ne hi e)⟩
  exact ⟨T, h1, h2.keep (by rw [c2]) (fun r hr => cr r (by omega) (by omega)), h3.keep (fun k hk => m0 k) (fun r hr => mr r (by omega) (by omega)), FC.keep h2 h4 (fun w hw => ⟨cr _ (by rcases hPP with p | p <;> rw [p] <;> omega) (by rcases hPP with p | p <;> rw [p] <;> omega), cr _ (by rcases hPP with p | p <;> rw [p] <;> omega) (by rcases hPP with p | p <;> rw [p] <;> omega)⟩), h5.keep (fun r hr => mr r (by omega) (by omega)), h6.keep (fun r hr => cr r (by omega) (by omega)), h7.keep (fun r hr => cr r (by omega) (by omega)) (mr 33 (by omega) (by omega)), h8.keep ⟨cr 56 (by omega) (by omega), cr 57 (by omega) (by omega)⟩ ⟨m0 60, m0 61⟩ ⟨mr 33 (by omega) (by omega), mr 37 (by omega) (by omega)⟩, h9.keep ⟨by rw [cr 65 (by omega) (by omega)], by rw [cr 65 (by omega) (by omega)]⟩ (fun r hr => cr r (by omega) (by omega)) ⟨m0 69, m0 70⟩ (fun r hr => mr r (by omega) (by omega)), h10.keep ⟨c0 9 (by omega), cr 73 (by omega) (by omega)⟩ ⟨m0 63, mr 38 (by omega) (by omega)⟩, hRB, h12.keep ⟨by rw [cr 1 (by omega) (by omega)], cr 2 (by omega) (by omega)⟩ ⟨m0 1, mr 1 (by omega) (by omega)⟩, h13.keep ⟨by rw [cr 4 (by omega) (by omega)], by rw [cr 4 (by omega) (by omega)]⟩ ⟨m0 2, m0 3⟩, h14.keep (by rw [c2]) (by rw [cr 63 (by omega) (by omega)]) (by rw [cr 64 (by omega) (by omega)])⟩
theorem c_forget {m : Mem} {rw : Nat} (hr : rw < 41) (h1 : m.1 56 1 = nI rw) : ∃ m', fX0_forgetAll m = some m' ∧ keeps [56, 57] m m' ∧ m'.1 56 1 = nI rw ∧ m'.1 56 2 = nI 0 ∧ m'.1 56 3 = nI 0 ∧ m'.1 57 = fb_put (m.1 57) (cSt m) (37 * rw) 37 := by
  unfold fX0_forgetAll
  rw [pt_eq, pt_eq]
  generalize hm3 : sI (sI m 56 2 0) 56 3 0 = m3
  have k3 : keeps [56, 57] m m3 := by rw [← hm3]; exact (keeps.rfl'.sI (by decide)).sI (by decide)
  have f1 : m3.1 56 1 = nI rw := by rw [← hm3, sI_row, upd_ne (by decide), sI_row, upd_ne (by decide), h1]
  have f2 : m3.1 56 2 = nI 0 := by rw [← hm3, sI_row, upd_ne (by decide), sI_row, upd_at]; rfl
  have f3 : m3.1 56 3 = nI 0 := by rw [← hm3, sI_row, upd_at]; rfl
  have f4 : m3.1 57 = m.1 57 := by rw [← hm3, sI_oth (by decide), sI_oth (by decide)]
  have f5 : cSt m3 = cSt m := cSt.keep (fun r hr => k3.2 r (by simp only [List.mem_cons, List.not_mem_nil, or_false]; omega))
  rw [f1, i_37, c_save (Or.inl rfl) (show 37 * rw + 37 ≤ 1517 by omega), cV_some, f4, f5]
  refine ⟨_, rfl, k3.sW (by decide), ?_, ?_, ?_, sW_row _ _ _⟩
  · rw [sW_oth (by decide)]; exact f1
  · rw [sW_oth (by decide)]; exact f2
  · rw [sW_oth (by decide)]; exact f3
theorem bf_bit : ∀ f, f < 8 → ∀ b, b < 3 → (nI f >>> (nI b &&& 31)) &&& (1 : Int32) = nI (f / 2 ^ b % 2) := by decide +kernel
theorem o_back : Ob_back Rl := by
  intro mC mM x hR
  obtain ⟨T, hX⟩ : ∃ T, RX T mC mM := id hR
  obtain ⟨h1, h2, h3, h4, h5, h6, h7, h8, h9, h10, h11, h12, h13, h14⟩ := id hX
  have hP := h2.pl
  have hnp := h1.1
  unfold fX11_back fX12_back
  rcases box_c x with ⟨e1, e2⟩ | ⟨b, hb, rfl, e1, e2⟩
  · rw [e1, e2, cP_some, cP_some]
    exact ⟨_, _, _, by rw [if_pos rfl], by rw [if_pos rfl], hR⟩
  rw [e1, e2, cP_some, cP_some, if_neg i10, if_neg i10]
  obtain ⟨bf, g1, g2, g3⟩ := id h11
  obtain ⟨y0, y1⟩ := g3 b hb
  rw [g2, bf_bit bf g1 b hb, rd_ok hb (by omega), y0]
  by_cases c0 : bf / 2 ^ b % 2 = 0
  · rw [c0, if_pos (show nI 0 = 0 from rfl)]
    exact ⟨_, _, _, rfl, by rw [if_pos (show nI 0 = 0 from rfl)], hR⟩
  have c1 : bf / 2 ^ b % 2 = 1 := by omega
  obtain ⟨y1, y2⟩ := y1 c1
  obtain ⟨rw_, a, u, a1, a2, a3, a4, a5, a6, a7, a8, a9, a10⟩ := id h8
  obtain ⟨c2, p1, p2, p3⟩ := c_load (m := mC) (R := 72) (j := b) (Or.inr rfl) (show 37 * b + 37 ≤ 111 by omega)
  obtain ⟨c3, q1, q2, q3, q4, q5, q6⟩ := c_forget (m := c2) a1 (by rw [p2.2 56 (by simp)]; exact a3)
  have hm := m_back mM b hb 37 0 (by omega) 5000 (by omega)
  rw [cpN_0, sW_self] at hm
  rw [c1, if_neg i1n, if_neg i1n, i_37, p1, cV_some, q1, cV_some, show gX12_back 5000 (nI b) 0 mM = _ from hm]
  generalize hm1 : sI (sI (sW mM 33 (cpN (rowAt (mM.1 47) b) (mM.1 33) 37)) 0 60 0) 0 61 0 = m1
  have mr : ∀ r, r ≠ 0 → r ≠ 33 → m1.1 r = mM.1 r := fun r x1 x2 => by rw [← hm1, sI_oth x1, sI_oth x1, sW_oth x2]
  have m0 : ∀ k, k ≠ 60 → k ≠ 61 → m1.1 0 k = mM.1 0 k := fun k x1 x2 => by rw [← hm1, sI_row, upd_ne x2, sI_row, upd_ne x1, sW_oth (by omega)]
  have m60 : m1.1 0 60 = nI 0 := by rw [← hm1, sI_row, upd_ne (by decide), sI_row, upd_at]; rfl
  have m61 : m1.1 0 61 = nI 0 := by rw [← hm1, sI_row, upd_at]; rfl
  have m33 : ∀ i, i < 37 → m1.1 33 i = rowAt (mM.1 47) b i := fun i hi => by rw [← hm1, sI_oth (by omega), sI_oth (by omega), sW_row, cpN_in hi]
  have hcs : ∀ i, i < 37 → cSt c3 i = rowAt (mC.1 72) b i := fun i hi => by rw [cSt.keep (m := c2) (fun r hr => q2.2 r (by simp <;> omega))]; exact p3 i hi
  have hst : stEq (tnp T) (cSt c3) (m1.1 33) := y1.of hcs m33
  have hok : stOK (tnp T) (m1.1 33) := y2.of hnp m33
  have e36 : c3.1 27 6 = rowAt (mM.1 47) b 36 := by rw [← m33 36 (by omega)]; exact hst 36 (by omega) (by omega)
  rw [e36]
  refine ⟨_, _, _, rfl, rfl, ?_⟩
  have cr : ∀ r, r ∉ [27, 28, 29, 30, 31, 56, 57] → c3.1 r = mC.1 r := fun r hr => by
    simp only [List.mem_cons, List.not_mem_nil, or_false] at hr
    rw [q2.2 r (by simp <;> omega), p2.2 r (by simp <;> omega)]
  refine Rl.like2 hX (by rw [q2.1, p2.1]) (fun r hr => cr r (by simp only [List.mem_cons, List.not_mem_nil, or_false] at hr ⊢; omega)) ⟨by rw [cr 65 (by simp)], by rw [cr 65 (by simp)]⟩ (h6.keep (fun r hr => cr r (by simp <;> omega))) ⟨by rw [← hm1]; rfl, m0, fun r hr => by simp only [List.mem_cons, List.not_mem_nil, or_false, not_or] at hr; exact mr r (by omega) (by omega)⟩ ⟨hst, hok⟩ ?_
  refine ⟨rw_, 0, 0, a1, by omega, q3, q4, q5, m60, m61, ?_, fun j hj => by omega, fun j hj => by omega⟩
  rw [q6]
  exact y1.of (fun i hi => by rw [rowAt_same hi]; exact p3 i hi) m33
