/-! ===== lines: tokens alone ===== -/
def PJ (bt : Nat → Nat) (L k p n v : Nat) (wd : List Nat) (c m : Mem) : Prop := BT bt L c m ∧ TK L k p n v wd c m ∧ m.1 0 2 = 0
theorem PI.j {bt : Nat → Nat} {L : Nat} {T : Tn} {nms : Nat → List Nat} {k p n v : Nat} {wd : List Nat} {c m : Mem} (h : PI bt L T nms k p n v wd c m) : PJ bt L k p n v wd c m := ⟨h.1, h.2.1, h.2.2.2.2.2⟩
section
variable {bt : Nat → Nat} {L : Nat} {k p n v : Nat} {wd : List Nat} {c m : Mem} {Q : Nat}
theorem PJ.adv (h : PJ bt L k p n v wd c m) (hk : ¬ k = 0) : ∃ k' p' n' v' wd' c' m', fX10_advance c = some c' ∧ fX12_token m = some m' ∧ PJ bt L k' p' n' v' wd' c' m' ∧ lxC c c' ∧ lxM m m' := by
  obtain ⟨hB, hT, h0⟩ := h
  obtain ⟨k', p', n', v', wd', c', m', a1, a2, -, a3, a4, a5, a6⟩ := _root_.Jvm.Pilot.CHingeTownLaw_law_r9371_c971df.adv hB hT.2.2.1 (hT.nxC hk) (hT.nxM hk)
  exact ⟨k', p', n', v', wd', c', m', a1, a2, ⟨a3, a4, by rw [a6.2.2.1 2 (by omega)]; exact h0⟩, a5, a6⟩
/-- a token stays where its cells do -/
theorem PJ.keep (h : PJ bt L k p n v wd c m) {c' m' : Mem} (c1 : c'.1 1 = c.1 1) (c2 : c'.1 2 = c.1 2) (c4 : c'.1 4 4 = c.1 4 4 ∧ c'.1 4 5 = c.1 4 5) (cl : c'.2.1 1 = c.2.1 1) (cw : c'.2.1 3 = c.2.1 3) (m0 : ∀ s, (1 < s ∧ s < 9) → m'.1 0 s = m.1 0 s) (m1 : m'.1 1 = m.1 1) (ml : m'.2.1 0 = m.2.1 0) : PJ bt L k p n v wd c' m' := by
  obtain ⟨hB, hT, h0⟩ := h
  refine ⟨⟨hB.1, by rw [c1]; exact hB.2.1, by rw [m0 5 (by omega)]; exact hB.2.2.1, by rw [c2, m1]; exact hB.2.2.2.1, by rw [cw, c4.1, c4.2, m0 3 (by omega)]; exact hB.2.2.2.2⟩, ?_, by rw [m0 2 (by omega)]; exact h0⟩
  unfold TK at hT ⊢
  rw [c1, cl, ml, m0 8 (by omega), m0 6 (by omega), m0 7 (by omega), m0 4 (by omega)]
  exact hT
theorem PJ.p16 (h : PJ bt L k p n v wd c m) : p ≤ 1600 := by have := h.1.1; have := h.2.1.2.1; omega
/-- both refuse alike -/
theorem PJ.no (h : PJ bt L k p n v wd c m) {x : Nat} (hx : 1 ≤ x ∧ x ≤ 5) : ∃ c' m', fX7_refuse c (nI x) = some (0, c') ∧ fX12_wrong m (nI x) = some m' ∧ bad c' m' ∧ MF (if k = 0 then 1 else x) p m' ∧ GC Q c c' ∧ GM m m' ∧ (∀ s, s ≠ 2 → s ≠ 3 → m'.1 0 s = m.1 0 s) := by
  obtain ⟨c', r1, r2, r3, r4, r5⟩ := refuse_ok h.2.1 x
  obtain ⟨m', b1, b2, b3, b4, b5⟩ := wrong_ok h.2.1 h.2.2 x
  have hM : MF (if k = 0 then 1 else x) p m' := ⟨⟨by split <;> omega, by split <;> omega, h.p16⟩, b4, b5⟩
  exact ⟨c', m', r1, b1, ⟨_, p, hM.1.1, hM.1.2.1, hM.1.2.2, r4, r5, b4, b5⟩, hM, GC.k4 r2, GM.k0 b2 b3, b3⟩
/-- the end of a line, with its sign -/
theorem PJ.fin (h : PJ bt L k p n v wd c m) (F : Nat) : (∃ c' m', fX7_pass c (59 : Int32) = some (0, c') ∧ gX12_readLine (F + 1) 2 m = some m' ∧ bad c' m' ∧ GC Q c c' ∧ GM m m') ∨ (∃ k' p' n' v' wd' c' m', fX7_pass c (59 : Int32) = some (1, c') ∧ gX12_readLine (F + 1) 2 m = some m' ∧ PJ bt L k' p' n' v' wd' c' m' ∧ lxC c c' ∧ lxM m m') := by
  have h59 := h.2.1.kd (j := 59) (x := 59) rfl (by omega)
  have hs59 := h.2.1.sg (s := 59) (x := 59) rfl (by omega) (by decide)
  unfold fX7_pass
  rw [gX12_readLine, if_pos h.2.2]
  by_cases e : k = 59
  · obtain ⟨k', p', n', v', wd', c', m', a1, a2, a3, a4, a5⟩ := h.adv (by omega)
    refine Or.inr ⟨k', p', n', v', wd', c', m', ?_, ?_, a3, a4, a5⟩
    · rw [if_pos (h59.mpr e), a1, cV_some]
    · rw [if_pos (hs59.mpr e), if_pos h.2.2, a2, cV_some]
  · obtain ⟨c', m', a1, a2, a3, a4, a5, a6, -⟩ := h.no (x := 2) (by omega)
    refine Or.inl ⟨c', m', ?_, ?_, a3, a5, a6⟩
    · rw [if_neg (fun z => e (h59.mp z)), show fX7_refuse c (2 : Int32) = _ from a1, cI_some, tz_0]
    · rw [if_neg (fun z => e (hs59.mp z)), show fX12_wrong m (2 : Int32) = _ from a2, cV_some, if_neg a4.pos.1]
/-- a word that must stand here -/
theorem PJ.want (h : PJ bt L k p n v wd c m) {j : Nat} (hj : j < 19) {y : Int32} (hy : y = nI (128 + j)) {x : Int64} (hx : fX12_isWord m x = some (if k = 128 + j then 1 else 0)) : (∃ c' m' f q, fX7_pass c y = some (0, c') ∧ fX12_want m x = some m' ∧ bad c' m' ∧ MF f q m' ∧ GC Q c c' ∧ GM m m' ∧ (∀ s, s ≠ 2 → s ≠ 3 → m'.1 0 s = m.1 0 s)) ∨ (∃ k' p' n' v' wd' c' m', fX7_pass c y = some (1, c') ∧ fX12_want m x = some m' ∧ PJ bt L k' p' n' v' wd' c' m' ∧ lxC c c' ∧ lxM m m') := by
  have hk := h.2.1.kd (j := 128 + j) hy (by omega)
  unfold fX7_pass fX12_want
  rw [if_pos (show m.1 0 2 ≤ 0 by rw [h.2.2]; decide), hx, cP_some]
  by_cases e : k = 128 + j
  · obtain ⟨k', p', n', v', wd', c', m', a1, a2, a3, a4, a5⟩ := h.adv (by omega)
    exact Or.inr ⟨k', p', n', v', wd', c', m', by rw [if_pos (hk.mpr e), a1, cV_some], by rw [if_pos e, if_neg (show ¬ (1 : Int32) = 0 by decide), a2, cV_some], a3, a4, a5⟩
  · obtain ⟨c', m', a1, a2, a3, a4, a5, a6, a7⟩ := h.no (x := 2) (by omega)
    exact Or.inl ⟨c', m', _, _, by rw [if_neg (fun z => e (hk.mp z)), show fX7_refuse c (2 : Int32) = _ from a1, cI_some, tz_0], by rw [if_neg e, if_pos rfl, show fX12_wrong m (2 : Int32) = _ from a2, cV_some], a3, a4, a5, a6, a7⟩
/-- a number that must stand here, from lo to up -/
theorem PJ.number (h : PJ bt L k p n v wd c m) {lo up : Nat} (hu : up < 10000) (hl : lo ≤ up) : (∃ c' m' f q z, fX7_isNumberHere c (nI lo) (nI up) = some (0, c') ∧ fX12_toldNumber m (nI lo) (nI up) = some (z, m') ∧ bad c' m' ∧ MF f q m' ∧ GC Q c c' ∧ GM m m' ∧ (∀ s, s ≠ 2 → s ≠ 3 → m'.1 0 s = m.1 0 s)) ∨ (k = 3 ∧ lo ≤ v ∧ v ≤ up ∧ c.1 1 6 = nI v ∧ fX7_isNumberHere c (nI lo) (nI up) = some (1, c) ∧ ∀ m', fX12_token m = some m' → fX12_toldNumber m (nI lo) (nI up) = some (nI v, m')) := by
  have h0 := h.2.2
  have hk := h.2.1.kd (j := 3) (x := 3) rfl (by omega)
  have hs := h.2.1.s2
  unfold fX7_isNumberHere fX12_toldNumber
  rw [if_pos (show m.1 0 2 ≤ 0 by rw [h0]; decide)]
  by_cases e : k = 3
  · obtain ⟨e1, e2, e3⟩ := h.2.1.num e
    rw [if_pos (hk.mpr e), if_pos (hs.mpr e), e2, e3]
    obtain ⟨c', m', a1, a2, a3, a4, a5, a6, a7⟩ := h.no (x := 4) (by omega)
    by_cases y1 : v < lo
    · refine Or.inl ⟨c', m', _, _, _, by rw [if_pos (nI_lt y1 (by omega)), show fX7_refuse c (4 : Int32) = _ from a1, cI_some, if_pos rfl], by rw [if_pos (nI_lt y1 (by omega)), show fX12_wrong m (4 : Int32) = _ from a2, cV_some, nm_eq, if_neg a4.pos.1], a3, a4, a5, a6, a7⟩
    · rw [if_neg (show ¬ nI v < nI lo from nI_nlt (by omega) (by omega)), if_neg (show ¬ nI v < nI lo from nI_nlt (by omega) (by omega))]
      by_cases y2 : up < v
      · refine Or.inl ⟨c', m', _, _, _, by rw [if_pos (nI_lt y2 (by omega)), show fX7_refuse c (4 : Int32) = _ from a1, cI_some, if_pos rfl], by rw [if_neg (nI_ge y2 (by omega)), show fX12_wrong m (4 : Int32) = _ from a2, cV_some, nm_eq, if_neg a4.pos.1], a3, a4, a5, a6, a7⟩
      · refine Or.inr ⟨e, by omega, by omega, rfl, by rw [if_neg (nI_nlt (by omega) (by omega))], fun m' hm' => ?_⟩
        rw [if_pos (nI_le (by omega) (by omega)), nm_eq, if_pos h0, hm', cV_some]
  · obtain ⟨c', m', a1, a2, a3, a4, a5, a6, a7⟩ := h.no (x := 2) (by omega)
    refine Or.inl ⟨c', m', _, _, _, by rw [if_neg (fun z => e (hk.mp z)), show fX7_refuse c (2 : Int32) = _ from a1, cI_some, tz_0], by rw [if_neg (fun z => e (hs.mp z)), show fX12_wrong m (2 : Int32) = _ from a2, cV_some, nm_eq, if_neg a4.pos.1], a3, a4, a5, a6, a7⟩
end
