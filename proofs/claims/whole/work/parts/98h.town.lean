/-! ===== all lines of a town ===== -/
section
variable {bt : Nat → Nat} {L : Nat}
theorem mu_le {T : Tn} {nms : Nat → List Nat} (h : PT T nms) : mu T ≤ 36 := by
  obtain ⟨⟨g1, g2, g3, g4, g5, g6, g7, g8, g9⟩, -, -, -, w4, w5, -⟩ := h
  have hs : fb_sm (fun p => T.1 23 p) (tnp T) ≤ tnp T * 1 := fb_sm_bound (fun q hq => (w4 q hq).2.1)
  have a0 := g9 0 (by omega)
  have a1 := g9 1 (by omega)
  have a2 := g9 2 (by omega)
  unfold mu
  omega
theorem line_all {T : Tn} {nms : Nat → List Nat} {k p n v : Nat} {wd : List Nat} {c m : Mem} (h : PI bt L T nms k p n v wd c m) (hk : ¬ k = 1) : ∃ rc, LN bt L T c m rc (fX12_readLine m) ∧ ∀ f i, i < 1600 → gX7_readTown (f + 1) 1 (nI i) c = cI rc fun r m' => gX7_readTown f r (nI (i + 1)) m' := by
  have hT := h.2.1
  have hQ := h.2.2.1.2.1
  have hc := h.2.2.2.1.1
  have kd : ∀ j, j < 2 ^ 31 → (c.1 1 4 = nI j ↔ k = j) := fun j hj => hT.isK hj
  have n : ∀ j, j < 2 ^ 31 → ¬ k = j → ¬ c.1 1 4 = nI j := fun j hj z y => z ((kd j hj).mp y)
  have y : ∀ j, j < 2 ^ 31 → k = j → c.1 1 4 = nI j := fun j hj z => (kd j hj).mpr z
  have beg : ∀ f i, i < 1600 → gX7_readTown (f + 1) 1 (nI i) c = (if (c.1 1 4) = (128 : Int32) then (cI (fX7_readPerson c) fun r5 m6 => (gX7_readTown f r5 (nI (i + 1)) m6)) else (if (c.1 1 4) = (129 : Int32) then (cI (fX7_readMeet c) fun r8 m9 => (gX7_readTown f r8 (nI (i + 1)) m9)) else (if (c.1 1 4) = (130 : Int32) then (cI (fX7_readNoise c) fun r11 m12 => (gX7_readTown f r11 (nI (i + 1)) m12)) else (if (c.1 1 4) = (131 : Int32) then (cI (fX7_readWakeful c) fun r14 m15 => (gX7_readTown f r14 (nI (i + 1)) m15)) else (if (c.1 1 4) = (132 : Int32) then (cI (fX7_readFormula c (tP T + 12)) fun r18 m19 => (gX7_readTown f r18 (nI (i + 1)) m19)) else (if (c.1 1 4) = (133 : Int32) then (cI (fX7_readFormula c (tP T + 15)) fun r22 m23 => (gX7_readTown f r22 (nI (i + 1)) m23)) else (if (c.1 1 4) = (134 : Int32) then (cI (fX7_readFormula c (tP T + 18)) fun r26 m27 => (gX7_readTown f r26 (nI (i + 1)) m27)) else (if (c.1 1 4) = (135 : Int32) then (cI (fX7_readDate c) fun r29 m30 => (gX7_readTown f r29 (nI (i + 1)) m30)) else (cI (fX7_refuse c (2 : Int32)) fun r31 m32 => (gX7_readTown f r31 (nI (i + 1)) m32)))))))))) := fun f i hi => by
    rw [gX7_readTown, if_neg (show ¬ (1600 : Int32) ≤ nI i from nI_ge (b := 1600) hi (by omega)), if_neg (show ¬ (1 : Int32) = 0 by decide), if_neg (show ¬ c.1 1 4 = (1 : Int32) from n 1 (by omega) hk), hc, gPl_ok hQ, gPl_ok hQ, gPl_ok hQ, nI_1]
  by_cases k0 : k = 128
  · exact ⟨_, person_line h k0, fun f i hi => by rw [beg f i hi, if_pos (show c.1 1 4 = (128 : Int32) from y 128 (by omega) k0)]⟩
  have n0 : ¬ c.1 1 4 = (128 : Int32) := n 128 (by omega) k0
  by_cases k1 : k = 129
  · exact ⟨_, meet_line h k1, fun f i hi => by rw [beg f i hi, if_neg n0, if_pos (show c.1 1 4 = (129 : Int32) from y 129 (by omega) k1)]⟩
  have n1 : ¬ c.1 1 4 = (129 : Int32) := n 129 (by omega) k1
  by_cases k2 : k = 130
  · exact ⟨_, noise_line h k2, fun f i hi => by rw [beg f i hi, if_neg n0, if_neg n1, if_pos (show c.1 1 4 = (130 : Int32) from y 130 (by omega) k2)]⟩
  have n2 : ¬ c.1 1 4 = (130 : Int32) := n 130 (by omega) k2
  by_cases k3 : k = 131
  · exact ⟨_, wake_line h k3, fun f i hi => by rw [beg f i hi, if_neg n0, if_neg n1, if_neg n2, if_pos (show c.1 1 4 = (131 : Int32) from y 131 (by omega) k3)]⟩
  have n3 : ¬ c.1 1 4 = (131 : Int32) := n 131 (by omega) k3
  by_cases k4 : k = 132
  · exact ⟨_, form_line (w := 0) h (by omega) k4, fun f i hi => by rw [beg f i hi, if_neg n0, if_neg n1, if_neg n2, if_neg n3, if_pos (show c.1 1 4 = (132 : Int32) from y 132 (by omega) k4)]⟩
  have n4 : ¬ c.1 1 4 = (132 : Int32) := n 132 (by omega) k4
  by_cases k5 : k = 133
  · exact ⟨_, form_line (w := 1) h (by omega) k5, fun f i hi => by rw [beg f i hi, if_neg n0, if_neg n1, if_neg n2, if_neg n3, if_neg n4, if_pos (show c.1 1 4 = (133 : Int32) from y 133 (by omega) k5)]⟩
  have n5 : ¬ c.1 1 4 = (133 : Int32) := n 133 (by omega) k5
  by_cases k6 : k = 134
  · exact ⟨_, form_line (w := 2) h (by omega) k6, fun f i hi => by rw [beg f i hi, if_neg n0, if_neg n1, if_neg n2, if_neg n3, if_neg n4, if_neg n5, if_pos (show c.1 1 4 = (134 : Int32) from y 134 (by omega) k6)]⟩
  have n6 : ¬ c.1 1 4 = (134 : Int32) := n 134 (by omega) k6
  by_cases k7 : k = 135
  · exact ⟨_, date_line h k7, fun f i hi => by rw [beg f i hi, if_neg n0, if_neg n1, if_neg n2, if_neg n3, if_neg n4, if_neg n5, if_neg n6, if_pos (show c.1 1 4 = (135 : Int32) from y 135 (by omega) k7)]⟩
  have n7 : ¬ c.1 1 4 = (135 : Int32) := n 135 (by omega) k7
  refine ⟨fX7_refuse c (2 : Int32), ?_, fun f i hi => by rw [beg f i hi, if_neg n0, if_neg n1, if_neg n2, if_neg n3, if_neg n4, if_neg n5, if_neg n6, if_neg n7]⟩
  obtain ⟨c', m', b1, b2, b3, b4, b5, b6, b7⟩ := h.j.no (Q := tP T) (x := 2) (by omega)
  have start : fX12_readLine m = some m' := by
    unfold fX12_readLine
    rw [hT.w0, cP_some, if_neg k0, if_pos rfl, hT.w1, cP_some, if_neg k1, if_pos rfl, hT.w2, cP_some, if_neg k2, if_pos rfl]
    rw [show (5000 : Nat) = 4998 + 2 from rfl, none_line h.j (by omega) 4998, show fX12_wrong m (2 : Int32) = _ from b2, cV_some]
    exact b4.fin 4997
  rw [start]
  exact Or.inl ⟨c', m', b1, rfl, b3, b5, b6⟩
theorem town_loop : ∀ (j : Nat) (T : Tn) (nms : Nat → List Nat) (k p n v : Nat) (wd : List Nat) (c m : Mem) (i f g : Nat), mu T + j = 40 → PI bt L T nms k p n v wd c m → i ≤ mu T → j < f → j < g →
    (∃ c' m', gX7_readTown f 1 (nI i) c = some (0, c') ∧ gX12_readAll g 1 0 m = some m' ∧ bad c' m' ∧ GC (tP T) c c' ∧ GM m m') ∨
    (∃ T' nms' p' n' v' wd' c' m', gX7_readTown f 1 (nI i) c = some (1, c') ∧ gX12_readAll g 1 0 m = some m' ∧ PI bt L T' nms' 1 p' n' v' wd' c' m' ∧ (tP T' = tP T ∧ tQ T' = tQ T) ∧ GC (tP T) c c' ∧ GM m m') := by
  intro j
  induction j with
  | zero =>
    intro T nms k p n v wd c m i f g hj h hi hf hg
    have := mu_le h.2.2.1
    omega
  | succ j ih =>
    intro T nms k p n v wd c m i f g hj h hi hf hg
    have hmu := mu_le h.2.2.1
    obtain ⟨f, rfl⟩ : ∃ x, f = x + 2 := ⟨f - 2, by omega⟩
    obtain ⟨g, rfl⟩ : ∃ x, g = x + 2 := ⟨g - 2, by omega⟩
    by_cases hk : k = 1
    · subst hk
      refine Or.inr ⟨T, nms, p, n, v, wd, c, m, ?_, ?_, h, ⟨rfl, rfl⟩, GC.rfl', GM.rfl'⟩
      · rw [gX7_readTown, if_neg (show ¬ (1600 : Int32) ≤ nI i from nI_ge (b := 1600) (by omega) (by omega)), if_neg (show ¬ (1 : Int32) = 0 by decide), if_pos (show c.1 1 4 = (1 : Int32) from h.2.1.kind), tz_1]
      · rw [gX12_readAll, if_pos h.2.2.2.2.2, if_pos (h.2.1.s0.mpr rfl)]
    obtain ⟨rc, h1, h2⟩ := line_all h hk
    rw [h2 (f + 1) i (by omega), gX12_readAll, if_pos h.2.2.2.2.2, if_neg (fun z => hk (h.2.1.s0.mp z))]
    rcases h1 with ⟨c', m', a1, a2, a3, a4, a5⟩ | ⟨T', nms', k', p', n', v', wd', c', m', a1, a2, a3, a4, a5, a6, a7⟩
    · refine Or.inl ⟨c', m', ?_, ?_, a3, a4, a5⟩
      · rw [a1, cI_some, gX7_readTown, if_neg (show ¬ (1600 : Int32) ≤ nI (i + 1) from nI_ge (b := 1600) (by omega) (by omega)), if_pos rfl, tz_0]
      · obtain ⟨x, q, z1, z2, z3, z4, z5, z6, z7⟩ := a3
        have hMF : MF x q m' := ⟨⟨z1, z2, z3⟩, z6, z7⟩
        rw [a2, cV_some, gX12_readAll, if_neg hMF.pos.1]
    · rw [a1, cI_some, a2, cV_some]
      rcases ih T' nms' k' p' n' v' wd' c' m' (i + 1) (f + 1) (g + 1) (by omega) a3 (by omega) (by omega) (by omega) with ⟨c2, m2, b1, b2, b3, b4, b5⟩ | ⟨T2, nms2, p2, n2, v2, wd2, c2, m2, b1, b2, b3, b4, b5, b6⟩
      · rw [a4.1] at b4
        exact Or.inl ⟨c2, m2, b1, b2, b3, a6.trans b4, a7.trans b5⟩
      · rw [a4.1] at b5
        exact Or.inr ⟨T2, nms2, p2, n2, v2, wd2, c2, m2, b1, b2, b3, ⟨b4.1.trans a4.1, b4.2.trans a4.2⟩, a6.trans b5, a7.trans b6⟩
end
/-- nothing told -/
def T00 (P Q : Nat) : Tn := (fun a b => if a = 20 ∧ b = 0 then P else if a = 20 ∧ b = 1 then Q else 0, fun _ _ _ _ _ => 0)
def GMs (m m' : Mem) : Prop := (∀ r, r ∉ [0, 3, 4, 5, 9, 11, 14, 15, 16, 19, 20, 21, 22, 27, 28, 29] → m'.1 r = m.1 r) ∧ ∀ s, s ∉ [1, 2, 3, 4, 5, 6, 7, 8, 21, 22, 23, 25, 26, 47, 48, 49, 50, 54] → m'.1 0 s = m.1 0 s
/-- both read a town -/
theorem read_both {P Q : Nat} {c m : Mem} {L : Nat} {bt : Nat → Nat} (hP : P = 5 ∨ P = 32) (h4 : c.2.2 4 1 = P) (hL : L ≤ 1600) (hc1 : c.1 1 1 = nI L) (hm1 : m.1 0 1 = nI L) (hbt : ∀ i, i < L → bt i < 256 ∧ m.1 1 i = nI (bt i) ∧ c.1 2 i = (nI (bt i)).toInt8.toInt32) (hw : c.2.1 3 = tapeWords) :
    ∃ r c' m', fX7_readTown c = some (r, c') ∧ fX12_readAll m = some m' ∧ GC P c c' ∧ GMs m m' ∧ m'.1 0 1 = 0 ∧ (r = 0 ∧ bad c' m' ∨ r = 1 ∧ ∃ T' nms', PT T' nms' ∧ PC T' nms' c' ∧ PM T' nms' m' ∧ tP T' = P ∧ tQ T' = Q ∧ c'.1 4 4 = 0 ∧ c'.1 4 5 = -1 ∧ m'.1 0 2 = 0 ∧ m'.1 0 3 = -1) := by
  unfold fX7_readTown fX12_readAll
  rw [pt_eq, pt_eq, sI_2, sI_2, h4, gPl_ok hP]
  unfold fX6_clear fX3_clear
  rw [gPl_ok hP, pt_eq, pt_eq, pt_eq, pt_eq, gFm_ok (by omega), pt_eq, pt_eq, cV_some, gFm_ok (by omega), pt_eq, pt_eq, cV_some, gFm_ok (by omega), pt_eq, pt_eq, cV_some, pt_eq, cV_some]
  generalize hc5 : sI (sI (sI (sI (sI (sI (sI (sI (sI (sI (sI (sI (sI c 4 4 0) 4 5 (-1)) P 0 0) P 5 0) P 10 0) P 14 (-1)) (P + 12) 2 0) (P + 12) 3 0) (P + 15) 2 0) (P + 15) 3 0) (P + 18) 2 0) (P + 18) 3 0) P 18 0 = c5
  unfold fX10_open
  rw [pt_eq]
  rw [pt_eq, pt_eq, pt_eq, pt_eq, pt_eq, pt_eq, pt_eq, pt_eq, pt_eq, pt_eq]
  generalize hm10 : sI (sI (sI (sI (sI (sI (sI (sI (sI (sI m 0 5 (m.1 0 1)) 0 1 0) 0 4 0) 0 2 0) 0 3 (-1)) 0 47 0) 0 48 0) 0 49 0) 0 50 0) 0 54 0 = m10
  have hall : gX12_readAll 5000 0 (0 : Int32) m10 = (pt (sI (sI (sI (sI m10 11 0 0) 11 1 0) 11 2 0) 0 23 (0 : Int32)) fun m2 => (cV (fX12_token m2) fun m4 => (gX12_readAll 4996 1 0 m4))) := by
    rw [show (5000 : Nat) = 4999 + 1 from rfl, gX12_readAll, if_neg (show ¬ (3 : Int32) ≤ 0 by decide), wr_z (by omega) (by omega), nar1.2]
    rw [show (4999 : Nat) = 4998 + 1 from rfl, show (0 : Int32) + 1 = 1 from rfl, gX12_readAll, if_neg (show ¬ (3 : Int32) ≤ 1 by decide), wr_1 (by omega) (by omega), nar1.2]
    rw [show (4998 : Nat) = 4997 + 1 from rfl, show (1 : Int32) + 1 = 2 from rfl, gX12_readAll, if_neg (show ¬ (3 : Int32) ≤ 2 by decide), wr_2 (by omega) (by omega), nar1.2]
    rw [show (4997 : Nat) = 4996 + 1 from rfl, show (2 : Int32) + 1 = 3 from rfl, gX12_readAll, if_pos (show (3 : Int32) ≤ 3 by decide)]
  rw [hall, pt_eq]
  generalize hm2 : sI (sI (sI (sI m10 11 0 0) 11 1 0) 11 2 0) 0 23 (0 : Int32) = m2
  generalize hc6 : sI c5 1 3 (0 : Int32) = c6
  have c6l : c6.2 = c.2 := by rw [← hc6, ← hc5]; rfl
  have c6r : ∀ r, r ≠ 1 → r ≠ 4 → r ≠ P → r ≠ P + 12 → r ≠ P + 15 → r ≠ P + 18 → c6.1 r = c.1 r := fun r x1 x2 x3 x4 x5 x6 => by
    rw [← hc6, ← hc5, sI_oth x1, sI_oth x3, sI_oth x6, sI_oth x6, sI_oth x5, sI_oth x5, sI_oth x4, sI_oth x4, sI_oth x3, sI_oth x3, sI_oth x3, sI_oth x3, sI_oth x2, sI_oth x2]
  have c61 : c6.1 1 = upd (c.1 1) 3 0 := by
    rw [← hc6, sI_row, ← hc5, sI_oth (by omega), sI_oth (by omega), sI_oth (by omega), sI_oth (by omega), sI_oth (by omega), sI_oth (by omega), sI_oth (by omega), sI_oth (by omega), sI_oth (by omega), sI_oth (by omega), sI_oth (by omega), sI_oth (by omega), sI_oth (by omega)]
  have c64 : c6.1 4 = upd (upd (c.1 4) 4 0) 5 (-1) := by
    rw [← hc6, ← hc5, sI_oth (by omega), sI_oth (by omega), sI_oth (by omega), sI_oth (by omega), sI_oth (by omega), sI_oth (by omega), sI_oth (by omega), sI_oth (by omega), sI_oth (by omega), sI_oth (by omega), sI_oth (by omega), sI_oth (by omega), sI_row, sI_row]
  have c6P : c6.1 P = upd (upd (upd (upd (upd (c.1 P) 0 0) 5 0) 10 0) 14 (-1)) 18 0 := by
    rw [← hc6, ← hc5, sI_oth (by omega), sI_row, sI_oth (by omega), sI_oth (by omega), sI_oth (by omega), sI_oth (by omega), sI_oth (by omega), sI_oth (by omega), sI_row, sI_row, sI_row, sI_row, sI_oth (by omega), sI_oth (by omega)]
  have c6a : c6.1 (P + 12) = upd (upd (c.1 (P + 12)) 2 0) 3 0 := by
    rw [← hc6, ← hc5, sI_oth (by omega), sI_oth (by omega), sI_oth (by omega), sI_oth (by omega), sI_oth (by omega), sI_oth (by omega), sI_row, sI_row, sI_oth (by omega), sI_oth (by omega), sI_oth (by omega), sI_oth (by omega), sI_oth (by omega), sI_oth (by omega)]
  have c6b : c6.1 (P + 15) = upd (upd (c.1 (P + 15)) 2 0) 3 0 := by
    rw [← hc6, ← hc5, sI_oth (by omega), sI_oth (by omega), sI_oth (by omega), sI_oth (by omega), sI_row, sI_row, sI_oth (by omega), sI_oth (by omega), sI_oth (by omega), sI_oth (by omega), sI_oth (by omega), sI_oth (by omega), sI_oth (by omega), sI_oth (by omega)]
  have c6c : c6.1 (P + 18) = upd (upd (c.1 (P + 18)) 2 0) 3 0 := by
    rw [← hc6, ← hc5, sI_oth (by omega), sI_oth (by omega), sI_row, sI_row, sI_oth (by omega), sI_oth (by omega), sI_oth (by omega), sI_oth (by omega), sI_oth (by omega), sI_oth (by omega), sI_oth (by omega), sI_oth (by omega), sI_oth (by omega), sI_oth (by omega)]
  have m2l : m2.2 = m.2 := by rw [← hm2, ← hm10]; rfl
  have m2r : ∀ r, r ≠ 0 → r ≠ 11 → m2.1 r = m.1 r := fun r x1 x2 => by
    rw [← hm2, ← hm10, sI_oth x1, sI_oth x2, sI_oth x2, sI_oth x2, sI_oth x1, sI_oth x1, sI_oth x1, sI_oth x1, sI_oth x1, sI_oth x1, sI_oth x1, sI_oth x1, sI_oth x1, sI_oth x1]
  have m211 : m2.1 11 = upd (upd (upd (m10.1 11) 0 0) 1 0) 2 0 := by rw [← hm2, sI_oth (by omega), sI_row, sI_row, sI_row]
  have m20 : m2.1 0 = upd (upd (upd (upd (upd (upd (upd (upd (upd (upd (upd (m.1 0) 5 (m.1 0 1)) 1 0) 4 0) 2 0) 3 (-1)) 47 0) 48 0) 49 0) 50 0) 54 0) 23 0 := by
    rw [← hm2, sI_row, sI_oth (by omega), sI_oth (by omega), sI_oth (by omega), ← hm10, sI_row, sI_row, sI_row, sI_row, sI_row, sI_row, sI_row, sI_row, sI_row, sI_row]
  have m20s : ∀ s, s ∉ [1, 2, 3, 4, 5, 23, 47, 48, 49, 50, 54] → m2.1 0 s = m.1 0 s := fun s hs => by
    simp only [List.mem_cons, List.not_mem_nil, or_false, not_or] at hs
    rw [m20, upd_ne (by omega), upd_ne (by omega), upd_ne (by omega), upd_ne (by omega), upd_ne (by omega), upd_ne (by omega), upd_ne (by omega), upd_ne (by omega), upd_ne (by omega), upd_ne (by omega), upd_ne (by omega)]
  have gc6 : GC P c c6 := ⟨fun r hr => c6r r (by omega) (by omega) (by omega) (by omega) (by omega) (by omega), fun s hs => by rw [c61, upd_ne (by omega)], fun _ _ _ => by rw [c6l], fun _ _ _ => by rw [c6l]⟩
  have hB : BT bt L c6 m2 := by
    refine ⟨hL, by rw [c61, upd_ne (by omega)]; exact hc1, ?_, fun i hi => ?_, by rw [c6l]; exact hw, by rw [c64]; rfl, by rw [c64]; rfl, by rw [m20]; rfl⟩
    · rw [m20, upd_ne (by omega), upd_ne (by omega), upd_ne (by omega), upd_ne (by omega), upd_ne (by omega), upd_ne (by omega), upd_ne (by omega), upd_ne (by omega), upd_ne (by omega), upd_ne (by omega), upd_at]
      exact hm1
    · obtain ⟨x1, x2, x3⟩ := hbt i hi
      exact ⟨x1, by rw [c6r 2 (by omega) (by omega) (by omega) (by omega) (by omega) (by omega)]; exact x3, by rw [m2r 1 (by omega) (by omega)]; exact x2⟩
  obtain ⟨k1, p1, n1, v1, wd1, c7, m7, a1, a2, -, a3, a4, a5, a6⟩ := adv hB (n := 0) (by omega) (by rw [c61]; rfl) (by rw [m20]; rfl)
  rw [a1, cV_some, cV_some, a2, cV_some]
  have hPT : PT (T00 P Q) (fun _ => []) := by
    refine ⟨⟨Nat.zero_le _, Nat.zero_le _, Nat.zero_le _, Nat.zero_le _, fun q hq => absurd hq (Nat.not_lt_zero q), fun q hq => absurd hq (Nat.not_lt_zero q), fun q hq => absurd hq (Nat.not_lt_zero q), fun q _ hq => absurd hq (Nat.not_lt_zero q), fun w hw => Nat.zero_le _⟩, hP, fun q hq => absurd hq (Nat.not_lt_zero q), fun q _ hq => absurd hq (Nat.not_lt_zero q), fun q hq => absurd hq (Nat.not_lt_zero q), Nat.zero_le _, Nat.zero_le _, fun _ => rfl⟩
  have hPC6 : PC (T00 P Q) (fun _ => []) c6 := by
    refine ⟨by rw [c6l]; exact h4, ?_, fun q hq => absurd hq (Nat.not_lt_zero q), fun q hq => absurd hq (Nat.not_lt_zero q), fun q hq => absurd hq (Nat.not_lt_zero q), fun w hw => ?_, fun w hw _ => ?_⟩
    · show c6.1 P 0 = 0 ∧ c6.1 P 5 = 0 ∧ c6.1 P 10 = 0 ∧ c6.1 P 18 = 0 ∧ c6.1 P 14 = -1
      rw [c6P]
      exact ⟨rfl, rfl, rfl, rfl, rfl⟩
    · refine ⟨?_, fun z => absurd z (Nat.zero_ne_one)⟩
      show c6.1 (P + (12 + 3 * w)) 3 = 0
      rcases (show w = 0 ∨ w = 1 ∨ w = 2 by omega) with rfl | rfl | rfl
      · rw [c6a]; rfl
      · rw [c6b]; rfl
      · rw [c6c]; rfl
    · show c6.1 (P + (12 + 3 * w)) 2 = 0
      rcases (show w = 0 ∨ w = 1 ∨ w = 2 by omega) with rfl | rfl | rfl
      · rw [c6a]; rfl
      · rw [c6b]; rfl
      · rw [c6c]; rfl
  have hPM2 : PM (T00 P Q) (fun _ => []) m2 := by
    refine ⟨?_, fun q hq => absurd hq (Nat.not_lt_zero q), fun q hq => absurd hq (Nat.not_lt_zero q), fun q hq => absurd hq (Nat.not_lt_zero q), fun w hw => ⟨?_, fun z => absurd z (Nat.zero_ne_one)⟩⟩
    · show m2.1 0 47 = 0 ∧ m2.1 0 48 = 0 ∧ m2.1 0 49 = 0 ∧ m2.1 0 23 = 0 ∧ m2.1 0 54 = 0 ∧ m2.1 0 50 = 0
      rw [m20]
      exact ⟨rfl, rfl, rfl, rfl, rfl, rfl⟩
    · show m2.1 11 w = 0
      rw [m211]
      rcases (show w = 0 ∨ w = 1 ∨ w = 2 by omega) with rfl | rfl | rfl <;> rfl
  have hPI : PI bt L (T00 P Q) (fun _ => []) k1 p1 n1 v1 wd1 c7 m7 := ⟨a3, a4, hPT, hPC6.lx hP a5, hPM2.lx a6, by rw [a6.2.2.1 2 (by omega), m20]; rfl⟩
  have gc7 : GC P c c7 := gc6.trans a5.gc
  have gms : ∀ m', GM m7 m' → GMs m m' ∧ m'.1 0 1 = 0 := fun m' g => by
    have g2 := a6.gm.trans g
    refine ⟨⟨fun r hr => ?_, fun s hs => ?_⟩, ?_⟩
    · rw [g2.1 r hr]
      simp only [List.mem_cons, List.not_mem_nil, or_false, not_or] at hr
      exact m2r r (by omega) (by omega)
    · simp only [List.mem_cons, List.not_mem_nil, or_false, not_or] at hs
      rw [g2.2 s (by simp only [List.mem_cons, List.not_mem_nil, or_false, not_or]; omega)]
      exact m20s s (by simp only [List.mem_cons, List.not_mem_nil, or_false, not_or]; omega)
    · rw [g2.2 1 (by simp), m20]; rfl
  rcases town_loop (bt := bt) (L := L) 40 (T00 P Q) (fun _ => []) k1 p1 n1 v1 wd1 c7 m7 0 5000 4996 rfl hPI (Nat.zero_le _) (by omega) (by omega) with ⟨c', m', b1, b2, b3, b4, b5⟩ | ⟨T', nms', p', n', v', wd', c', m', b1, b2, b3, b4, b5, b6⟩
  · obtain ⟨g1, g2⟩ := gms m' b5
    exact ⟨0, c', m', b1, b2, gc7.trans b4, g1, g2, Or.inl ⟨rfl, b3⟩⟩
  · obtain ⟨g1, g2⟩ := gms m' b6
    obtain ⟨x1, x2, x3, x4, x5, x6⟩ := b3
    exact ⟨1, c', m', b1, b2, gc7.trans b5, g1, g2, Or.inr ⟨rfl, T', nms', x3, x4, x5, b4.1, b4.2, x1.2.2.2.2.2.1, x1.2.2.2.2.2.2.1, x6, x1.2.2.2.2.2.2.2⟩⟩
