/-! ===== lines: noise ===== -/
section
variable {bt : Nat → Nat} {L : Nat} {T : Tn} {nms : Nat → List Nat} {k p n v : Nat} {wd : List Nat} {c m : Mem} {Q : Nat}
theorem noise_line (h : PI bt L T nms k p n v wd c m) (hk : k = 130) : LN bt L T c m (fX7_readNoise c) (fX12_readLine m) := by
  have h7 := h.2.2.1.1.1
  have h8 := h.2.2.1.1.2.2.1
  have hQ := h.2.2.1.2.1
  have hT := h.2.1
  have hC := h.2.2.2.1
  have hM := h.2.2.2.2.1
  have start : fX12_readLine m = (if (8 : Int32) ≤ nI (tnn T) then (gX12_readLine 5000 0 m) else (cV (fX12_readNoise m) fun m12 => (gX12_readLine 5000 2 m12))) := by
    unfold fX12_readLine
    rw [hT.w0, cP_some, if_neg (show ¬ k = 128 by omega), if_pos rfl, hT.w1, cP_some, if_neg (show ¬ k = 129 by omega), if_pos rfl, hT.w2, cP_some, if_pos hk, if_neg (show ¬ (1 : Int32) = 0 by decide), hM.1.2.2.1]
  rw [start]
  unfold fX7_readNoise
  rw [hC.1, gPl_ok hQ, nm_eq, hC.2.1.2.2.1]
  by_cases e8 : tnn T = 8
  · obtain ⟨c', m', b1, b2, b3, b4, b5, b6, b7⟩ := h.j.no (Q := tP T) (x := 2) (by omega)
    rw [if_neg (show ¬ nI (tnn T) < (8 : Int32) by rw [e8]; decide), if_pos (show (8 : Int32) ≤ nI (tnn T) by rw [e8]; decide), show fX7_refuse c (2 : Int32) = _ from b1, cI_some, tz_0, show (5000 : Nat) = 4998 + 2 from rfl, none_line h.j (by omega), show fX12_wrong m (2 : Int32) = _ from b2, cV_some]
    exact Or.inl ⟨c', m', rfl, b4.fin 4997, b3, b5, b6⟩
  have hlt : tnn T < 8 := by omega
  rw [if_pos (show nI (tnn T) < (8 : Int32) from nI_lt (b := 8) hlt (by omega)), if_neg (show ¬ (8 : Int32) ≤ nI (tnn T) from nI_ge (b := 8) hlt (by omega))]
  obtain ⟨k1, p1, n1, v1, wd1, c1, m1, a1, a2, a3, a4, a5⟩ := h.adv (by omega)
  unfold fX12_readNoise
  rw [a1, cV_some, a2, cV_some]
  rcases a3.person with ⟨c2, m2, f, q, b1, b2, b3, b4, b5, b6, b7⟩ | ⟨i, hi, hk1, hn1, b1, b2⟩
  · obtain ⟨m3, d1, d2, d3, d4⟩ := b4.noise (s := tnn T) (by rw [b7 49 (by omega) (by omega), a5.2.2.1 49 (by omega)]; exact hM.1.2.2.1) hlt 4999 0
    rw [b1, cI_some, if_pos rfl, b2, cI_some, if_neg b4.pos.1, b4.want, cV_some, if_neg b4.pos.1, d1, cV_some]
    exact Or.inl ⟨c2, m3, rfl, d2.fin 4999, b3.mk2 (by rw [d4]) (by rw [d4]), a4.gc.trans b5, a5.gm.trans (b6.trans d3)⟩
  have hi1 : ¬ nI i = (-1 : Int32) := fun z => nI_lt0 (k := i) (by omega) (by rw [z]; decide)
  obtain ⟨k2, p2, n2, v2, wd2, c2, m2, d1, d2, d3, d4, d5⟩ := a3.adv (by omega)
  rw [b1, cI_some, if_neg hi1, d1, cV_some, b2, cI_some, if_pos a3.2.2.2.2.2, d2, cV_some]
  have gc2 : GC (tP T) c c2 := a4.gc.trans d4.gc
  have gm2 : GM m m2 := a5.gm.trans d5.gm
  have e49 : m2.1 0 49 = nI (tnn T) := d3.2.2.2.2.1.1.2.2.1
  unfold fX7_isNumberBehind
  rcases d3.j.want (Q := tP T) (j := 8) (by omega) (y := 136) rfl (x := 24948) d3.2.1.w8 with ⟨c3, m3, f, q, e1, e2, e3, e4, e5, e6, e7⟩ | ⟨k3, p3, n3, v3, wd3, c3, m3, e1, e2, e3, e4, e5⟩
  · obtain ⟨m4, g1, g2, g3, g4⟩ := e4.noise (s := tnn T) (by rw [e7 49 (by omega) (by omega)]; exact e49) hlt 4999 (nI i)
    rw [e1, cI_some, if_pos rfl, cI_some, if_pos rfl, e2, cV_some, if_neg e4.pos.1, g1, cV_some]
    exact Or.inl ⟨c3, m4, rfl, g2.fin 4999, e3.mk2 (by rw [g4]) (by rw [g4]), gc2.trans e5, gm2.trans (e6.trans g3)⟩
  have d3i := d3.lx e3 e4 e5
  obtain ⟨hB3, hT3, hP3, hC3, hM3, h03⟩ := d3i
  have e49' : m3.1 0 49 = nI (tnn T) := hM3.1.2.2.1
  rw [e1, cI_some, if_neg (show ¬ (1 : Int32) = 0 by decide), e2, cV_some, if_pos h03]
  -- the number, and whether it was told already
  rcases e3.number (Q := tP T) (lo := 0) (up := 23) (by omega) (by omega) with ⟨c4, m4, f, q, z, g1, g2, g3, g4, g5, g6, g7⟩ | ⟨g1, g2, g3, g4, g5, g6⟩
  · rw [show fX7_isNumberHere c3 (0 : Int32) (23 : Int32) = _ from g1, cI_some, if_pos rfl, cI_some, if_pos rfl]
    have hend : ∃ m', gX12_readNoise 5000 (nI i) m3 = some m' ∧ MF f q m' ∧ GM m3 m' ∧ m'.1 0 2 = m4.1 0 2 ∧ m'.1 0 3 = m4.1 0 3 := by
      have h2 : MF f q (sI m4 28 (tnn T) z) := g4.mk2 (by rw [sI_oth (by omega)]) (by rw [sI_oth (by omega)])
      have h3 : MF f q (sI (sI m4 28 (tnn T) z) 29 (tnn T) 0) := h2.mk2 (by rw [sI_oth (by omega)]) (by rw [sI_oth (by omega)])
      refine ⟨sI (sI m4 28 (tnn T) z) 29 (tnn T) 0, ?_, h3, (g6.sI (by simp)).sI (by simp), by rw [sI_oth (by omega), sI_oth (by omega)], by rw [sI_oth (by omega), sI_oth (by omega)]⟩
      rw [show (5000 : Nat) = 4999 + 1 from rfl, gX12_readNoise, show fX12_toldNumber m3 (0 : Int32) (23 : Int32) = _ from g2, cI_some, e49', wr_ok hlt (by omega), h2.told, cI_some, sI_oth (by omega), g7 49 (by omega) (by omega), e49', wr_ok hlt (by omega), if_neg h3.pos.2]
    obtain ⟨m5, q1, q2, q3, q4, q5⟩ := hend
    have fin : (cV (gX12_readNoise 5000 (nI i) m3) fun m12 => gX12_readLine 5000 2 m12) = some m5 := by rw [q1, cV_some]; exact q2.fin 4999
    by_cases ek : k3 = 3
    · obtain ⟨w1, w2, w3⟩ := hT3.num ek
      have hno : ∀ q, q < tnn T → ¬ (tO T q = i ∧ tT T q = v3) := by
        intro q hq y
        have hh := (hP3.1.2.2.2.2.2.2.1 q hq).2.1
        have hbadk := g1
        unfold fX7_isNumberHere at hbadk
        rw [if_pos ((hT3.kd (j := 3) (x := 3) rfl (by omega)).mpr ek), w2, if_neg (show ¬ nI v3 < nI 0 from nI_nlt (by omega) (by omega)), if_neg (show ¬ nI 23 < nI v3 from nI_nlt (by omega) (by omega))] at hbadk
        cases hbadk
      rw [if_pos (hT3.s2.mpr ek), w3, (nz_m hP3 hM3 hi w1).2 hno, cP_some, if_pos rfl, fin]
      exact Or.inl ⟨c4, m5, rfl, rfl, g3.mk2 q4 q5, gc2.trans (e4.gc.trans g5), gm2.trans (e5.gm.trans q3)⟩
    · rw [if_neg (fun z => ek (hT3.s2.mp z)), fin]
      exact Or.inl ⟨c4, m5, rfl, rfl, g3.mk2 q4 q5, gc2.trans (e4.gc.trans g5), gm2.trans (e5.gm.trans q3)⟩
  have w3 : m3.1 0 8 = nI v3 := (hT3.num g1).2.2
  rw [show fX7_isNumberHere c3 (0 : Int32) (23 : Int32) = _ from g5, cI_some, if_neg (show ¬ (1 : Int32) = 0 by decide), cI_some, if_neg (show ¬ (1 : Int32) = 0 by decide), hC3.1, gPl_ok hQ, g4, if_pos (hT3.s2.mpr g1), w3]
  rcases nz_c hP3 hC3 hi (show v3 < 10000 by omega) with ⟨y1, r, y2, y3⟩ | ⟨y1, y3⟩
  · obtain ⟨c4, m4, r1, r2, r3, r4, r5, r6, r7⟩ := e3.no (Q := tP T) (x := 3) (by omega)
    obtain ⟨m5, q1, q2, q3, q4⟩ := r4.noise (s := tnn T) (by rw [r7 49 (by omega) (by omega)]; exact e49') hlt 4999 (nI i)
    rw [y3, cP_some, if_neg (fun z => nI_lt0 (k := r) (by omega) (by rw [z]; decide)), show fX7_refuse c3 (3 : Int32) = _ from r1, cI_some, tz_0, (nz_m hP3 hM3 hi (by omega)).1 y1, cP_some, if_neg (show ¬ (1 : Int32) = 0 by decide), show fX12_wrong m3 (3 : Int32) = _ from r2, cV_some, q1, cV_some]
    exact Or.inl ⟨c4, m5, rfl, q2.fin 4999, r3.mk2 (by rw [q4]) (by rw [q4]), gc2.trans (e4.gc.trans r5), gm2.trans (e5.gm.trans (r6.trans q3))⟩
  rw [y3, cP_some, if_pos rfl, (nz_m hP3 hM3 hi (by omega)).2 y1, cP_some, if_pos rfl, wr_ok hlt (by omega)]
  -- written, and the loudness
  have hcw : (sI c3 (tP T + 9) (tnn T) (nI i)).2.2 4 1 = tP T := hC3.1
  have hcw6 : (sI c3 (tP T + 9) (tnn T) (nI i)).1 1 6 = nI v3 := by rw [sI_oth (by omega)]; exact g4
  rw [hcw, gPl_ok hQ, wr_ok hlt (by omega), hcw6]
  have hJ4 : PJ bt L k3 p3 n3 v3 wd3 (sI (sI c3 (tP T + 9) (tnn T) (nI i)) (tP T + 10) (tnn T) (nI v3)) m3 := e3.keep (by rw [sI_oth (by omega), sI_oth (by omega)]) (by rw [sI_oth (by omega), sI_oth (by omega)]) ⟨by rw [sI_oth (by omega), sI_oth (by omega)], by rw [sI_oth (by omega), sI_oth (by omega)]⟩ rfl rfl (fun _ _ => rfl) rfl rfl
  obtain ⟨k4, p4, n4, v4, wd4, c4, m4, q1, q2, q3, q4, q5⟩ := hJ4.adv (by omega)
  have gc4 : GC (tP T) c c4 := ((gc2.trans e4.gc).sI (Or.inr ⟨by omega, by omega, by omega⟩) |>.sI (Or.inr ⟨by omega, by omega, by omega⟩)).trans q4.gc
  have e49'' : m4.1 0 49 = nI (tnn T) := by rw [q5.2.2.1 49 (by omega)]; exact e49'
  have hJ4' : PJ bt L k4 p4 n4 v4 wd4 c4 (sI m4 28 (tnn T) (nI v3)) := q3.keep rfl rfl ⟨rfl, rfl⟩ rfl rfl (fun s _ => by rw [sI_oth (by omega)]) (sI_oth (by omega)) rfl
  have gm4 : GM m (sI m4 28 (tnn T) (nI v3)) := ((gm2.trans e5.gm).trans q5.gm).sI (by simp)
  rw [q1, cV_some, show (5000 : Nat) = 4999 + 1 from rfl, gX12_readNoise, show fX12_toldNumber m3 (0 : Int32) (23 : Int32) = _ from g6 m4 q2, cI_some, e49', wr_ok hlt (by omega)]
  have e49a : (sI m4 28 (tnn T) (nI v3)).1 0 49 = nI (tnn T) := by rw [sI_oth (by omega)]; exact e49''
  rcases hJ4'.beh (Q := tP T) (j := 13) (by omega) (y := 141) rfl (x := 1819243876) hJ4'.2.1.w13 (lo := 1) (up := 20) (by omega) (by omega) with ⟨c5, m5, f, q, z, r1, r2, r3, r4, r5, r6, r7⟩ | ⟨k5, p5, n5, v5, wd5, c5, m5, r0, r1, r2, r3, r4, r5, r6, r7, r8⟩
  · unfold fX7_isNumberBehind at r1
    have h3 : MF f q (sI m5 29 (tnn T) z) := r4.mk2 (by rw [sI_oth (by omega)]) (by rw [sI_oth (by omega)])
    rw [show (cI (fX7_pass c4 (141 : Int32)) fun r1 m2 => (if r1 = 0 then (some ((0 : Int32), m2)) else (cI (fX7_isNumberHere m2 (1 : Int32) (20 : Int32)) fun r4 m5 => (if r4 = 0 then (some ((0 : Int32), m5)) else (some ((1 : Int32), m5)))))) = _ from r1, cI_some, if_pos rfl, show fX12_told (sI m4 28 (tnn T) (nI v3)) (1819243876 : Int64) (1 : Int32) (20 : Int32) = _ from r2, cI_some, e49a, wr_ok hlt (by omega), if_neg h3.pos.2, cV_some]
    exact Or.inl ⟨c5, _, rfl, h3.fin 4999, r3.mk2 (by rw [sI_oth (by omega)]) (by rw [sI_oth (by omega)]), gc4.trans r5, (gm4.trans r6).sI (by simp)⟩
  unfold fX7_isNumberBehind at r3
  have hc5 : c5.2.2 4 1 = tP T := by rw [r7.1, q4.1]; exact hC3.1
  have c5q : ∀ s, c5.1 (tP T) s = c3.1 (tP T) s := fun s => by rw [r7.2.1 _ (by omega), q4.2.1 _ (by omega), sI_oth (by omega), sI_oth (by omega)]
  have hJ5 : PJ bt L k5 p5 n5 v5 wd5 (sI (sI c5 (tP T + 11) (tnn T) (nI v5)) (tP T) 10 (nI (tnn T + 1))) m5 := r6.keep (by rw [sI_oth (by omega), sI_oth (by omega)]) (by rw [sI_oth (by omega), sI_oth (by omega)]) ⟨by rw [sI_oth (by omega), sI_oth (by omega)], by rw [sI_oth (by omega), sI_oth (by omega)]⟩ rfl rfl (fun _ _ => rfl) rfl rfl
  obtain ⟨k6, p6, n6, v6, wd6, c6, m6, s1, s2, s3, s4, s5⟩ := hJ5.adv (by omega)
  have gc6 : GC (tP T) c c6 := (((gc4.trans r7.gc).sI (Or.inr ⟨by omega, by omega, by omega⟩)).sI (Or.inr ⟨by omega, by omega, by omega⟩)).trans s4.gc
  have hc5b : (sI c5 (tP T + 11) (tnn T) (nI v5)).2.2 4 1 = tP T := hc5
  have hc5c : (sI c5 (tP T + 11) (tnn T) (nI v5)).1 (tP T) 10 + 1 = nI (tnn T + 1) := by rw [sI_oth (by omega), c5q, hC3.2.1.2.2.1, nI_1]
  have e49b : ∀ a b : Int32, (sI (sI m6 29 (tnn T) a) 27 (tnn T) b).1 0 49 = nI (tnn T) := fun a b => by rw [sI_oth (by omega), sI_oth (by omega), s5.2.2.1 49 (by omega), r8.2.2.1 49 (by omega)]; exact e49a
  have e49c : ∀ a : Int32, (sI m6 29 (tnn T) a).1 0 49 = nI (tnn T) := fun a => by rw [sI_oth (by omega), s5.2.2.1 49 (by omega), r8.2.2.1 49 (by omega)]; exact e49a
  have h0c : (sI m6 29 (tnn T) (nI v5)).1 0 2 ≤ 0 := by rw [sI_oth (by omega), s3.2.2]; decide
  rw [show (cI (fX7_pass c4 (141 : Int32)) fun r1 m2 => (if r1 = 0 then (some ((0 : Int32), m2)) else (cI (fX7_isNumberHere m2 (1 : Int32) (20 : Int32)) fun r4 m5 => (if r4 = 0 then (some ((0 : Int32), m5)) else (some ((1 : Int32), m5)))))) = _ from r3, cI_some, if_neg (show ¬ (1 : Int32) = 0 by decide), hc5, gPl_ok hQ, r4, wr_ok hlt (by omega), hc5b, gPl_ok hQ, pt_eq, hc5c, s1, cV_some, show fX12_told (sI m4 28 (tnn T) (nI v3)) (1819243876 : Int64) (1 : Int32) (20 : Int32) = _ from r5 m6 s2, cI_some, e49a, wr_ok hlt (by omega), if_pos h0c, e49c, wr_ok hlt (by omega), pt_eq, e49b, nI_1, cV_some]
  generalize hm7 : sI (sI (sI m6 29 (tnn T) (nI v5)) 27 (tnn T) (nI i)) 0 49 (nI (tnn T + 1)) = m7
  have m70 : ∀ s, s ≠ 49 → m7.1 0 s = m6.1 0 s := fun s x => by rw [← hm7, sI_row, upd_ne x, sI_oth (by omega), sI_oth (by omega)]
  have hJ7 : PJ bt L k6 p6 n6 v6 wd6 c6 m7 := s3.keep rfl rfl ⟨rfl, rfl⟩ rfl rfl (fun s hs => m70 s (by omega)) (by rw [← hm7, sI_oth (by omega), sI_oth (by omega), sI_oth (by omega)]) (by rw [← hm7]; rfl)
  have gm7 : GM m m7 := by rw [← hm7]; exact ((((gm4.trans r8.gm).trans s5.gm).sI (by simp)).sI (by simp)).sI (by simp)
  rcases hJ7.fin (Q := tP T) 4999 with ⟨c8, m8, x1, x2, x3, x4, x5⟩ | ⟨k8, p8, n8, v8, wd8, c8, m8, x1, x2, x3, x4, x5⟩
  · rw [x1, cI_some, tz_0]
    exact Or.inl ⟨c8, m8, rfl, x2, x3, gc6.trans x4, gm7.trans x5⟩
  rw [x1, cI_some, tz_1]
  have cr : ∀ r, r ≠ 1 → r ≠ tP T → r ≠ tP T + 9 → r ≠ tP T + 10 → r ≠ tP T + 11 → c8.1 r = c3.1 r := fun r z1 z2 z3 z4 z5 => by rw [x4.2.1 r z1, s4.2.1 r z1, sI_oth z2, sI_oth z5, r7.2.1 r z1, q4.2.1 r z1, sI_oth z4, sI_oth z3]
  have cq : ∀ s, c8.1 (tP T) s = upd (c3.1 (tP T)) 10 (nI (tnn T + 1)) s := fun s => by
    rw [x4.2.1 _ (by omega), s4.2.1 _ (by omega), sI_row]
    unfold upd
    by_cases z : s = 10
    · rw [if_pos z, if_pos z]
    · rw [if_neg z, if_neg z, sI_oth (by omega), c5q]
  have c9 : c8.1 (tP T + 9) = upd (c3.1 (tP T + 9)) (tnn T) (nI i) := by rw [x4.2.1 _ (by omega), s4.2.1 _ (by omega), sI_oth (by omega), sI_oth (by omega), r7.2.1 _ (by omega), q4.2.1 _ (by omega), sI_oth (by omega), sI_row]
  have c10 : c8.1 (tP T + 10) = upd (c3.1 (tP T + 10)) (tnn T) (nI v3) := by rw [x4.2.1 _ (by omega), s4.2.1 _ (by omega), sI_oth (by omega), sI_oth (by omega), r7.2.1 _ (by omega), q4.2.1 _ (by omega), sI_row, sI_oth (by omega)]
  have c11 : c8.1 (tP T + 11) = upd (c3.1 (tP T + 11)) (tnn T) (nI v5) := by rw [x4.2.1 _ (by omega), s4.2.1 _ (by omega), sI_oth (by omega), sI_row, r7.2.1 _ (by omega), q4.2.1 _ (by omega), sI_oth (by omega), sI_oth (by omega)]
  have mr : ∀ r, r ≠ 0 → r ≠ 27 → r ≠ 28 → r ≠ 29 → m8.1 r = m3.1 r := fun r z1 z2 z3 z4 => by rw [x5.2.1 r z1, ← hm7, sI_oth z1, sI_oth z2, sI_oth z4, s5.2.1 r z1, r8.2.1 r z1, sI_oth z3, q5.2.1 r z1]
  have m0 : ∀ s, (9 ≤ s ∧ s ≠ 49) → m8.1 0 s = m3.1 0 s := fun s x => by rw [x5.2.2.1 s (by omega), m70 s x.2, s5.2.2.1 s (by omega), r8.2.2.1 s (by omega), sI_oth (by omega), q5.2.2.1 s (by omega)]
  have m27 : m8.1 27 = upd (m3.1 27) (tnn T) (nI i) := by rw [x5.2.1 27 (by omega), ← hm7, sI_oth (by omega), sI_row, sI_oth (by omega), s5.2.1 27 (by omega), r8.2.1 27 (by omega), sI_oth (by omega), q5.2.1 27 (by omega)]
  have m28 : m8.1 28 = upd (m3.1 28) (tnn T) (nI v3) := by rw [x5.2.1 28 (by omega), ← hm7, sI_oth (by omega), sI_oth (by omega), sI_oth (by omega), s5.2.1 28 (by omega), r8.2.1 28 (by omega), sI_row, q5.2.1 28 (by omega)]
  have m29 : m8.1 29 = upd (m3.1 29) (tnn T) (nI v5) := by rw [x5.2.1 29 (by omega), ← hm7, sI_oth (by omega), sI_oth (by omega), sI_row, s5.2.1 29 (by omega), r8.2.1 29 (by omega), sI_oth (by omega), q5.2.1 29 (by omega)]
  have cl : ∀ r, r ≠ 1 → c8.2.1 r = c3.2.1 r := fun r x => by rw [x4.2.2.2 r x]; exact (s4.2.2.2 r x).trans ((r7.2.2.2 r x).trans (q4.2.2.2 r x))
  have ml : ∀ r, r ≠ 0 → m8.2.1 r = m3.2.1 r := fun r x => by rw [x5.2.2.2 r x, ← hm7]; exact (s5.2.2.2 r x).trans ((r8.2.2.2 r x).trans (q5.2.2.2 r x))
  refine Or.inr ⟨(up2 (up2 (up2 (up2 T.1 6 (tnn T) i) 7 (tnn T) v3) 8 (tnn T) v5) 20 4 (tnn T + 1), T.2), nms, k8, p8, n8, v8, wd8, c8, m8, rfl, x2, ⟨x3.1, x3.2.1, ?_, ?_, ?_, x3.2.2⟩, ⟨rfl, rfl⟩, ?_, gc6.trans x4.gc, gm7.trans x5.gm⟩
  · obtain ⟨⟨t1, t2, t3, t4, t5, t6, t7, t8, t9⟩, u2⟩ := hP3
    refine ⟨⟨t1, t2, hlt, t4, t5, t6, fun q hq => ?_, fun a b ha hb => ?_, t9⟩, u2⟩
    · show up2 T.1 6 (tnn T) i 6 q < tnp T ∧ up2 T.1 7 (tnn T) v3 7 q < 24 ∧ 1 ≤ up2 T.1 8 (tnn T) v5 8 q ∧ up2 T.1 8 (tnn T) v5 8 q ≤ 20
      by_cases z : q = tnn T
      · rw [z, up2_at, up2_at, up2_at]
        exact ⟨hi, by omega, r1, r2⟩
      · rw [up2_ne (fun x => z x.2), up2_ne (fun x => z x.2), up2_ne (fun x => z x.2)]
        exact t7 q (by have : q < tnn T + 1 := hq; omega)
    · show up2 T.1 6 (tnn T) i 6 a = up2 T.1 6 (tnn T) i 6 b → up2 T.1 7 (tnn T) v3 7 a = up2 T.1 7 (tnn T) v3 7 b → a = b
      have ha' : a < tnn T + 1 := ha
      have hb' : b < tnn T + 1 := hb
      by_cases za : a = tnn T
      · by_cases zb : b = tnn T
        · intros; omega
        · rw [za, up2_at, up2_at, up2_ne (fun x => zb x.2), up2_ne (fun x => zb x.2)]
          intro w1 w2
          exact absurd ⟨w1.symm, w2.symm⟩ (y1 b (by omega))
      · by_cases zb : b = tnn T
        · rw [zb, up2_at, up2_at, up2_ne (fun x => za x.2), up2_ne (fun x => za x.2)]
          intro w1 w2
          exact absurd ⟨w1, w2⟩ (y1 a (by omega))
        · rw [up2_ne (fun x => za x.2), up2_ne (fun x => za x.2), up2_ne (fun x => zb x.2), up2_ne (fun x => zb x.2)]
          exact t8 a b (by omega) (by omega)
  · obtain ⟨s1', ⟨f1, f2, f3, f4, f5⟩, f7, f8, f9, f10⟩ := hC3
    refine ⟨by rw [x4.1, s4.1]; exact hc5, ⟨?_, ?_, ?_, ?_, ?_⟩, ?_, ?_, ?_, f10.of rfl (fun _ _ => rfl) rfl (fun r x y => cr r (by omega) (by omega) (by omega) (by omega) (by omega))⟩
    · exact (cq 0).trans ((upd_ne (by omega)).trans f1)
    · exact (cq 5).trans ((upd_ne (by omega)).trans f2)
    · exact (cq 10).trans (upd_at _ _ _)
    · exact (cq 18).trans ((upd_ne (by omega)).trans f4)
    · exact (cq 14).trans ((upd_ne (by omega)).trans f5)
    · intro q hq
      have := f7 q hq
      rw [← cl _ (by omega), ← cr (tP T + 2) (by omega) (by omega) (by omega) (by omega) (by omega), ← cr (tP T + 3) (by omega) (by omega) (by omega) (by omega) (by omega), ← cr (tP T + 4) (by omega) (by omega) (by omega) (by omega) (by omega)] at this
      exact this
    · intro q hq
      have := f8 q hq
      rw [← cr (tP T + 5) (by omega) (by omega) (by omega) (by omega) (by omega), ← cr (tP T + 6) (by omega) (by omega) (by omega) (by omega) (by omega), ← cr (tP T + 7) (by omega) (by omega) (by omega) (by omega) (by omega), ← cr (tP T + 8) (by omega) (by omega) (by omega) (by omega) (by omega)] at this
      exact this
    · intro q hq
      show c8.1 (tP T + 9) q = nI (up2 T.1 6 (tnn T) i 6 q) ∧ c8.1 (tP T + 10) q = nI (up2 T.1 7 (tnn T) v3 7 q) ∧ c8.1 (tP T + 11) q = nI (up2 T.1 8 (tnn T) v5 8 q)
      rw [c9, c10, c11]
      by_cases z : q = tnn T
      · rw [z, up2_at, up2_at, up2_at, upd_at, upd_at, upd_at]
        exact ⟨rfl, rfl, rfl⟩
      · rw [up2_ne (fun x => z x.2), up2_ne (fun x => z x.2), up2_ne (fun x => z x.2), upd_ne z, upd_ne z, upd_ne z]
        exact f9 q (by have : q < tnn T + 1 := hq; omega)
  · obtain ⟨⟨f1, f2, f3, f4, f5, f6⟩, f7, f8, f9, f10⟩ := hM3
    refine ⟨⟨?_, ?_, ?_, ?_, ?_, ?_⟩, ?_, ?_, ?_, f10.of (fun _ _ => rfl) rfl (fun r hr => mr r (by omega) (by omega) (by omega) (by omega))⟩
    · exact (m0 47 (by omega)).trans f1
    · exact (m0 48 (by omega)).trans f2
    · rw [x5.2.2.1 49 (by omega), ← hm7, sI_row, upd_at]; rfl
    · exact (m0 23 (by omega)).trans f4
    · exact (m0 54 (by omega)).trans f5
    · exact (m0 50 (by omega)).trans f6
    · intro q hq
      have := f7 q hq
      rw [← ml 2 (by omega), ← mr 14 (by omega) (by omega) (by omega) (by omega), ← mr 15 (by omega) (by omega) (by omega) (by omega), ← mr 16 (by omega) (by omega) (by omega) (by omega)] at this
      exact this
    · intro q hq
      have := f8 q hq
      rw [← mr 19 (by omega) (by omega) (by omega) (by omega), ← mr 20 (by omega) (by omega) (by omega) (by omega), ← mr 21 (by omega) (by omega) (by omega) (by omega), ← mr 22 (by omega) (by omega) (by omega) (by omega)] at this
      exact this
    · intro q hq
      show m8.1 27 q = nI (up2 T.1 6 (tnn T) i 6 q) ∧ m8.1 28 q = nI (up2 T.1 7 (tnn T) v3 7 q) ∧ m8.1 29 q = nI (up2 T.1 8 (tnn T) v5 8 q)
      rw [m27, m28, m29]
      by_cases z : q = tnn T
      · rw [z, up2_at, up2_at, up2_at, upd_at, upd_at, upd_at]
        exact ⟨rfl, rfl, rfl⟩
      · rw [up2_ne (fun x => z x.2), up2_ne (fun x => z x.2), up2_ne (fun x => z x.2), upd_ne z, upd_ne z, upd_ne z]
        exact f9 q (by have : q < tnn T + 1 := hq; omega)
  · show tnp T + tnm T + (tnn T + 1) + fb_sm (fun p => T.1 23 p) (tnp T) + told T 0 + told T 1 + told T 2 + T.1 20 7 = mu T + 1
    unfold mu
    omega
end
