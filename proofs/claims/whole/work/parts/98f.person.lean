/-! ===== lines: person ===== -/
theorem sLw {m : Mem} {q n k : Nat} {x : Int64} {K : Mem → Option Mem} (h : k < n) (hn : n < 2 ^ 31) : wrL m q n (nI k) x K = K (sL m q k x) := wrL_ok h hn
section
variable {bt : Nat → Nat} {L : Nat} {T : Tn} {nms : Nat → List Nat} {k p n v : Nat} {wd : List Nat} {c m : Mem} {Q : Nat}
theorem GC.sL {a c : Mem} {r j : Nat} {x : Int64} (h : GC Q a c) (hr : r = Q + 1) : GC Q a (sL c r j x) := h.trans ⟨fun _ _ => rfl, fun _ _ => rfl, fun q _ hq => sL_oth (by omega), fun _ _ _ => rfl⟩
/-- the side behind a house -/
theorem PJ.side (h : PJ bt L k p n v wd c m) : ∃ s k' p' n' v' wd' c' m', s < 3 ∧ fX7_readSide c = some (nI s, c') ∧ (if k = 137 then 1 else if k = 138 then 2 else 0) = s ∧ ((s = 0 ∧ m' = m) ∨ (¬ s = 0 ∧ fX12_token m = some m')) ∧ PJ bt L k' p' n' v' wd' c' m' ∧ lxC c c' ∧ lxM m m' := by
  have h37 := h.2.1.kd (j := 137) (x := 137) rfl (by omega)
  have h38 := h.2.1.kd (j := 138) (x := 138) rfl (by omega)
  unfold fX7_readSide
  by_cases e1 : k = 137
  · obtain ⟨k', p', n', v', wd', c', m', a1, a2, a3, a4, a5⟩ := h.adv (by omega)
    exact ⟨1, k', p', n', v', wd', c', m', by omega, by rw [if_pos (h37.mpr e1), a1, cV_some]; rfl, if_pos e1, Or.inr ⟨by omega, a2⟩, a3, a4, a5⟩
  · by_cases e2 : k = 138
    · obtain ⟨k', p', n', v', wd', c', m', a1, a2, a3, a4, a5⟩ := h.adv (by omega)
      exact ⟨2, k', p', n', v', wd', c', m', by omega, by rw [if_neg (fun z => e1 (h37.mp z)), if_pos (h38.mpr e2), a1, cV_some]; rfl, by rw [if_neg e1, if_pos e2], Or.inr ⟨by omega, a2⟩, a3, a4, a5⟩
    · exact ⟨0, k, p, n, v, wd, c, m, by omega, by rw [if_neg (fun z => e1 (h37.mp z)), if_neg (fun z => e2 (h38.mp z))]; rfl, by rw [if_neg e1, if_neg e2], Or.inl ⟨rfl, rfl⟩, h, lxC.rfl', lxM.rfl'⟩
theorem person_line (h : PI bt L T nms k p n v wd c m) (hk : k = 128) : LN bt L T c m (fX7_readPerson c) (fX12_readLine m) := by
  have h7 := h.2.2.1.1.1
  have hQ := h.2.2.1.2.1
  have hT := h.2.1
  have hC := h.2.2.2.1
  have hM := h.2.2.2.2.1
  have start : fX12_readLine m = (if (7 : Int32) ≤ nI (tnp T) then (gX12_readLine 5000 0 m) else (cV (fX12_readPerson m) fun m12 => (gX12_readLine 5000 2 m12))) := by
    unfold fX12_readLine
    rw [hT.w0, cP_some, if_pos hk, if_neg (show ¬ (1 : Int32) = 0 by decide), hM.1.1, hT.w1, cP_some, if_neg (show ¬ k = 129 by omega), if_pos rfl, hT.w2, cP_some, if_neg (show ¬ k = 130 by omega), if_pos rfl]
  rw [start]
  unfold fX7_readPerson
  rw [hC.1, gPl_ok hQ, nm_eq, hC.2.1.1]
  by_cases e8 : tnp T = 7
  · obtain ⟨c', m', b1, b2, b3, b4, b5, b6, b7⟩ := h.j.no (Q := tP T) (x := 2) (by omega)
    rw [if_neg (show ¬ nI (tnp T) < (7 : Int32) by rw [e8]; decide), if_pos (show (7 : Int32) ≤ nI (tnp T) by rw [e8]; decide), show fX7_refuse c (2 : Int32) = _ from b1, cI_some, tz_0, show (5000 : Nat) = 4998 + 2 from rfl, none_line h.j (by omega), show fX12_wrong m (2 : Int32) = _ from b2, cV_some]
    exact Or.inl ⟨c', m', rfl, b4.fin 4997, b3, b5, b6⟩
  have hlt : tnp T < 7 := by omega
  rw [if_pos (show nI (tnp T) < (7 : Int32) from nI_lt (b := 7) hlt (by omega)), if_neg (show ¬ (7 : Int32) ≤ nI (tnp T) from nI_ge (b := 7) hlt (by omega))]
  obtain ⟨k1, p1, n1, v1, wd1, c1, m1, a1, a2, a3, a4, a5⟩ := h.adv (by omega)
  have a3' := a3
  obtain ⟨hB1, hT1, hP1, hC1, hM1, h01⟩ := a3'
  unfold fX12_readPerson
  rw [a1, cV_some, a2, cV_some, name_m hT1, cP_some]
  have hk2 := hT1.kd (j := 2) (x := 2) rfl (by omega)
  have gbad : ∀ {f q : Nat} {m' : Mem} (F : Nat), MF f q m' → gX12_readPerson (F + 1) m' = some m' := fun F hm => by rw [gX12_readPerson, if_neg hm.pos.2]
  by_cases e2 : k1 = 2
  · obtain ⟨w1, w2, w3⟩ := hT1.2.2.2.2.2.2.2.2.2.2.2.1 (Or.inl e2)
    have w7 : c1.2.1 1 7 = lN (enc 27 96 wd1) := hT1.2.2.2.2.2.2.2.2.2.2.1 e2
    obtain ⟨f1, f2⟩ := find_m hP1 hM1 w1 w2
    rw [if_pos (hk2.mpr e2), if_pos e2, if_neg (show ¬ (1 : Int32) = 0 by decide), hC1.1, gPl_ok hQ, w7]
    rcases find_c hP1 hC1 w1 with ⟨i, y1, y2, y3⟩ | ⟨y1, y2⟩
    · obtain ⟨c', m', b1, b2, b3, b4, b5, b6, b7⟩ := a3.j.no (Q := tP T) (x := 3) (by omega)
      rw [y3, cP_some, if_neg (fun z => nI_lt0 (k := i) (by omega) (by rw [z]; decide)), show fX7_refuse c1 (3 : Int32) = _ from b1, cI_some, tz_0, f1 i y1 y2, cP_some, if_neg (nI_lt0 (by omega)), show fX12_wrong m1 (3 : Int32) = _ from b2, cV_some, show (5000 : Nat) = 4999 + 1 from rfl, gbad 4999 b4, cV_some]
      exact Or.inl ⟨c', m', rfl, b4.fin 4999, b3, a4.gc.trans b5, a5.gm.trans b6⟩
    rw [y2, cP_some, if_pos rfl, wrL_ok hlt (by omega), f2 y1, cP_some, if_pos (show (-1 : Int32) < 0 by decide)]
    have hJ1 : PJ bt L k1 p1 n1 v1 wd1 (sL c1 (tP T + 1) (tnp T) (lN (enc 27 96 wd1))) (sL m1 2 (tnp T) (lN (enc 256 0 wd1))) := a3.j.keep rfl rfl ⟨rfl, rfl⟩ (sL_oth (by omega)) (sL_oth (by omega)) (fun _ _ => rfl) rfl (sL_oth (by omega))
    obtain ⟨k2, p2, n2, v2, wd2, c2, m2, d1, d2, d3, d4, d5⟩ := hJ1.adv (by omega)
    have gc2 : GC (tP T) c c2 := (a4.gc.sL rfl).trans d4.gc
    have gm2 : GM m m2 := (a5.gm.sL2).trans d5.gm
    rw [d1, cV_some, show (5000 : Nat) = 4999 + 1 from rfl, gX12_readPerson, if_pos (show m1.1 0 2 ≤ 0 by rw [h01]; decide), nm_eq, hM1.1.1, wrL_ok hlt (by omega), w2, d2, cV_some]
    rcases d3.beh (Q := tP T) (j := 8) (by omega) (y := 136) rfl (x := 24948) d3.2.1.w8 (lo := 0) (up := 9) (by omega) (by omega) with ⟨c3, m3, f, q, z, r1, r2, r3, r4, r5, r6, r7⟩ | ⟨k3, p3, n3, v3, wd3, c3, m3, r0, r1, r2, r3, r4, r5, r6, r7, r8⟩
    · have g1 : MF f q (sI m3 14 (tnp T) z) := r4.mk2 (by rw [sI_oth (by omega)]) (by rw [sI_oth (by omega)])
      have g3 : MF f q (sI (sI (sI m3 14 (tnp T) z) 15 (tnp T) 0) 16 (tnp T) (-1)) := g1.mk2 (by rw [sI_oth (by omega), sI_oth (by omega)]) (by rw [sI_oth (by omega), sI_oth (by omega)])
      have hz : (sI (sI m3 14 (tnp T) z) 15 (tnp T) 0).1 15 (tnp T) = 0 := by rw [sI_row, upd_at]
      rw [show fX7_isNumberBehind c2 (136 : Int32) (0 : Int32) (9 : Int32) = _ from r1, cI_some, if_pos rfl, show fX12_told m2 (24948 : Int64) (0 : Int32) (9 : Int32) = _ from r2, cI_some, wr_ok hlt (by omega), if_neg g1.pos.2, wr_ok hlt (by omega), rd_ok hlt (by omega), hz, if_pos rfl, wr_ok hlt (by omega), if_neg g3.pos.1, cV_some]
      exact Or.inl ⟨c3, _, rfl, g3.fin 4999, r3.mk2 (by rw [sI_oth (by omega), sI_oth (by omega), sI_oth (by omega)]) (by rw [sI_oth (by omega), sI_oth (by omega), sI_oth (by omega)]), gc2.trans r5, (((gm2.trans r6).sI (by simp)).sI (by simp)).sI (by simp)⟩
    have hc3 : c3.2.2 4 1 = tP T := by rw [r7.1, d4.1]; exact hC1.1
    have hc3b : (sI c3 (tP T + 2) (tnp T) (nI v3)).2.2 4 1 = tP T := hc3
    have hJ3 : PJ bt L k3 p3 n3 v3 wd3 (sI (sI c3 (tP T + 2) (tnp T) (nI v3)) (tP T + 4) (tnp T) (-1)) m3 := r6.keep (by rw [sI_oth (by omega), sI_oth (by omega)]) (by rw [sI_oth (by omega), sI_oth (by omega)]) ⟨by rw [sI_oth (by omega), sI_oth (by omega)], by rw [sI_oth (by omega), sI_oth (by omega)]⟩ rfl rfl (fun _ _ => rfl) rfl rfl
    obtain ⟨k4, p4, n4, v4, wd4, c4, m4, s1, s2, s3, s4, s5⟩ := hJ3.adv (by omega)
    have gc4 : GC (tP T) c c4 := (((gc2.trans r7.gc).sI (Or.inr ⟨by omega, by omega, by omega⟩)).sI (Or.inr ⟨by omega, by omega, by omega⟩)).trans s4.gc
    have hc4 : c4.2.2 4 1 = tP T := by rw [s4.1]; exact hc3
    have hJ4 : PJ bt L k4 p4 n4 v4 wd4 c4 (sI m4 14 (tnp T) (nI v3)) := s3.keep rfl rfl ⟨rfl, rfl⟩ rfl rfl (fun s _ => by rw [sI_oth (by omega)]) (sI_oth (by omega)) rfl
    have gm4 : GM m (sI m4 14 (tnp T) (nI v3)) := ((gm2.trans r8.gm).trans s5.gm).sI (by simp)
    have h04 : (sI m4 14 (tnp T) (nI v3)).1 0 2 ≤ 0 := by rw [hJ4.2.2]; decide
    rw [show fX7_isNumberBehind c2 (136 : Int32) (0 : Int32) (9 : Int32) = _ from r3, cI_some, if_neg (show ¬ (1 : Int32) = 0 by decide), hc3, gPl_ok hQ, r4, wr_ok hlt (by omega), hc3b, gPl_ok hQ, wr_ok hlt (by omega), s1, cV_some, hc4, gPl_ok hQ, show fX12_told m2 (24948 : Int64) (0 : Int32) (9 : Int32) = _ from r5 m4 s2, cI_some, wr_ok hlt (by omega), if_pos h04, hJ4.2.1.w9, cP_some, hJ4.2.1.w10, cP_some]
    -- the side
    have hJ5 : ∀ s : Int32, PJ bt L k4 p4 n4 v4 wd4 c4 (sI (sI m4 14 (tnp T) (nI v3)) 15 (tnp T) s) := fun s => hJ4.keep rfl rfl ⟨rfl, rfl⟩ rfl rfl (fun s _ => by rw [sI_oth (by omega)]) (sI_oth (by omega)) rfl
    have hs0 : ∃ s, (if k4 = 137 then 1 else if k4 = 138 then 2 else 0) = s := ⟨_, rfl⟩
    obtain ⟨s, hs⟩ := hs0
    obtain ⟨s', k5, p5, n5, v5, wd5, c5, m5, t1, t2, t3, t4, t5, t6, t7⟩ := (hJ5 (nI s)).side
    have hss : s' = s := by rw [← t3, ← hs]
    subst hss
    have h15 : (sI (sI m4 14 (tnp T) (nI v3)) 15 (tnp T) (nI s')).1 15 (tnp T) = nI s' := by rw [sI_row, upd_at]
    have gm5 : GM m m5 := (gm4.sI (by simp)).trans t7.gm
    have h05 : (sI m5 16 (tnp T) (-1)).1 0 2 = 0 := by rw [sI_oth (by omega)]; exact t5.2.2
    have e47 : (sI m5 16 (tnp T) (-1)).1 0 47 = nI (tnp T) := by rw [sI_oth (by omega), t7.2.2.1 47 (by omega), sI_oth (by omega), sI_oth (by omega), s5.2.2.1 47 (by omega), r8.2.2.1 47 (by omega), d5.2.2.1 47 (by omega)]; exact hM1.1.1
    have tail : (rd ((sI (sI m4 14 (tnp T) (nI v3)) 15 (tnp T) (nI s')).1 15) 7 (nI (tnp T)) fun v17 => (if v17 = 0 then (wr (sI (sI m4 14 (tnp T) (nI v3)) 15 (tnp T) (nI s')) 16 7 (nI (tnp T)) (-1 : Int32) fun m19 => (if (m19.1 0 2) = 0 then (pt (sI m19 0 47 ((m19.1 0 47) + (1 : Int32))) fun m21 => (some m21)) else (some m19))) else (cV (fX12_token (sI (sI m4 14 (tnp T) (nI v3)) 15 (tnp T) (nI s'))) fun m23 => (wr m23 16 7 (nI (tnp T)) (-1 : Int32) fun m24 => (if (m24.1 0 2) = 0 then (pt (sI m24 0 47 ((m24.1 0 47) + (1 : Int32))) fun m26 => (some m26)) else (some m24)))))) = some (sI (sI m5 16 (tnp T) (-1)) 0 47 (nI (tnp T + 1))) := by
      rw [rd_ok hlt (by omega), h15]
      rcases t4 with ⟨z1, z2⟩ | ⟨z1, z2⟩
      · rw [if_pos (by rw [z1]; rfl), wr_ok hlt (by omega), ← z2, if_pos h05, pt_eq, e47, nI_1]
      · rw [if_neg (fun z => z1 ((nI_eq0 (by omega)).mp z)), z2, cV_some, wr_ok hlt (by omega), if_pos h05, pt_eq, e47, nI_1]
    have hsel : ∀ (A B D : Option Mem), (if (if k4 = 137 then (1 : Int32) else 0) = 0 then (if (if k4 = 138 then (1 : Int32) else 0) = 0 then A else B) else D) = if k4 = 137 then D else if k4 = 138 then B else A := fun A B D => by
      by_cases z1 : k4 = 137
      · rw [if_pos z1, if_neg (show ¬ (1 : Int32) = 0 by decide), if_pos z1]
      · rw [if_neg z1, if_pos rfl, if_neg z1]
        by_cases z2 : k4 = 138
        · rw [if_pos z2, if_neg (show ¬ (1 : Int32) = 0 by decide), if_pos z2]
        · rw [if_neg z2, if_pos rfl, if_neg z2]
    have hw : ∀ (x : Int32) (K : Mem → Option Mem), wr (sI m4 14 (tnp T) (nI v3)) 15 7 (nI (tnp T)) x K = K (sI (sI m4 14 (tnp T) (nI v3)) 15 (tnp T) x) := fun x K => wr_ok hlt (by omega)
    rw [hsel, hw 1, hw 2, hw 0]
    have hrefs : (if k4 = 137 then (rd ((sI (sI m4 14 (tnp T) (nI v3)) 15 (tnp T) 1).1 15) 7 (nI (tnp T)) fun v17 => (if v17 = 0 then (wr (sI (sI m4 14 (tnp T) (nI v3)) 15 (tnp T) 1) 16 7 (nI (tnp T)) (-1 : Int32) fun m19 => (if (m19.1 0 2) = 0 then (pt (sI m19 0 47 ((m19.1 0 47) + (1 : Int32))) fun m21 => (some m21)) else (some m19))) else (cV (fX12_token (sI (sI m4 14 (tnp T) (nI v3)) 15 (tnp T) 1)) fun m23 => (wr m23 16 7 (nI (tnp T)) (-1 : Int32) fun m24 => (if (m24.1 0 2) = 0 then (pt (sI m24 0 47 ((m24.1 0 47) + (1 : Int32))) fun m26 => (some m26)) else (some m24)))))) else if k4 = 138 then (rd ((sI (sI m4 14 (tnp T) (nI v3)) 15 (tnp T) 2).1 15) 7 (nI (tnp T)) fun v17 => (if v17 = 0 then (wr (sI (sI m4 14 (tnp T) (nI v3)) 15 (tnp T) 2) 16 7 (nI (tnp T)) (-1 : Int32) fun m19 => (if (m19.1 0 2) = 0 then (pt (sI m19 0 47 ((m19.1 0 47) + (1 : Int32))) fun m21 => (some m21)) else (some m19))) else (cV (fX12_token (sI (sI m4 14 (tnp T) (nI v3)) 15 (tnp T) 2)) fun m23 => (wr m23 16 7 (nI (tnp T)) (-1 : Int32) fun m24 => (if (m24.1 0 2) = 0 then (pt (sI m24 0 47 ((m24.1 0 47) + (1 : Int32))) fun m26 => (some m26)) else (some m24)))))) else (rd ((sI (sI m4 14 (tnp T) (nI v3)) 15 (tnp T) 0).1 15) 7 (nI (tnp T)) fun v17 => (if v17 = 0 then (wr (sI (sI m4 14 (tnp T) (nI v3)) 15 (tnp T) 0) 16 7 (nI (tnp T)) (-1 : Int32) fun m19 => (if (m19.1 0 2) = 0 then (pt (sI m19 0 47 ((m19.1 0 47) + (1 : Int32))) fun m21 => (some m21)) else (some m19))) else (cV (fX12_token (sI (sI m4 14 (tnp T) (nI v3)) 15 (tnp T) 0)) fun m23 => (wr m23 16 7 (nI (tnp T)) (-1 : Int32) fun m24 => (if (m24.1 0 2) = 0 then (pt (sI m24 0 47 ((m24.1 0 47) + (1 : Int32))) fun m26 => (some m26)) else (some m24))))))) = some (sI (sI m5 16 (tnp T) (-1)) 0 47 (nI (tnp T + 1))) := by
      by_cases z1 : k4 = 137
      · rw [if_pos z1] at hs ⊢
        subst hs
        exact tail
      · rw [if_neg z1] at hs ⊢
        by_cases z2 : k4 = 138
        · rw [if_pos z2] at hs ⊢
          subst hs
          exact tail
        · rw [if_neg z2] at hs ⊢
          subst hs
          exact tail
    rw [hrefs, cV_some, t2, cI_some, wr_ok hlt (by omega)]
    have hc5 : (sI c5 (tP T + 3) (tnp T) (nI s')).2.2 4 1 = tP T := by rw [sI_2, t6.1]; exact hc4
    have c5q : ∀ x, c5.1 (tP T) x = c1.1 (tP T) x := fun x => by rw [t6.2.1 _ (by omega), s4.2.1 _ (by omega), sI_oth (by omega), sI_oth (by omega), r7.2.1 _ (by omega), d4.2.1 _ (by omega)]; rfl
    have hc5c : (sI c5 (tP T + 3) (tnp T) (nI s')).1 (tP T) 0 + 1 = nI (tnp T + 1) := by rw [sI_oth (by omega), c5q, hC1.2.1.1, nI_1]
    rw [hc5, gPl_ok hQ, pt_eq, hc5c]
    generalize hc6 : sI (sI c5 (tP T + 3) (tnp T) (nI s')) (tP T) 0 (nI (tnp T + 1)) = c6
    generalize hm6 : sI (sI m5 16 (tnp T) (-1)) 0 47 (nI (tnp T + 1)) = m6
    have m60 : ∀ x, x ≠ 47 → m6.1 0 x = m5.1 0 x := fun x y => by rw [← hm6, sI_row, upd_ne y, sI_oth (by omega)]
    have hJ6 : PJ bt L k5 p5 n5 v5 wd5 c6 m6 := t5.keep (by rw [← hc6, sI_oth (by omega), sI_oth (by omega)]) (by rw [← hc6, sI_oth (by omega), sI_oth (by omega)]) ⟨by rw [← hc6, sI_oth (by omega), sI_oth (by omega)], by rw [← hc6, sI_oth (by omega), sI_oth (by omega)]⟩ (by rw [← hc6]; rfl) (by rw [← hc6]; rfl) (fun x hx => m60 x (by omega)) (by rw [← hm6, sI_oth (by omega), sI_oth (by omega)]) (by rw [← hm6]; rfl)
    have gc6 : GC (tP T) c c6 := by rw [← hc6]; exact ((gc4.trans t6.gc).sI (Or.inr ⟨by omega, by omega, by omega⟩)).sI (Or.inr ⟨by omega, by omega, by omega⟩)
    have gm6 : GM m m6 := by rw [← hm6]; exact (gm5.sI (by simp)).sI (by simp)
    rcases hJ6.fin (Q := tP T) 4999 with ⟨ca, ma, x1, x2, x3, x4, x5⟩ | ⟨ka, pa, na, va, wda, ca, ma, x1, x2, x3, x4, x5⟩
    · rw [x1, cI_some, tz_0]
      exact Or.inl ⟨ca, ma, rfl, x2, x3, gc6.trans x4, gm6.trans x5⟩
    rw [x1, cI_some, tz_1]
    have cr : ∀ r, r ≠ 1 → r ≠ tP T → r ≠ tP T + 2 → r ≠ tP T + 3 → r ≠ tP T + 4 → ca.1 r = c1.1 r := fun r z1 z2 z3 z4 z5 => by rw [x4.2.1 r z1, ← hc6, sI_oth z2, sI_oth z4, t6.2.1 r z1, s4.2.1 r z1, sI_oth z5, sI_oth z3, r7.2.1 r z1, d4.2.1 r z1]; rfl
    have cq : ∀ x, ca.1 (tP T) x = upd (c1.1 (tP T)) 0 (nI (tnp T + 1)) x := fun x => by
      rw [x4.2.1 _ (by omega), ← hc6, sI_row]
      unfold upd
      by_cases z : x = 0
      · rw [if_pos z, if_pos z]
      · rw [if_neg z, if_neg z, sI_oth (by omega), c5q]
    have c2' : ca.1 (tP T + 2) = upd (c1.1 (tP T + 2)) (tnp T) (nI v3) := by rw [x4.2.1 _ (by omega), ← hc6, sI_oth (by omega), sI_oth (by omega), t6.2.1 _ (by omega), s4.2.1 _ (by omega), sI_oth (by omega), sI_row, r7.2.1 _ (by omega), d4.2.1 _ (by omega)]; rfl
    have c3' : ca.1 (tP T + 3) = upd (c1.1 (tP T + 3)) (tnp T) (nI s') := by rw [x4.2.1 _ (by omega), ← hc6, sI_oth (by omega), sI_row, t6.2.1 _ (by omega), s4.2.1 _ (by omega), sI_oth (by omega), sI_oth (by omega), r7.2.1 _ (by omega), d4.2.1 _ (by omega)]; rfl
    have c4' : ca.1 (tP T + 4) = upd (c1.1 (tP T + 4)) (tnp T) (-1) := by rw [x4.2.1 _ (by omega), ← hc6, sI_oth (by omega), sI_oth (by omega), t6.2.1 _ (by omega), s4.2.1 _ (by omega), sI_row, sI_oth (by omega), r7.2.1 _ (by omega), d4.2.1 _ (by omega)]; rfl
    have mr : ∀ r, r ≠ 0 → r ≠ 14 → r ≠ 15 → r ≠ 16 → ma.1 r = m1.1 r := fun r z1 z2 z3 z4 => by rw [x5.2.1 r z1, ← hm6, sI_oth z1, sI_oth z4, t7.2.1 r z1, sI_oth z3, sI_oth z2, s5.2.1 r z1, r8.2.1 r z1, d5.2.1 r z1]; rfl
    have m0 : ∀ x, (9 ≤ x ∧ x ≠ 47) → ma.1 0 x = m1.1 0 x := fun x y => by rw [x5.2.2.1 x (by omega), m60 x y.2, t7.2.2.1 x (by omega), sI_oth (by omega), sI_oth (by omega), s5.2.2.1 x (by omega), r8.2.2.1 x (by omega), d5.2.2.1 x (by omega)]; rfl
    have m14 : ma.1 14 = upd (m1.1 14) (tnp T) (nI v3) := by rw [x5.2.1 14 (by omega), ← hm6, sI_oth (by omega), sI_oth (by omega), t7.2.1 14 (by omega), sI_oth (by omega), sI_row, s5.2.1 14 (by omega), r8.2.1 14 (by omega), d5.2.1 14 (by omega)]; rfl
    have m15 : ma.1 15 = upd (m1.1 15) (tnp T) (nI s') := by rw [x5.2.1 15 (by omega), ← hm6, sI_oth (by omega), sI_oth (by omega), t7.2.1 15 (by omega), sI_row, sI_oth (by omega), s5.2.1 15 (by omega), r8.2.1 15 (by omega), d5.2.1 15 (by omega)]; rfl
    have m16 : ma.1 16 = upd (m1.1 16) (tnp T) (-1) := by rw [x5.2.1 16 (by omega), ← hm6, sI_oth (by omega), sI_row, t7.2.1 16 (by omega), sI_oth (by omega), sI_oth (by omega), s5.2.1 16 (by omega), r8.2.1 16 (by omega), d5.2.1 16 (by omega)]; rfl
    have cl : ∀ r, r ≠ 1 → ca.2.1 r = (sL c1 (tP T + 1) (tnp T) (lN (enc 27 96 wd1))).2.1 r := fun r x => by rw [x4.2.2.2 r x, ← hc6]; exact (t6.2.2.2 r x).trans ((s4.2.2.2 r x).trans ((r7.2.2.2 r x).trans (d4.2.2.2 r x)))
    have ml : ∀ r, r ≠ 0 → ma.2.1 r = (sL m1 2 (tnp T) (lN (enc 256 0 wd1))).2.1 r := fun r x => by rw [x5.2.2.2 r x, ← hm6]; exact (t7.2.2.2 r x).trans ((s5.2.2.2 r x).trans ((r8.2.2.2 r x).trans (d5.2.2.2 r x)))
    have hwk2 : ∀ q, wkI (up2 (up2 (up2 (up2 (up2 T.1 0 (tnp T) v3) 22 (tnp T) s') 23 (tnp T) 0) 1 (tnp T) 0) 20 2 (tnp T + 1), T.2) q = if q = tnp T then -1 else wkI T q := fun q => by
      unfold wkI
      show (if up2 (up2 (up2 T.1 0 (tnp T) v3) 22 (tnp T) s') 23 (tnp T) 0 23 q = 0 then (-1 : Int32) else nI (up2 (up2 (up2 (up2 T.1 0 (tnp T) v3) 22 (tnp T) s') 23 (tnp T) 0) 1 (tnp T) 0 1 q)) = _
      by_cases z : q = tnp T
      · rw [if_pos z, z, up2_at, if_pos rfl]
      · rw [if_neg z, up2_ne (fun x => z x.2), up2_ne (fun x => by omega), up2_ne (fun x => by omega), up2_ne (fun x => z x.2)]
        rfl
    refine Or.inr ⟨(up2 (up2 (up2 (up2 (up2 T.1 0 (tnp T) v3) 22 (tnp T) s') 23 (tnp T) 0) 1 (tnp T) 0) 20 2 (tnp T + 1), T.2), fun q => if q = tnp T then wd1 else nms q, ka, pa, na, va, wda, ca, ma, rfl, x2, ⟨x3.1, x3.2.1, ?_, ?_, ?_, x3.2.2⟩, ⟨rfl, rfl⟩, ?_, gc6.trans x4.gc, gm6.trans x5.gm⟩
    · obtain ⟨⟨g1, g2, g3, g4, g5, g6, g7, g8, g9⟩, w2', w3', w4', w5', w6'⟩ := hP1
      refine ⟨⟨hlt, g2, g3, g4, fun q hq => ?_, fun q hq => ?_, fun q hq => ?_, g8, g9⟩, w2', fun q hq => ?_, fun a b ha hb => ?_, fun q hq => ?_, w6'⟩
      · show up2 T.1 0 (tnp T) v3 0 q ≤ 9 ∧ up2 (up2 (up2 (up2 T.1 0 (tnp T) v3) 22 (tnp T) s') 23 (tnp T) 0) 1 (tnp T) 0 1 q ≤ 100
        by_cases z : q = tnp T
        · rw [z, up2_at, up2_at]; exact ⟨r2, by omega⟩
        · rw [up2_ne (fun x => z x.2), up2_ne (fun x => z x.2)]
          exact g5 q (by have : q < tnp T + 1 := hq; omega)
      · obtain ⟨y1, y2, y3⟩ := g6 q hq
        exact ⟨Nat.lt_succ_of_lt y1, Nat.lt_succ_of_lt y2, y3⟩
      · obtain ⟨y1, y2⟩ := g7 q hq
        exact ⟨Nat.lt_succ_of_lt y1, y2⟩
      · show VW (if q = tnp T then wd1 else nms q)
        by_cases z : q = tnp T
        · rw [if_pos z]; exact w1
        · rw [if_neg z]; exact w3' q (by have : q < tnp T + 1 := hq; omega)
      · show (if a = tnp T then wd1 else nms a) = (if b = tnp T then wd1 else nms b) → a = b
        have ha' : a < tnp T + 1 := ha
        have hb' : b < tnp T + 1 := hb
        by_cases za : a = tnp T
        · by_cases zb : b = tnp T
          · intros; omega
          · rw [if_pos za, if_neg zb]
            intro y
            exact absurd y.symm (y1 b (by omega))
        · by_cases zb : b = tnp T
          · rw [if_neg za, if_pos zb]
            intro y
            exact absurd y (y1 a (by omega))
          · rw [if_neg za, if_neg zb]
            exact w4' a b (by omega) (by omega)
      · show up2 (up2 T.1 0 (tnp T) v3) 22 (tnp T) s' 22 q < 3 ∧ up2 (up2 (up2 T.1 0 (tnp T) v3) 22 (tnp T) s') 23 (tnp T) 0 23 q ≤ 1 ∧ (up2 (up2 (up2 T.1 0 (tnp T) v3) 22 (tnp T) s') 23 (tnp T) 0 23 q = 0 → up2 (up2 (up2 (up2 T.1 0 (tnp T) v3) 22 (tnp T) s') 23 (tnp T) 0) 1 (tnp T) 0 1 q = 0)
        by_cases z : q = tnp T
        · rw [z, up2_at, up2_at, up2_at]; exact ⟨t1, by omega, fun _ => rfl⟩
        · rw [up2_ne (fun x => z x.2), up2_ne (fun x => by omega), up2_ne (fun x => z x.2), up2_ne (fun x => by omega), up2_ne (fun x => by omega), up2_ne (fun x => z x.2)]
          exact w5' q (by have : q < tnp T + 1 := hq; omega)
    · obtain ⟨s1', ⟨f1, f2, f3, f4, f5⟩, f7, f8, f9, f10⟩ := hC1
      refine ⟨by rw [x4.1, ← hc6]; exact hc5, ⟨?_, ?_, ?_, ?_, ?_⟩, ?_, ?_, ?_, f10.of rfl (fun _ _ => rfl) rfl (fun r x y => cr r (by omega) (by omega) (by omega) (by omega) (by omega))⟩
      · exact (cq 0).trans (upd_at _ _ _)
      · exact (cq 5).trans ((upd_ne (by omega)).trans f2)
      · exact (cq 10).trans ((upd_ne (by omega)).trans f3)
      · exact (cq 18).trans ((upd_ne (by omega)).trans f4)
      · exact (cq 14).trans ((upd_ne (by omega)).trans f5)
      · intro q hq
        rw [hwk2 q]
        show ca.2.1 (tP T + 1) q = lN (enc 27 96 (if q = tnp T then wd1 else nms q)) ∧ ca.1 (tP T + 2) q = nI (up2 T.1 0 (tnp T) v3 0 q) ∧ ca.1 (tP T + 3) q = nI (up2 (up2 T.1 0 (tnp T) v3) 22 (tnp T) s' 22 q) ∧ ca.1 (tP T + 4) q = (if q = tnp T then -1 else wkI T q)
        rw [cl _ (by omega), c2', c3', c4']
        by_cases z : q = tnp T
        · rw [z, if_pos rfl, if_pos rfl, sL_at, up2_at, up2_at, upd_at, upd_at, upd_at]
          exact ⟨rfl, rfl, rfl, rfl⟩
        · rw [if_neg z, if_neg z, sL_ne z, up2_ne (fun x => z x.2), up2_ne (fun x => z x.2), up2_ne (fun x => by omega), upd_ne z, upd_ne z, upd_ne z]
          exact f7 q (by have : q < tnp T + 1 := hq; omega)
      · intro q hq
        have := f8 q hq
        rw [← cr (tP T + 5) (by omega) (by omega) (by omega) (by omega) (by omega), ← cr (tP T + 6) (by omega) (by omega) (by omega) (by omega) (by omega), ← cr (tP T + 7) (by omega) (by omega) (by omega) (by omega) (by omega), ← cr (tP T + 8) (by omega) (by omega) (by omega) (by omega) (by omega)] at this
        exact this
      · intro q hq
        have := f9 q hq
        rw [← cr (tP T + 9) (by omega) (by omega) (by omega) (by omega) (by omega), ← cr (tP T + 10) (by omega) (by omega) (by omega) (by omega) (by omega), ← cr (tP T + 11) (by omega) (by omega) (by omega) (by omega) (by omega)] at this
        exact this
    · obtain ⟨⟨g1, g2, g3, g4, g5, g6⟩, g7, g8, g9, g10⟩ := hM1
      refine ⟨⟨?_, ?_, ?_, ?_, ?_, ?_⟩, ?_, ?_, ?_, g10.of (fun _ _ => rfl) rfl (fun r hr => mr r (by omega) (by omega) (by omega) (by omega))⟩
      · rw [x5.2.2.1 47 (by omega), ← hm6, sI_row, upd_at]; rfl
      · exact (m0 48 (by omega)).trans g2
      · exact (m0 49 (by omega)).trans g3
      · exact (m0 23 (by omega)).trans g4
      · exact (m0 54 (by omega)).trans g5
      · exact (m0 50 (by omega)).trans g6
      · intro q hq
        rw [hwk2 q]
        show ma.2.1 2 q = lN (enc 256 0 (if q = tnp T then wd1 else nms q)) ∧ ma.1 14 q = nI (up2 T.1 0 (tnp T) v3 0 q) ∧ ma.1 15 q = nI (up2 (up2 T.1 0 (tnp T) v3) 22 (tnp T) s' 22 q) ∧ ma.1 16 q = (if q = tnp T then -1 else wkI T q)
        rw [ml 2 (by omega), m14, m15, m16]
        by_cases z : q = tnp T
        · rw [z, if_pos rfl, if_pos rfl, sL_at, up2_at, up2_at, upd_at, upd_at, upd_at]
          exact ⟨rfl, rfl, rfl, rfl⟩
        · rw [if_neg z, if_neg z, sL_ne z, up2_ne (fun x => z x.2), up2_ne (fun x => z x.2), up2_ne (fun x => by omega), upd_ne z, upd_ne z, upd_ne z]
          exact g7 q (by have : q < tnp T + 1 := hq; omega)
      · intro q hq
        have := g8 q hq
        rw [← mr 19 (by omega) (by omega) (by omega) (by omega), ← mr 20 (by omega) (by omega) (by omega) (by omega), ← mr 21 (by omega) (by omega) (by omega) (by omega), ← mr 22 (by omega) (by omega) (by omega) (by omega)] at this
        exact this
      · intro q hq
        have := g9 q hq
        rw [← mr 27 (by omega) (by omega) (by omega) (by omega), ← mr 28 (by omega) (by omega) (by omega) (by omega), ← mr 29 (by omega) (by omega) (by omega) (by omega)] at this
        exact this
    · show (tnp T + 1) + tnm T + tnn T + fb_sm (fun p => up2 (up2 (up2 T.1 0 (tnp T) v3) 22 (tnp T) s') 23 (tnp T) 0 23 p) (tnp T + 1) + told T 0 + told T 1 + told T 2 + T.1 20 7 = mu T + 1
      have hsum : fb_sm (fun p => up2 (up2 (up2 T.1 0 (tnp T) v3) 22 (tnp T) s') 23 (tnp T) 0 23 p) (tnp T + 1) = fb_sm (fun p => T.1 23 p) (tnp T) := by
        rw [fb_sm_succ, up2_at, Nat.add_zero]
        refine fb_sm_cong (fun q hq => ?_)
        rw [up2_ne (fun x => by omega), up2_ne (fun x => by omega), up2_ne (fun x => by omega)]
      unfold mu
      omega
  · obtain ⟨c', m', b1, b2, b3, b4, b5, b6, b7⟩ := a3.j.no (Q := tP T) (x := 2) (by omega)
    rw [if_neg (fun z => e2 (hk2.mp z)), if_neg e2, if_pos rfl, show fX7_refuse c1 (2 : Int32) = _ from b1, cI_some, tz_0, show fX12_wrong m1 (2 : Int32) = _ from b2, cV_some, show (5000 : Nat) = 4999 + 1 from rfl, gbad 4999 b4, cV_some]
    exact Or.inl ⟨c', m', rfl, b4.fin 4999, b3, a4.gc.trans b5, a5.gm.trans b6⟩
end
