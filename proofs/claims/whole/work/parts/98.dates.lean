/-! ===== lines: what each gives ===== -/
def mu (T : Tn) : Nat := tnp T + tnm T + tnn T + fb_sm (fun p => T.1 23 p) (tnp T) + told T 0 + told T 1 + told T 2 + T.1 20 7
def LN (bt : Nat → Nat) (L : Nat) (T : Tn) (c m : Mem) (rc : Option (Int32 × Mem)) (rm : Option Mem) : Prop :=
  (∃ c' m', rc = some (0, c') ∧ rm = some m' ∧ bad c' m' ∧ GC (tP T) c c' ∧ GM m m') ∨ (∃ T' nms' k' p' n' v' wd' c' m', rc = some (1, c') ∧ rm = some m' ∧ PI bt L T' nms' k' p' n' v' wd' c' m' ∧ (tP T' = tP T ∧ tQ T' = tQ T) ∧ mu T' = mu T + 1 ∧ GC (tP T) c c' ∧ GM m m')
theorem FC.of {T T' : Tn} {c c' : Mem} (h : FC T c) (hP : tP T' = tP T) (h21 : ∀ w, w < 3 → told T' w = told T w) (h2 : T'.2 = T.2) (hr : ∀ r, tP T + 12 ≤ r → r < tP T + 21 → c'.1 r = c.1 r) : FC T' c' := by
  intro w hw
  rw [hP, h21 w hw, h2, hr (tP T + (12 + 3 * w)) (by omega) (by omega), hr (tP T + (12 + 3 * w) + 1) (by omega) (by omega)]
  exact h w hw
theorem FCz.of {T T' : Tn} {c c' : Mem} (h : FCz T c) (hP : tP T' = tP T) (h21 : ∀ w, w < 3 → told T' w = told T w) (h2 : T'.2 = T.2) (hr : ∀ r, tP T + 12 ≤ r → r < tP T + 21 → c'.1 r = c.1 r) : FCz T' c' := ⟨h.1.of hP h21 h2 hr, fun w hw hz => by
  rw [hP, hr (tP T + (12 + 3 * w)) (by omega) (by omega)]
  exact h.2 w hw (by rw [← h21 w hw]; exact hz)⟩
theorem FMn.of {T T' : Tn} {m m' : Mem} (h : FMn T m) (h21 : ∀ w, w < 3 → told T' w = told T w) (h2 : T'.2 = T.2) (hr : ∀ r, (r = 3 ∨ r = 4 ∨ r = 5 ∨ r = 11) → m'.1 r = m.1 r) : FMn T' m' := by
  intro w hw
  rw [h21 w hw, h2, hr 3 (by omega), hr 4 (by omega), hr 5 (by omega), hr 11 (by omega)]
  exact h w hw
section
variable {bt : Nat → Nat} {L : Nat} {T : Tn} {nms : Nat → List Nat} {k p n v : Nat} {wd : List Nat} {c m : Mem}
/-- the date -/
theorem date_line (h : PI bt L T nms k p n v wd c m) (hk : k = 135) : LN bt L T c m (fX7_readDate c) (fX12_readLine m) := by
  have hJ := h.j
  obtain ⟨hB, hT, hP, hC, hM, h0⟩ := h
  have hQ := hP.2.1
  have h14 := hC.2.1.2.2.2.2
  have h54 := hM.1.2.2.2.2.1
  have hd := hP.2.2.2.2.2
  have start : fX12_readLine m = (if (m.1 0 54) = 0 then (pt (sI m 0 54 (1 : Int32)) fun m12 => (cI (fX12_told m12 (1684108389 : Int64) (0 : Int32) (364 : Int32)) fun r13 m14 => (pt (sI m14 0 50 r13) fun m15 => (gX12_readLine 4998 2 m15)))) else (cV (fX12_wrong m (2 : Int32)) fun m11 => (gX12_readLine 4998 2 m11))) := by
    unfold fX12_readLine
    rw [hT.w0, cP_some, if_neg (show ¬ k = 128 by omega), if_pos rfl, hT.w1, cP_some, if_neg (show ¬ k = 129 by omega), if_pos rfl, hT.w2, cP_some, if_neg (show ¬ k = 130 by omega), if_pos rfl]
    rw [show (5000 : Nat) = 4999 + 1 from rfl, gX12_readLine, hT.w3, cP_some, if_neg (show ¬ k = 131 by omega), if_pos rfl, hT.w4, cP_some, if_neg (show ¬ k = 132 by omega), if_pos rfl, hT.w5, cP_some, if_neg (show ¬ k = 133 by omega), if_pos rfl]
    rw [show (4999 : Nat) = 4998 + 1 from rfl, gX12_readLine, hT.w6, cP_some, if_neg (show ¬ k = 134 by omega), if_pos rfl, hT.w7, cP_some, if_pos hk, if_neg (show ¬ (1 : Int32) = 0 by decide)]
  rw [start]
  unfold fX7_readDate
  rw [hC.1, gPl_ok hQ, h14, h54, dtI]
  by_cases e : T.1 20 7 = 0
  · rw [if_pos e, if_pos rfl, if_pos (by rw [e]; rfl), pt_eq]
    have hJ2 : PJ bt L k p n v wd c (sI m 0 54 1) := hJ.keep rfl rfl ⟨rfl, rfl⟩ rfl rfl (fun s hs => by rw [sI_row, upd_ne (by omega)]) (sI_oth (by omega)) rfl
    obtain ⟨k1, p1, n1, v1, wd1, c1, m1, a1, a2, a3, a4, a5⟩ := hJ2.adv (by omega)
    have gm1 : GM m m1 := (GM.rfl'.sI (r := 0) (k := 54) (v := 1) (by simp)).trans a5.gm
    have hwant : fX12_want (sI m 0 54 1) (1684108389 : Int64) = some m1 := by
      unfold fX12_want
      rw [if_pos (show (sI m 0 54 1).1 0 2 ≤ 0 by rw [hJ2.2.2]; decide), hJ2.2.1.w7, cP_some, if_pos hk, if_neg (show ¬ (1 : Int32) = 0 by decide), a2, cV_some]
    unfold fX12_told
    rw [a1, cV_some, hwant, cV_some]
    rcases a3.number (Q := tP T) (lo := 0) (up := 364) (by omega) (by omega) with ⟨c2, m2, f, q, z, b1, b2, b3, b4, b5, b6, b7⟩ | ⟨b1, b2, b3, b4, b5, b6⟩
    · rw [show fX7_isNumberHere c1 (0 : Int32) (364 : Int32) = _ from b1, cI_some, if_pos rfl, show fX12_toldNumber m1 (0 : Int32) (364 : Int32) = _ from b2, cI_some, cI_some, pt_eq]
      have hMF : MF f q (sI m2 0 50 z) := ⟨b4.1, by rw [sI_row, upd_ne (by omega)]; exact b4.2.1, by rw [sI_row, upd_ne (by omega)]; exact b4.2.2⟩
      refine Or.inl ⟨c2, _, rfl, hMF.fin 4997, ?_, a4.gc.trans b5, (gm1.trans b6).sI (by simp)⟩
      obtain ⟨f', q', y1, y2, y3, y4, y5, y6, y7⟩ := b3
      exact ⟨f', q', y1, y2, y3, y4, y5, by rw [sI_row, upd_ne (by omega)]; exact y6, by rw [sI_row, upd_ne (by omega)]; exact y7⟩
    · have hc1 : c1.2.2 4 1 = tP T := by rw [a4.1]; exact hC.1
      have hJ3 : PJ bt L k1 p1 n1 v1 wd1 (sI c1 (tP T) 14 (nI v1)) m1 := a3.keep (sI_oth (by omega)) (sI_oth (by omega)) ⟨by rw [sI_oth (by omega)], by rw [sI_oth (by omega)]⟩ rfl rfl (fun _ _ => rfl) rfl rfl
      obtain ⟨k2, p2, n2, v2, wd2, c2, m2, d1, d2, d3, d4, d5⟩ := hJ3.adv (by omega)
      rw [show fX7_isNumberHere c1 (0 : Int32) (364 : Int32) = _ from b5, cI_some, if_neg (show ¬ (1 : Int32) = 0 by decide), hc1, gPl_ok hQ, b4, pt_eq, d1, cV_some, show fX12_toldNumber m1 (0 : Int32) (364 : Int32) = _ from b6 m2 d2, cI_some, cI_some, pt_eq]
      have hJ4 : PJ bt L k2 p2 n2 v2 wd2 c2 (sI m2 0 50 (nI v1)) := d3.keep rfl rfl ⟨rfl, rfl⟩ rfl rfl (fun s hs => by rw [sI_row, upd_ne (by omega)]) (sI_oth (by omega)) rfl
      have gc2 : GC (tP T) c c2 := (a4.gc.sI (Or.inr ⟨by omega, by omega, by omega⟩)).trans d4.gc
      have gm2 : GM m (sI m2 0 50 (nI v1)) := (gm1.trans d5.gm).sI (by simp)
      rcases hJ4.fin (Q := tP T) 4997 with ⟨c3, m3, y1, y2, y3, y4, y5⟩ | ⟨k3, p3, n3, v3, wd3, c3, m3, y1, y2, y3, y4, y5⟩
      · rw [y1, cI_some, tz_0]
        exact Or.inl ⟨c3, m3, rfl, y2, y3, gc2.trans y4, gm2.trans y5⟩
      · rw [y1, cI_some, tz_1]
        have cr : ∀ r, r ≠ 1 → r ≠ tP T → c3.1 r = c.1 r := fun r x y => by rw [y4.2.1 r x, d4.2.1 r x, sI_oth y, a4.2.1 r x]
        have cq : ∀ s, c3.1 (tP T) s = upd (c.1 (tP T)) 14 (nI v1) s := fun s => by rw [y4.2.1 _ (by omega), d4.2.1 _ (by omega), sI_row, a4.2.1 _ (by omega)]
        have mr : ∀ r, r ≠ 0 → m3.1 r = m.1 r := fun r x => by rw [y5.2.1 r x, sI_oth x, d5.2.1 r x, a5.2.1 r x, sI_oth x]
        have m0 : ∀ s, (9 ≤ s ∧ s ≠ 50 ∧ s ≠ 54) → m3.1 0 s = m.1 0 s := fun s x => by rw [y5.2.2.1 s (by omega), sI_row, upd_ne (by omega), d5.2.2.1 s (by omega), a5.2.2.1 s (by omega), sI_row, upd_ne (by omega)]
        have cl : ∀ r, r ≠ 1 → c3.2.1 r = c.2.1 r := fun r x => by rw [y4.2.2.2 r x, d4.2.2.2 r x]; exact a4.2.2.2 r x
        have ml : ∀ r, r ≠ 0 → m3.2.1 r = m.2.1 r := fun r x => by rw [y5.2.2.2 r x]; exact (d5.2.2.2 r x).trans (a5.2.2.2 r x)
        refine Or.inr ⟨(up2 (up2 T.1 20 6 v1) 20 7 1, T.2), nms, k3, p3, n3, v3, wd3, c3, m3, rfl, y2, ⟨y3.1, y3.2.1, ?_, ?_, ?_, y3.2.2⟩, ⟨rfl, rfl⟩, ?_, gc2.trans y4.gc, gm2.trans y5.gm⟩
        · obtain ⟨t1, t2, t3, t4, t5, t6, t7, t8⟩ := hP
          exact ⟨t1, t2, t3, t4, t5, Nat.le_refl _, b3, fun z => by cases z⟩
        · obtain ⟨s1, ⟨s2, s3, s4, s5, s6⟩, s7, s8, s9, s10⟩ := hC
          refine ⟨by rw [y4.1, d4.1]; exact hc1, ⟨?_, ?_, ?_, ?_, ?_⟩, ?_, ?_, ?_, s10.of rfl (fun _ _ => rfl) rfl (fun r x y => cr r (by omega) (by omega))⟩
          · exact (cq 0).trans ((upd_ne (by omega)).trans s2)
          · exact (cq 5).trans ((upd_ne (by omega)).trans s3)
          · exact (cq 10).trans ((upd_ne (by omega)).trans s4)
          · exact (cq 18).trans ((upd_ne (by omega)).trans s5)
          · exact (cq 14).trans (upd_at _ _ _)
          · intro q hq
            have := s7 q hq
            rw [← cl _ (by omega), ← cr (tP T + 2) (by omega) (by omega), ← cr (tP T + 3) (by omega) (by omega), ← cr (tP T + 4) (by omega) (by omega)] at this
            exact this
          · intro q hq
            have := s8 q hq
            rw [← cr (tP T + 5) (by omega) (by omega), ← cr (tP T + 6) (by omega) (by omega), ← cr (tP T + 7) (by omega) (by omega), ← cr (tP T + 8) (by omega) (by omega)] at this
            exact this
          · intro q hq
            have := s9 q hq
            rw [← cr (tP T + 9) (by omega) (by omega), ← cr (tP T + 10) (by omega) (by omega), ← cr (tP T + 11) (by omega) (by omega)] at this
            exact this
        · obtain ⟨⟨s1, s2, s3, s4, s5, s6⟩, s7, s8, s9, s10⟩ := hM
          refine ⟨⟨?_, ?_, ?_, ?_, ?_, ?_⟩, ?_, ?_, ?_, s10.of (fun _ _ => rfl) rfl (fun r hr => mr r (by omega))⟩
          · exact (m0 47 (by omega)).trans s1
          · exact (m0 48 (by omega)).trans s2
          · exact (m0 49 (by omega)).trans s3
          · exact (m0 23 (by omega)).trans s4
          · rw [y5.2.2.1 54 (by omega), sI_row, upd_ne (by omega), d5.2.2.1 54 (by omega), a5.2.2.1 54 (by omega), sI_row, upd_at]; rfl
          · rw [y5.2.2.1 50 (by omega), sI_row, upd_at]; rfl
          · intro q hq
            have := s7 q hq
            rw [← ml 2 (by omega), ← mr 14 (by omega), ← mr 15 (by omega), ← mr 16 (by omega)] at this
            exact this
          · intro q hq
            have := s8 q hq
            rw [← mr 19 (by omega), ← mr 20 (by omega), ← mr 21 (by omega), ← mr 22 (by omega)] at this
            exact this
          · intro q hq
            have := s9 q hq
            rw [← mr 27 (by omega), ← mr 28 (by omega), ← mr 29 (by omega)] at this
            exact this
        · show tnp T + tnm T + tnn T + fb_sm (fun p => T.1 23 p) (tnp T) + told T 0 + told T 1 + told T 2 + 1 = _
          unfold mu
          rw [e]
  · have e1 : T.1 20 7 = 1 := by omega
    rw [if_neg e, if_neg (fun z => nI_lt0 (k := T.1 20 6) (by omega) (by rw [z]; decide)), if_neg (by rw [e1]; decide)]
    obtain ⟨c', m', b1, b2, b3, b4, b5, b6, b7⟩ := hJ.no (Q := tP T) (x := 2) (by omega)
    rw [show fX7_refuse c (2 : Int32) = _ from b1, cI_some, tz_0, show fX12_wrong m (2 : Int32) = _ from b2, cV_some]
    exact Or.inl ⟨c', m', rfl, b4.fin 4997, b3, b5, b6⟩
end
