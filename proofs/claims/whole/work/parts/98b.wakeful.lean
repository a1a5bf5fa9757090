/-! ===== lines: wakeful, noise ===== -/
section
variable {bt : Nat → Nat} {L : Nat} {T : Tn} {nms : Nat → List Nat} {k p n v : Nat} {wd : List Nat} {c m : Mem}
theorem PI.lx (h : PI bt L T nms k p n v wd c m) {k' p' n' v' : Nat} {wd' : List Nat} {c' m' : Mem} (hJ : PJ bt L k' p' n' v' wd' c' m') (hc : lxC c c') (hm : lxM m m') : PI bt L T nms k' p' n' v' wd' c' m' := ⟨hJ.1, hJ.2.1, h.2.2.1, h.2.2.2.1.lx h.2.2.1.2.1 hc, h.2.2.2.2.1.lx hm, hJ.2.2⟩
theorem bad.mk2 {c m m' : Mem} (h : bad c m) (h2 : m'.1 0 2 = m.1 0 2) (h3 : m'.1 0 3 = m.1 0 3) : bad c m' := by
  obtain ⟨f', q', y1, y2, y3, y4, y5, y6, y7⟩ := h
  exact ⟨f', q', y1, y2, y3, y4, y5, by rw [h2]; exact y6, by rw [h3]; exact y7⟩
theorem MF.mk2 {f q : Nat} {m m' : Mem} (h : MF f q m) (h2 : m'.1 0 2 = m.1 0 2) (h3 : m'.1 0 3 = m.1 0 3) : MF f q m' := ⟨h.1, by rw [h2]; exact h.2.1, by rw [h3]; exact h.2.2⟩
theorem none_line (h : PJ bt L k p n v wd c m) (hk : k < 131 ∨ 135 < k) (F : Nat) : gX12_readLine (F + 2) 0 m = (cV (fX12_wrong m (2 : Int32)) fun m8 => (gX12_readLine F 2 m8)) := by
  have hT := h.2.1
  rw [show F + 2 = (F + 1) + 1 from rfl, gX12_readLine, hT.w3, cP_some, if_neg (show ¬ k = 131 by omega), if_pos rfl, hT.w4, cP_some, if_neg (show ¬ k = 132 by omega), if_pos rfl, hT.w5, cP_some, if_neg (show ¬ k = 133 by omega), if_pos rfl]
  rw [gX12_readLine, hT.w6, cP_some, if_neg (show ¬ k = 134 by omega), if_pos rfl, hT.w7, cP_some, if_neg (show ¬ k = 135 by omega), if_pos rfl]
theorem wake_line (h : PI bt L T nms k p n v wd c m) (hk : k = 131) : LN bt L T c m (fX7_readWakeful c) (fX12_readLine m) := by
  have h7 := h.2.2.1.1.1
  have hQ := h.2.2.1.2.1
  have hT := h.2.1
  have start : fX12_readLine m = (cV (fX12_readWakeful m) fun m26 => (gX12_readLine 4999 2 m26)) := by
    unfold fX12_readLine
    rw [hT.w0, cP_some, if_neg (show ¬ k = 128 by omega), if_pos rfl, hT.w1, cP_some, if_neg (show ¬ k = 129 by omega), if_pos rfl, hT.w2, cP_some, if_neg (show ¬ k = 130 by omega), if_pos rfl]
    rw [show (5000 : Nat) = 4999 + 1 from rfl, gX12_readLine, hT.w3, cP_some, if_pos hk, if_neg (show ¬ (1 : Int32) = 0 by decide)]
  rw [start]
  obtain ⟨k1, p1, n1, v1, wd1, c1, m1, a1, a2, a3, a4, a5⟩ := h.adv (by omega)
  unfold fX7_readWakeful fX12_readWakeful
  rw [a1, cV_some, a2, cV_some]
  rcases a3.person with ⟨c2, m2, f, q, b1, b2, b3, b4, b5, b6, b7⟩ | ⟨i, hi, hk1, hn1, b1, b2⟩
  · rw [b1, cI_some, if_pos rfl, b2, cI_some, if_neg b4.pos.1, if_neg b4.pos.1, b4.number, cI_some, if_neg b4.pos.1, cV_some]
    exact Or.inl ⟨c2, m2, rfl, b4.fin 4998, b3, a4.gc.trans b5, a5.gm.trans b6⟩
  · have a3' := a3
    obtain ⟨hB1, hT1, hP1, hC1, hM1, h01⟩ := a3'
    have hwc := (hC1.2.2.1 i hi).2.2.2
    have hwm := (hM1.2.1 i hi).2.2.2
    have hfl := hP1.2.2.2.2.1 i hi
    have hi1 : ¬ nI i = (-1 : Int32) := fun z => nI_lt0 (k := i) (by omega) (by rw [z]; decide)
    rw [b1, cI_some, if_neg hi1, hC1.1, gPl_ok hQ, rd_ok (by omega) (by omega), hwc, b2, cI_some, if_pos h01, rd_ok (by omega) (by omega), hwm]
    by_cases e : T.1 23 i = 0
    · have hwk : wkI T i = -1 := if_pos e
      rw [hwk, if_pos rfl, if_pos (show (-1 : Int32) < 0 by decide), if_pos h01]
      obtain ⟨k2, p2, n2, v2, wd2, c2, m2, d1, d2, d3, d4, d5⟩ := a3.j.adv (by omega)
      have d3i := a3.lx d3 d4 d5
      rw [d1, cV_some, d2, cV_some]
      rcases d3.number (Q := tP T) (lo := 0) (up := 100) (by omega) (by omega) with ⟨c3, m3, f, q, z, e1, e2, e3, e4, e5, e6, e7⟩ | ⟨e1, e2, e3, e4, e5, e6⟩
      · rw [show fX7_isNumberHere c2 (0 : Int32) (100 : Int32) = _ from e1, cI_some, if_pos rfl, show fX12_toldNumber m2 (0 : Int32) (100 : Int32) = _ from e2, cI_some, if_neg e4.pos.1, cV_some]
        exact Or.inl ⟨c3, m3, rfl, e4.fin 4998, e3, (a4.gc.trans d4.gc).trans e5, (a5.gm.trans d5.gm).trans e6⟩
      · have hJ3 : PJ bt L k2 p2 n2 v2 wd2 (sI c2 (tP T + 4) i (nI v2)) m2 := d3.keep (sI_oth (by omega)) (sI_oth (by omega)) ⟨by rw [sI_oth (by omega)], by rw [sI_oth (by omega)]⟩ rfl rfl (fun _ _ => rfl) rfl rfl
        obtain ⟨k3, p3, n3, v3, wd3, c3, m3, g1, g2, g3, g4, g5⟩ := hJ3.adv (by omega)
        rw [show fX7_isNumberHere c2 (0 : Int32) (100 : Int32) = _ from e5, cI_some, if_neg (show ¬ (1 : Int32) = 0 by decide), d3i.2.2.2.1.1, gPl_ok hQ, wr_ok (by omega) (by omega), e4, g1, cV_some, show fX12_toldNumber m2 (0 : Int32) (100 : Int32) = _ from e6 m3 g2, cI_some, if_pos g3.2.2, wr_ok (by omega) (by omega), cV_some]
        have hJ4 : PJ bt L k3 p3 n3 v3 wd3 c3 (sI m3 16 i (nI v2)) := g3.keep rfl rfl ⟨rfl, rfl⟩ rfl rfl (fun s hs => by rw [sI_oth (by omega)]) (sI_oth (by omega)) rfl
        have gc2 : GC (tP T) c c3 := ((a4.gc.trans d4.gc).sI (Or.inr ⟨by omega, by omega, by omega⟩)).trans g4.gc
        have gm2 : GM m (sI m3 16 i (nI v2)) := ((a5.gm.trans d5.gm).trans g5.gm).sI (by simp)
        rcases hJ4.fin (Q := tP T) 4998 with ⟨c4, m4, y1, y2, y3, y4, y5⟩ | ⟨k4, p4, n4, v4, wd4, c4, m4, y1, y2, y3, y4, y5⟩
        · rw [y1, cI_some, tz_0]
          exact Or.inl ⟨c4, m4, rfl, y2, y3, gc2.trans y4, gm2.trans y5⟩
        · rw [y1, cI_some, tz_1]
          obtain ⟨hB2, hT2, hP2, hC2, hM2, h02⟩ := d3i
          have cr : ∀ r, r ≠ 1 → r ≠ tP T + 4 → c4.1 r = c2.1 r := fun r x y => by rw [y4.2.1 r x, g4.2.1 r x, sI_oth y]
          have cq : ∀ s, c4.1 (tP T + 4) s = upd (c2.1 (tP T + 4)) i (nI v2) s := fun s => by rw [y4.2.1 _ (by omega), g4.2.1 _ (by omega), sI_row]
          have mr : ∀ r, r ≠ 0 → r ≠ 16 → m4.1 r = m2.1 r := fun r x y => by rw [y5.2.1 r x, sI_oth y, g5.2.1 r x]
          have mq : ∀ s, m4.1 16 s = upd (m2.1 16) i (nI v2) s := fun s => by rw [y5.2.1 16 (by omega), sI_row, g5.2.1 16 (by omega)]
          have m0 : ∀ s, 9 ≤ s → m4.1 0 s = m2.1 0 s := fun s x => by rw [y5.2.2.1 s (by omega), sI_oth (by omega), g5.2.2.1 s (by omega)]
          have cl : ∀ r, r ≠ 1 → c4.2.1 r = c2.2.1 r := fun r x => by rw [y4.2.2.2 r x]; exact g4.2.2.2 r x
          have ml : ∀ r, r ≠ 0 → m4.2.1 r = m2.2.1 r := fun r x => by rw [y5.2.2.2 r x]; exact g5.2.2.2 r x
          have hwk2 : ∀ q, wkI (up2 (up2 T.1 1 i v2) 23 i 1, T.2) q = if q = i then nI v2 else wkI T q := fun q => by
            unfold wkI
            show (if up2 (up2 T.1 1 i v2) 23 i 1 23 q = 0 then (-1 : Int32) else nI (up2 T.1 1 i v2 1 q)) = _
            by_cases z : q = i
            · rw [if_pos z, z, up2_at, if_neg (by omega), up2_at]
            · rw [if_neg z, up2_ne (fun x => z x.2), up2_ne (fun x => by omega), up2_ne (fun x => z x.2)]
          refine Or.inr ⟨(up2 (up2 T.1 1 i v2) 23 i 1, T.2), nms, k4, p4, n4, v4, wd4, c4, m4, rfl, y2, ⟨y3.1, y3.2.1, ?_, ?_, ?_, y3.2.2⟩, ⟨rfl, rfl⟩, ?_, gc2.trans y4.gc, gm2.trans y5.gm⟩
          · obtain ⟨⟨t1, t1a, t1b, t1c, t1d, t1e⟩, t2, t3, t4, t5, t6⟩ := hP2
            refine ⟨⟨t1, t1a, t1b, t1c, fun q hq => ⟨(t1d q hq).1, ?_⟩, t1e⟩, t2, t3, t4, fun q hq => ⟨(t5 q hq).1, ?_, ?_⟩, t6⟩
            · show up2 T.1 1 i v2 1 q ≤ 100
              by_cases z : q = i
              · rw [z, up2_at]; exact e3
              · rw [up2_ne (fun x => z x.2)]; exact (t1d q hq).2
            · show up2 (up2 T.1 1 i v2) 23 i 1 23 q ≤ 1
              by_cases z : q = i
              · rw [z, up2_at]; omega
              · rw [up2_ne (fun x => z x.2)]; exact (t5 q hq).2.1
            · show up2 (up2 T.1 1 i v2) 23 i 1 23 q = 0 → up2 T.1 1 i v2 1 q = 0
              by_cases z : q = i
              · rw [z, up2_at]; intro x; omega
              · rw [up2_ne (fun x => z x.2), up2_ne (fun x => by omega), up2_ne (fun x => z x.2)]; exact (t5 q hq).2.2
          · obtain ⟨s1, s2, s7, s8, s9, s10⟩ := hC2
            refine ⟨by rw [y4.1, g4.1]; exact s1, ?_, ?_, ?_, ?_, s10.of rfl (fun _ _ => rfl) rfl (fun r x y => cr r (by omega) (by omega))⟩
            · have := s2
              rw [← cr (tP T) (by omega) (by omega)] at this
              exact this
            · intro q hq
              have := s7 q hq
              rw [← cl _ (by omega), ← cr (tP T + 2) (by omega) (by omega), ← cr (tP T + 3) (by omega) (by omega)] at this
              refine ⟨this.1, this.2.1, this.2.2.1, (cq q).trans ?_⟩
              rw [hwk2 q]
              by_cases z : q = i
              · rw [if_pos z, z, upd_at]
              · rw [if_neg z, upd_ne z]; exact this.2.2.2
            · intro q hq
              have := s8 q hq
              rw [← cr (tP T + 5) (by omega) (by omega), ← cr (tP T + 6) (by omega) (by omega), ← cr (tP T + 7) (by omega) (by omega), ← cr (tP T + 8) (by omega) (by omega)] at this
              exact this
            · intro q hq
              have := s9 q hq
              rw [← cr (tP T + 9) (by omega) (by omega), ← cr (tP T + 10) (by omega) (by omega), ← cr (tP T + 11) (by omega) (by omega)] at this
              exact this
          · obtain ⟨⟨s1, s2, s3, s4, s5, s6⟩, s7, s8, s9, s10⟩ := hM2
            refine ⟨⟨?_, ?_, ?_, ?_, ?_, ?_⟩, ?_, ?_, ?_, s10.of (fun _ _ => rfl) rfl (fun r hr => mr r (by omega) (by omega))⟩
            · exact (m0 47 (by omega)).trans s1
            · exact (m0 48 (by omega)).trans s2
            · exact (m0 49 (by omega)).trans s3
            · exact (m0 23 (by omega)).trans s4
            · exact (m0 54 (by omega)).trans s5
            · exact (m0 50 (by omega)).trans s6
            · intro q hq
              have := s7 q hq
              rw [← ml 2 (by omega), ← mr 14 (by omega) (by omega), ← mr 15 (by omega) (by omega)] at this
              refine ⟨this.1, this.2.1, this.2.2.1, (mq q).trans ?_⟩
              rw [hwk2 q]
              by_cases z : q = i
              · rw [if_pos z, z, upd_at]
              · rw [if_neg z, upd_ne z]; exact this.2.2.2
            · intro q hq
              have := s8 q hq
              rw [← mr 19 (by omega) (by omega), ← mr 20 (by omega) (by omega), ← mr 21 (by omega) (by omega), ← mr 22 (by omega) (by omega)] at this
              exact this
            · intro q hq
              have := s9 q hq
              rw [← mr 27 (by omega) (by omega), ← mr 28 (by omega) (by omega), ← mr 29 (by omega) (by omega)] at this
              exact this
          · show tnp T + tnm T + tnn T + fb_sm (fun p => up2 (up2 T.1 1 i v2) 23 i 1 23 p) (tnp T) + told T 0 + told T 1 + told T 2 + T.1 20 7 = mu T + 1
            have hs : fb_sm (fun p => up2 (up2 T.1 1 i v2) 23 i 1 23 p) (tnp T) = fb_sm (fun p => if p = i then 1 else T.1 23 p) (tnp T) := fb_sm_cong (fun q _ => by
              by_cases z : q = i
              · rw [if_pos z, z, up2_at]
              · rw [if_neg z, up2_ne (fun x => z x.2), up2_ne (fun x => by omega)])
            have hu := fb_sm_upd (fun p => T.1 23 p) 1 hi
            unfold mu
            omega
    · have hwk : wkI T i = nI (tw T i) := if_neg e
      have htw := (hP1.1.2.2.2.2.1 i hi).2
      rw [hwk, if_neg (fun z => nI_lt0 (k := tw T i) (by omega) (by rw [z]; decide)), if_neg (nI_lt0 (by omega))]
      obtain ⟨c2, m2, d1, d2, d3, d4, d5, d6, d7⟩ := a3.j.no (Q := tP T) (x := 3) (by omega)
      rw [show fX7_refuse c1 (3 : Int32) = _ from d1, cI_some, tz_0, show fX12_wrong m1 (3 : Int32) = _ from d2, cV_some, if_neg d4.pos.1, d4.number, cI_some, if_neg d4.pos.1, cV_some]
      exact Or.inl ⟨c2, m2, rfl, d4.fin 4998, d3, a4.gc.trans d5, a5.gm.trans d6⟩
end
