/-! ===== lines: formulas ===== -/
theorem sR_at (m : Mem) (r k v : Nat) : (sR m r k v).2.2 r k = v := by simp [sR, va_up]
theorem sR_ne {m : Mem} {r k v r' k' : Nat} (h : r' ≠ r ∨ k' ≠ k) : (sR m r k v).2.2 r' k' = m.2.2 r' k' := by
  by_cases e : r' = r
  · subst e
    simp [sR, va_up, h.resolve_left (fun z => z rfl)]
  · simp [sR, va_up, e]
theorem sR_1' (m : Mem) (r k v : Nat) : (sR m r k v).1 = m.1 := rfl
theorem nar1 : vp_nar .boolean (1 : Int32) = 1 ∧ vp_nar .boolean (0 : Int32) = 0 := by decide
theorem frC.gc {Q w : Nat} {c c' : Mem} (hQ : Q = 5 ∨ Q = 32) (hw : w < 3) (h : frC Q w c c') : GC Q c c' := by
  refine ⟨fun r hr => h.2.1 r ?_, h.2.2.1, fun r x _ => h.2.2.2.2.2 r x, fun r s _ => by rw [h.1]⟩
  simp only [List.mem_cons, List.not_mem_nil, or_false]
  omega
theorem frM.gm {w : Nat} {m m' : Mem} (h : frM w m m') : GM m m' := by
  refine ⟨fun r hr => h.1 r ?_, fun s hs => h.2.1 s ?_⟩
  · simp only [List.mem_cons, List.not_mem_nil, or_false, not_or] at hr ⊢; omega
  · simp only [List.mem_cons, List.not_mem_nil, or_false, not_or] at hs ⊢; omega
section
variable {bt : Nat → Nat} {L : Nat} {T : Tn} {nms : Nat → List Nat} {k p n v : Nat} {wd : List Nat} {c m : Mem}
theorem form_start (h : PI bt L T nms k p n v wd c m) {w : Nat} (hw : w < 3) (hk : k = 132 + w) : ∃ F1 F2, fX12_readLine m = (if told T w = 0 then (cV (fX12_formula m (nI w)) fun m13 => (gX12_readLine (F1 + 1) 2 m13)) else (cV (fX12_wrong m (2 : Int32)) fun m8 => (gX12_readLine (F2 + 1) 2 m8))) := by
  have hT := h.2.1
  have h11 := (h.2.2.2.2.1.2.2.2.2 w hw).1
  have htd := h.2.2.1.1.2.2.2.2.2.2.2.2 w hw
  have hz : nI (told T w) = 0 ↔ told T w = 0 := nI_eq0 (by omega)
  have pre : fX12_readLine m = gX12_readLine 5000 0 m := by
    unfold fX12_readLine
    rw [hT.w0, cP_some, if_neg (show ¬ k = 128 by omega), if_pos rfl, hT.w1, cP_some, if_neg (show ¬ k = 129 by omega), if_pos rfl, hT.w2, cP_some, if_neg (show ¬ k = 130 by omega), if_pos rfl]
  have one : (¬ k = 134) → gX12_readLine 4999 1 m = (cV (fX12_wrong m (2 : Int32)) fun m8 => (gX12_readLine 4998 2 m8)) := fun e => by
    rw [show (4999 : Nat) = 4998 + 1 from rfl, gX12_readLine, hT.w6, cP_some, if_neg e, if_pos rfl, hT.w7, cP_some, if_neg (show ¬ k = 135 by omega), if_pos rfl]
  rw [pre, show (5000 : Nat) = 4999 + 1 from rfl, gX12_readLine, hT.w3, cP_some, if_neg (show ¬ k = 131 by omega), if_pos rfl, hT.w4, cP_some, hT.w5, cP_some]
  rcases (show w = 0 ∨ w = 1 ∨ w = 2 by omega) with rfl | rfl | rfl
  · rw [if_pos (show k = 132 by omega), if_neg (show ¬ (1 : Int32) = 0 by decide), rd_z (by omega) (by omega), h11, if_neg (show ¬ k = 133 by omega), if_pos rfl, one (by omega)]
    by_cases e : told T 0 = 0
    · rw [if_pos (hz.mpr e)]
      exact ⟨4998, 0, by rw [if_pos e]; rfl⟩
    · rw [if_neg (fun z => e (hz.mp z))]
      exact ⟨0, 4997, by rw [if_neg e]⟩
  · rw [if_neg (show ¬ k = 132 by omega), if_pos rfl, if_pos (show k = 133 by omega), if_neg (show ¬ (1 : Int32) = 0 by decide), rd_1 (by omega) (by omega), h11, one (by omega)]
    by_cases e : told T 1 = 0
    · rw [if_pos (hz.mpr e)]
      exact ⟨4998, 0, by rw [if_pos e]; rfl⟩
    · rw [if_neg (fun z => e (hz.mp z))]
      exact ⟨0, 4997, by rw [if_neg e]⟩
  · rw [if_neg (show ¬ k = 132 by omega), if_pos rfl, if_neg (show ¬ k = 133 by omega), if_pos rfl, show (4999 : Nat) = 4998 + 1 from rfl, gX12_readLine, hT.w6, cP_some, if_pos (show k = 134 by omega), if_neg (show ¬ (1 : Int32) = 0 by decide), rd_2 (by omega) (by omega), h11, hT.w7, cP_some, if_neg (show ¬ k = 135 by omega), if_pos rfl]
    by_cases e : told T 2 = 0
    · rw [if_pos (hz.mpr e)]
      exact ⟨4997, 0, by rw [if_pos e]; rfl⟩
    · rw [if_neg (fun z => e (hz.mp z))]
      exact ⟨0, 4997, by rw [if_neg e]⟩
theorem form_line (h : PI bt L T nms k p n v wd c m) {w : Nat} (hw : w < 3) (hk : k = 132 + w) : LN bt L T c m (fX7_readFormula c (tP T + (12 + 3 * w))) (fX12_readLine m) := by
  obtain ⟨F1, F2, start⟩ := form_start h hw hk
  rw [start]
  have hJ := h.j
  obtain ⟨hB, hT, hP, hC, hM, h0⟩ := h
  have hQ := hP.2.1
  have hun := hP.1.2.2.2.1
  have htd := hP.1.2.2.2.2.2.2.2.2 w hw
  have hfc := (hC.2.2.2.2.2.1 w hw).1
  have hz : nI (told T w) = 0 ↔ told T w = 0 := nI_eq0 (by omega)
  unfold fX7_readFormula
  rw [gFm_ok (by omega), hfc]
  by_cases e : ¬ told T w = 0
  · obtain ⟨c', m', b1, b2, b3, b4, b5, b6, b7⟩ := hJ.no (Q := tP T) (x := 2) (by omega)
    rw [if_neg (fun z => e (hz.mp z)), if_neg e, show fX7_refuse c (2 : Int32) = _ from b1, cI_some, tz_0, show fX12_wrong m (2 : Int32) = _ from b2, cV_some]
    exact Or.inl ⟨c', m', rfl, b4.fin F2, b3, b5, b6⟩
  have e : told T w = 0 := Decidable.not_not.mp e
  have hsz := hC.2.2.2.2.2.2 w hw e
  rw [if_pos (hz.mpr e), if_pos e, pt_eq, pt_eq, pt_eq]
  generalize hc1 : sI (sR (sI c (tP T + (12 + 3 * w)) 3 1) 4 2 (tP T + (12 + 3 * w))) 4 3 0 = c1
  have c1r : ∀ r, r ≠ 4 → r ≠ tP T + (12 + 3 * w) → c1.1 r = c.1 r := fun r x y => by rw [← hc1, sI_oth x, sR_1', sI_oth y]
  have c1l : c1.2.1 = c.2.1 := by rw [← hc1]; rfl
  have hJ1 : PJ bt L k p n v wd c1 m := hJ.keep (c1r 1 (by omega) (by omega)) (c1r 2 (by omega) (by omega)) ⟨by rw [← hc1, sI_row, upd_ne (by omega), sR_1', sI_oth (by omega)], by rw [← hc1, sI_row, upd_ne (by omega), sR_1', sI_oth (by omega)]⟩ (by rw [c1l]) (by rw [c1l]) (fun _ _ => rfl) rfl rfl
  obtain ⟨k2, p2, n2, v2, wd2, c2, m2, a1, a2, a3, a4, a5⟩ := hJ1.adv (by omega)
  have gc2 : GC (tP T) c c2 := by
    refine GC.trans (b := c1) ⟨fun r hr => c1r r hr.2.1 (by omega), fun s _ => by rw [c1r 1 (by omega) (by omega)], fun r _ _ => by rw [c1l], fun r s hrs => ?_⟩ a4.gc
    rw [← hc1, sI_2]
    exact sR_ne (by omega)
  unfold fX12_formula
  rw [a1, cV_some, a2, cV_some, pt_eq, sI_row, upd_at, nar1.1, wr_ok hw (by omega), sI_oth (by omega), sI_row, upd_at, wr_ok hw (by omega), pt_eq, pt_eq, pt_eq]
  generalize hm3 : sI (sI (sI (sI (sI (sI m2 0 21 (nI w)) 11 w 1) 5 w 0) 0 22 0) 0 26 0) 0 25 0 = m3
  have m30 : ∀ s, (s ≠ 21 ∧ s ≠ 22 ∧ s ≠ 25 ∧ s ≠ 26) → m3.1 0 s = m2.1 0 s := fun s x => by rw [← hm3, sI_row, upd_ne x.2.2.1, sI_row, upd_ne x.2.2.2, sI_row, upd_ne x.2.1, sI_oth (by omega), sI_oth (by omega), sI_row, upd_ne x.1]
  have m3r : ∀ r, r ≠ 0 → r ≠ 11 → r ≠ 5 → m3.1 r = m2.1 r := fun r x y z => by rw [← hm3, sI_oth x, sI_oth x, sI_oth x, sI_oth z, sI_oth y, sI_oth x]
  have m311 : m3.1 11 = upd (m2.1 11) w 1 := by rw [← hm3, sI_oth (by omega), sI_oth (by omega), sI_oth (by omega), sI_oth (by omega), sI_row, sI_oth (by omega)]
  have m35 : m3.1 5 = upd (m2.1 5) w 0 := by rw [← hm3, sI_oth (by omega), sI_oth (by omega), sI_oth (by omega), sI_row, sI_oth (by omega), sI_oth (by omega)]
  have m3l : m3.2.1 = m2.2.1 := by rw [← hm3]; rfl
  have hJ3 : PJ bt L k2 p2 n2 v2 wd2 c2 m3 := a3.keep rfl rfl ⟨rfl, rfl⟩ rfl rfl (fun s hs => m30 s (by omega)) (m3r 1 (by omega) (by omega) (by omega)) (by rw [m3l])
  have gm3 : GM m m3 := by
    refine GM.trans (b := m2) a5.gm ⟨fun r hr => m3r r ?_ ?_ ?_, fun s hs => m30 s ?_⟩
    · rintro rfl; exact hr (by simp)
    · rintro rfl; exact hr (by simp)
    · rintro rfl; exact hr (by simp)
    · simp only [List.mem_cons, List.not_mem_nil, or_false, not_or] at hs; omega
  have hm2u : m3.1 0 23 = nI (tun T) := by rw [m30 23 (by omega), a5.2.2.1 23 (by omega)]; exact hM.1.2.2.2.1
  have hFK : FK (tP T) w [] (tun T) 0 c2 := by
    refine ⟨⟨hQ, hw⟩, ?_, ?_, ?_, ?_, ?_, trivial⟩
    · rw [a4.1, ← hc1, sI_2, sR_ne (by omega)]; exact hC.1
    · rw [a4.1, ← hc1, sI_2, sR_at]
    · rw [a4.2.1 _ (by omega), c1r _ (by omega) (by omega)]; exact hC.2.1.2.2.2.1
    · rw [a4.2.1 4 (by omega), ← hc1, sI_row, upd_at]; rfl
    · rw [a4.2.1 _ (by omega), ← hc1, sI_oth (by omega), sR_1', sI_row, upd_ne (by omega)]; exact hsz
  have hFR : FR w [] [] 0 (tun T) 0 m3 := by
    refine ⟨⟨hw, fun x hx => by cases hx⟩, hJ3.2.2, ?_, ?_, trivial, ?_, hm2u, ?_, ?_, trivial, trivial⟩
    · rw [← hm3, sI_row, upd_ne (by omega), sI_row, upd_ne (by omega), sI_row, upd_ne (by omega), sI_oth (by omega), sI_oth (by omega), sI_row, upd_at]
    · rw [← hm3, sI_row, upd_ne (by omega), sI_row, upd_ne (by omega), sI_row, upd_at]; rfl
    · rw [← hm3, sI_row, upd_ne (by omega), sI_row, upd_at]; rfl
    · rw [← hm3, sI_row, upd_at]; rfl
    · rw [m35, upd_at]; rfl
  have hSF : SF bt L (tP T) w [] [] [] 0 (tun T) 0 k2 p2 n2 v2 wd2 c2 m3 := ⟨hJ3.1, hJ3.2.1, hFK, hFR⟩
  have hres := either_all (bt := bt) (L := L) (Q := tP T) (w := w) 10 0 (by omega) (by omega) [] [] [] (tun T) 0 k2 p2 n2 v2 wd2 c2 m3 hSF ⟨by simp, by simp, by simp, by omega, hun⟩ trivial (fun z => by omega) 5000 (by omega)
  have hrun : (cV (fX12_unit m3) fun m10 => (gX12_formula 5000 (1 : Int32) m10)) = runA 5000 5000 m3 := rfl
  rw [hrun]
  rcases hres with ⟨c4, r1, m4, j4, r2, r3, r4, r5, r6⟩ | ⟨c4, k4, o4, r1, m4, j4, P, E, E', Em1, val, p4, n4, v4, wd4, u4, y1, y2, y3, y4, y5, y6, y7, y8, y9, y10⟩
  · have hr := r3 (5000 - j4)
    rw [show 5000 - j4 + j4 = 5000 by omega] at hr
    rw [show fX7_either 10 c2 (0 : Int32) = _ from r1, cI_some, if_pos rfl, show runA 5000 5000 m3 = _ from hr, cV_some]
    have r4' := r4
    obtain ⟨f, q, z1, z2, z3, z4, z5, z6, z7⟩ := r4'
    have hMF : MF f q m4 := ⟨⟨z1, z2, z3⟩, z6, z7⟩
    exact Or.inl ⟨c4, m4, rfl, hMF.fin F1, r4, gc2.trans (r5.gc hQ hw), gm3.trans r6.gm⟩
  have hpl : P.length ≤ 12 := y7.1
  rw [show sC 1 = 1 from rfl, show sM 1 = 1 from rfl] at y6
  rw [List.append_nil] at y3
  rw [List.nil_append] at y3 y4
  have hlen : Em1.length + P.length = E'.length := by
    have := congrArg List.length y4
    rw [List.length_append] at this
    rw [show P.length = (flP P).length by unfold flP; rw [List.length_map]]
    exact this
  obtain ⟨m5, b1, b2, b3⟩ := B_end y3 (by omega) (by omega) (fun x hx => (y7.2 x hx).2) (by omega) (by
    rcases y8 with z | z | z
    · exact Or.inl z
    · by_cases es : sgn k4 = 0
      · exact Or.inl es
      · have := (tgt_ok _ (sgn_few k4 y3.2.1.vk.1 es).1).2.1
        omega
    · exact Or.inr z)
  rw [y4] at b2
  have hr : runA 5000 5000 m3 = some m5 := by
    have h1 := y2 (5000 - j4)
    rw [show 5000 - j4 + j4 = 5000 by omega] at h1
    rw [show runA 5000 5000 m3 = _ from h1, show 5000 - j4 = (4998 - j4) + 2 by omega]
    exact b1 _
  rw [show fX7_either 10 c2 (0 : Int32) = _ from r1, cI_some, if_neg (show ¬ (1 : Int32) = 0 by decide), hr, cV_some]
  have hJ5 : PJ bt L k4 p4 n4 v4 wd4 c4 m5 := ⟨b2.1, b2.2.1, b2.2.2.2.2.1⟩
  have gc4 : GC (tP T) c c4 := gc2.trans (y9.gc hQ hw)
  have gm5 : GM m m5 := gm3.trans (y10.trans b3).gm
  rcases hJ5.fin (Q := tP T) F1 with ⟨ca, ma, x1, x2, x3, x4, x5⟩ | ⟨ka, pa, na, va, wda, ca, ma, x1, x2, x3, x4, x5⟩
  · rw [x1, cI_some, if_pos rfl]
    exact Or.inl ⟨ca, ma, rfl, x2, x3, gc4.trans x4, gm5.trans x5⟩
  rw [x1, cI_some, if_neg (show ¬ (1 : Int32) = 0 by decide)]
  have fm5 := y10.trans b3
  have cr : ∀ r, r ≠ 1 → r ≠ 4 → r ≠ tP T → r ≠ tP T + (12 + 3 * w) → r ≠ tP T + (12 + 3 * w) + 1 → ca.1 r = c.1 r := fun r z1 z2 z3 z4 z5 => by
    rw [x4.2.1 r z1, y9.2.1 r (by simp; omega), a4.2.1 r z1, c1r r z2 z4]
  have cq : ∀ s, s ≠ 18 → ca.1 (tP T) s = c.1 (tP T) s := fun s z => by rw [x4.2.1 _ (by omega), y9.2.2.2.1 s z, a4.2.1 _ (by omega), c1r _ (by omega) (by omega)]
  have hK4 := b2.2.2.1
  have hR5 := b2.2.2.2
  have c18 : ca.1 (tP T) 18 = nI u4 := by rw [x4.2.1 _ (by omega)]; exact hK4.2.2.2.1
  have cf2 : ca.1 (tP T + (12 + 3 * w)) 2 = nI E.length := by rw [x4.2.1 _ (by omega)]; exact hK4.2.2.2.2.2.1
  have cf3 : ca.1 (tP T + (12 + 3 * w)) 3 = 1 := by rw [x4.2.1 _ (by omega), y9.2.2.2.2.1 3 (by omega), a4.2.1 _ (by omega), ← hc1, sI_oth (by omega), sR_1', sI_row, upd_at]
  have cfc : rowIs (ca.1 (tP T + (12 + 3 * w) + 1)) 0 E := by rw [x4.2.1 _ (by omega)]; exact hK4.2.2.2.2.2.2
  have mr : ∀ r, r ∉ [0, 3, 4, 5, 9, 11] → ma.1 r = m.1 r := fun r z => by
    simp only [List.mem_cons, List.not_mem_nil, or_false, not_or] at z
    rw [x5.2.1 r z.1, fm5.1 r (by simp; omega), m3r r z.1 z.2.2.2.2.2 z.2.2.2.1, a5.2.1 r z.1]
  have m0 : ∀ s, (s = 47 ∨ s = 48 ∨ s = 49 ∨ s = 54 ∨ s = 50) → ma.1 0 s = m.1 0 s := fun s z => by rw [x5.2.2.1 s (by omega), fm5.2.1 s (by simp; omega), m30 s (by omega), a5.2.2.1 s (by omega)]
  have m023 : ma.1 0 23 = nI u4 := by rw [x5.2.2.1 23 (by omega)]; exact hR5.2.2.2.2.2.2.1
  have ma11 : ∀ x, ma.1 11 x = upd (m.1 11) w 1 x := fun x => by rw [x5.2.1 11 (by omega), fm5.1 11 (by simp), m311, a5.2.1 11 (by omega)]
  have ma5w : ma.1 5 w = nI E'.length := by rw [x5.2.1 5 (by omega)]; exact hR5.2.2.2.2.2.2.2.2.1
  have ma5 : ∀ x, x ≠ w → ma.1 5 x = m.1 5 x := fun x z => by rw [x5.2.1 5 (by omega), fm5.2.2.1 x z, m35, upd_ne z, a5.2.1 5 (by omega)]
  have ma34 : ∀ x, (x < 320 * w ∨ 320 * w + 320 ≤ x) → ma.1 3 x = m.1 3 x ∧ ma.1 4 x = m.1 4 x := fun x z => by
    rw [x5.2.1 3 (by omega), x5.2.1 4 (by omega), (fm5.2.2.2.1 x z).1, (fm5.2.2.2.1 x z).2, m3r 3 (by omega) (by omega) (by omega), m3r 4 (by omega) (by omega) (by omega), a5.2.1 3 (by omega), a5.2.1 4 (by omega)]
    exact ⟨rfl, rfl⟩
  have mf3 : rowIs (ma.1 3) (320 * w) (E'.map Prod.fst) := by rw [x5.2.1 3 (by omega)]; exact hR5.2.2.2.2.2.2.2.2.2.1
  have mf4 : rowIs (ma.1 4) (320 * w) (E'.map Prod.snd) := by rw [x5.2.1 4 (by omega)]; exact hR5.2.2.2.2.2.2.2.2.2.2
  have cl : ∀ r, r ≠ 1 → ca.2.1 r = c.2.1 r := fun r x => by rw [x4.2.2.2 r x, y9.2.2.2.2.2 r x, a4.2.2.2 r x, c1l]
  have ml : ∀ r, r ≠ 0 → ma.2.1 r = m.2.1 r := fun r x => by rw [x5.2.2.2 r x, fm5.2.2.2.2 r x, m3l, a5.2.2.2 r x]
  have htold : ∀ x, told (up2 (up2 T.1 21 w 1) 20 5 u4, fun x => if x = w then val else T.2 x) x = if x = w then 1 else told T x := fun x => by
    show up2 T.1 21 w 1 21 x = _
    by_cases z : x = w
    · rw [if_pos z, z, up2_at]
    · rw [if_neg z, up2_ne (fun y => z y.2)]
  have hval : ∀ x, (fun x => if x = w then val else T.2 x) x = if x = w then val else T.2 x := fun _ => rfl
  refine Or.inr ⟨(up2 (up2 T.1 21 w 1) 20 5 u4, fun x => if x = w then val else T.2 x), nms, ka, pa, na, va, wda, ca, ma, rfl, x2, ⟨x3.1, x3.2.1, ?_, ?_, ?_, x3.2.2⟩, ⟨rfl, rfl⟩, ?_, gc4.trans x4.gc, gm5.trans x5.gm⟩
  · obtain ⟨⟨g1, g2, g3, g4, g5, g6, g7, g8, g9⟩, w2⟩ := hP
    refine ⟨⟨g1, g2, g3, y1.2.2.2, g5, g6, g7, g8, fun x hx => ?_⟩, w2⟩
    rw [htold]
    by_cases z : x = w
    · rw [if_pos z]; omega
    · rw [if_neg z]; exact g9 x hx
  · obtain ⟨s1', ⟨f1, f2, f3, f4, f5⟩, f7, f8, f9, f10, f11⟩ := hC
    refine ⟨by rw [x4.1]; exact hK4.2.1, ⟨?_, ?_, ?_, c18, ?_⟩, ?_, ?_, ?_, fun x hx => ?_, fun x hx hz0 => ?_⟩
    · exact (cq 0 (by omega)).trans f1
    · exact (cq 5 (by omega)).trans f2
    · exact (cq 10 (by omega)).trans f3
    · exact (cq 14 (by omega)).trans f5
    · intro q hq
      have := f7 q hq
      rw [← cl _ (by omega), ← cr (tP T + 2) (by omega) (by omega) (by omega) (by omega) (by omega), ← cr (tP T + 3) (by omega) (by omega) (by omega) (by omega) (by omega), ← cr (tP T + 4) (by omega) (by omega) (by omega) (by omega) (by omega)] at this
      exact this
    · intro q hq
      have := f8 q hq
      rw [← cr (tP T + 5) (by omega) (by omega) (by omega) (by omega) (by omega), ← cr (tP T + 6) (by omega) (by omega) (by omega) (by omega) (by omega), ← cr (tP T + 7) (by omega) (by omega) (by omega) (by omega) (by omega), ← cr (tP T + 8) (by omega) (by omega) (by omega) (by omega) (by omega)] at this
      exact this
    · intro q hq
      have := f9 q hq
      rw [← cr (tP T + 9) (by omega) (by omega) (by omega) (by omega) (by omega), ← cr (tP T + 10) (by omega) (by omega) (by omega) (by omega) (by omega), ← cr (tP T + 11) (by omega) (by omega) (by omega) (by omega) (by omega)] at this
      exact this
    · rw [htold]
      show ca.1 (tP T + (12 + 3 * x)) 3 = _ ∧ ((if x = w then 1 else told T x) = 1 → ∃ cs : List Int32, cs.length ≤ 120 ∧ ca.1 (tP T + (12 + 3 * x)) 2 = nI cs.length ∧ (∀ i, i < cs.length → ca.1 (tP T + (12 + 3 * x) + 1) i = cs.getD i 0) ∧ depC 30 cs 0 = some 1 ∧ ∀ d h l f, cs.foldl (stepC d h l f) [] = [(if x = w then val else T.2 x) d h l f])
      by_cases z : x = w
      · rw [if_pos z, if_pos z, z]
        refine ⟨cf3, fun _ => ⟨E, by omega, cf2, fun i hi => ?_, ?_, fun d h l f => y5.1 d h l f []⟩⟩
        · have := rowIs_get cfc hi
          rw [Nat.zero_add] at this
          exact this
        · have := y5.2.2.1 30 [] 0 (by omega)
          rw [List.append_nil] at this
          rw [this]; rfl
      · rw [if_neg z, if_neg z, cr (tP T + (12 + 3 * x)) (by omega) (by omega) (by omega) (by omega) (by omega), cr (tP T + (12 + 3 * x) + 1) (by omega) (by omega) (by omega) (by omega) (by omega)]
        exact f10 x hx
    · rw [htold] at hz0
      show ca.1 (tP T + (12 + 3 * x)) 2 = 0
      by_cases z : x = w
      · rw [if_pos z] at hz0; omega
      · rw [if_neg z] at hz0
        rw [cr (tP T + (12 + 3 * x)) (by omega) (by omega) (by omega) (by omega) (by omega)]
        exact f11 x hx hz0
  · obtain ⟨⟨g1, g2, g3, g4, g5, g6⟩, g7, g8, g9, g10⟩ := hM
    refine ⟨⟨(m0 47 (by omega)).trans g1, (m0 48 (by omega)).trans g2, (m0 49 (by omega)).trans g3, m023, (m0 54 (by omega)).trans g5, (m0 50 (by omega)).trans g6⟩, ?_, ?_, ?_, fun x hx => ?_⟩
    · intro q hq
      have := g7 q hq
      rw [← ml 2 (by omega), ← mr 14 (by simp), ← mr 15 (by simp), ← mr 16 (by simp)] at this
      exact this
    · intro q hq
      have := g8 q hq
      rw [← mr 19 (by simp), ← mr 20 (by simp), ← mr 21 (by simp), ← mr 22 (by simp)] at this
      exact this
    · intro q hq
      have := g9 q hq
      rw [← mr 27 (by simp), ← mr 28 (by simp), ← mr 29 (by simp)] at this
      exact this
    · rw [htold, ma11]
      show _ ∧ ((if x = w then 1 else told T x) = 1 → ∃ cs : List (Int32 × Int32), cs.length ≤ 320 ∧ ma.1 5 x = nI cs.length ∧ (∀ i, i < cs.length → ma.1 3 (320 * x + i) = (cs.getD i (0, 0)).1 ∧ ma.1 4 (320 * x + i) = (cs.getD i (0, 0)).2) ∧ depM 60 cs 0 = some 1 ∧ ∀ d h l f, cs.foldl (stepM d h l f) [] = [(if x = w then val else T.2 x) d h l f])
      by_cases z : x = w
      · rw [if_pos z, if_pos z, z, upd_at]
        refine ⟨rfl, fun _ => ⟨E', by omega, ma5w, fun i hi => ?_, ?_, fun d h l f => y5.2.1 d h l f []⟩⟩
        · have t3 := rowIs_get mf3 (j := i) (by rw [List.length_map]; exact hi)
          have t4 := rowIs_get mf4 (j := i) (by rw [List.length_map]; exact hi)
          rw [t3, t4, List.getD_eq_getElem?_getD, List.getD_eq_getElem?_getD, List.getD_eq_getElem?_getD, List.getElem?_map, List.getElem?_map, List.getElem?_eq_getElem hi]
          exact ⟨rfl, rfl⟩
        · have := y5.2.2.2 60 [] 0 (by omega)
          rw [List.append_nil] at this
          rw [this]; rfl
      · rw [if_neg z, if_neg z, upd_ne z, ma5 x z]
        obtain ⟨q1, q2⟩ := g10 x hx
        refine ⟨q1, fun hq => ?_⟩
        obtain ⟨cs, l1, l2, l3, l4⟩ := q2 hq
        refine ⟨cs, l1, l2, fun i hi => ?_, l4⟩
        obtain ⟨t3, t4⟩ := ma34 (320 * x + i) (by omega)
        rw [t3, t4]
        exact l3 i hi
  · unfold mu
    rw [htold, htold, htold]
    show tnp T + tnm T + tnn T + fb_sm (fun p => T.1 23 p) (tnp T) + _ + _ + _ + T.1 20 7 = _
    rcases (show w = 0 ∨ w = 1 ∨ w = 2 by omega) with rfl | rfl | rfl
    · rw [if_pos rfl, if_neg (by omega), if_neg (by omega), e]; omega
    · rw [if_neg (by omega), if_pos rfl, if_neg (by omega), e]; omega
    · rw [if_neg (by omega), if_neg (by omega), if_pos rfl, e]; omega
end
