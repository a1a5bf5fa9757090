/-! ===== a town is told ===== -/
theorem o_town : Ob_town Rl := by
  intro mC mM hR
  obtain ⟨T, h1, h2, h3, h4, h5, h6, h7, h8, h9, h10, h11, h12, h13, h14⟩ := id hR
  have hPQ := h2.1
  obtain ⟨tp, bt, t1, t2, t3, t4⟩ := id h12
  obtain ⟨r, c1, m1, a1, a2, a3, a4, a5, a6⟩ := read_both (P := tQ T) (Q := tP T) (c := mC) (m := mM) (L := tp) (bt := bt) (by omega) h2.2.2.1 t1 t2 t3 t4 h14.1
  have hP5 : tP T = 5 ∨ tP T = 32 := by omega
  have hQ5 : tQ T = 5 ∨ tQ T = 32 := by omega
  have hdis : ∀ k, k < 21 → tP T + k < tQ T ∨ tQ T + 21 ≤ tP T + k := fun k hk => by omega
  have cr : ∀ r, (r ≠ 1 ∧ r ≠ 4 ∧ (r < tQ T ∨ tQ T + 21 ≤ r)) → c1.1 r = mC.1 r := a3.1
  have cp : ∀ k, k < 21 → c1.1 (tP T + k) = mC.1 (tP T + k) := fun k hk => cr _ ⟨by omega, by omega, hdis k hk⟩
  have mr : ∀ r, r ∉ [0, 3, 4, 5, 9, 11, 14, 15, 16, 19, 20, 21, 22, 27, 28, 29] → m1.1 r = mM.1 r := a4.1
  have m0 : ∀ s, s ∉ [1, 2, 3, 4, 5, 6, 7, 8, 21, 22, 23, 25, 26, 47, 48, 49, 50, 54] → m1.1 0 s = mM.1 0 s := a4.2
  unfold fX11_town fX12_town
  rw [a1, cI_some, pt_eq, a2, cV_some]
  rcases a6 with ⟨er, hb⟩ | ⟨er, T', nms, hPT, hPC, hPM, eP, eQ, f1, f2, f3, f4⟩
  · -- refused
    obtain ⟨x, q, z1, z2, z3, z4, z5, z6, z7⟩ := hb
    have hMF : MF x q m1 := ⟨⟨z1, z2, z3⟩, z6, z7⟩
    rw [er, if_pos rfl, if_neg hMF.pos.2]
    refine ⟨_, _, _, rfl, rfl, T, h1, ?_, ?_, ?_, ?_, ?_, ?_, ?_, ?_, ?_, ?_, ?_, ?_, ?_⟩
    · obtain ⟨g1, g2, g3, g4, g5, g6, g7, g8, g9, g10⟩ := h2
      have cq : ∀ k, k < 21 → (sI c1 1 1 0).1 (tP T + k) = mC.1 (tP T + k) := fun k hk => by rw [sI_oth (by omega), cp k hk]
      have cq0 : (sI c1 1 1 0).1 (tP T) = mC.1 (tP T) := cq 0 (by omega)
      refine ⟨g1, ?_, ?_, by rw [cq0]; exact g4, by rw [cq0]; exact g5, by rw [cq0]; exact g6, by rw [cq0]; exact g7, ?_, ?_, ?_⟩
      · rw [sI_2, a3.2.2.2 26 1 (by omega)]; exact g2
      · rw [sI_2, a3.2.2.2 4 1 (by omega)]; exact g3
      · rw [cq 2 (by omega), cq 4 (by omega)]; exact g8
      · rw [cq 5 (by omega), cq 6 (by omega), cq 7 (by omega), cq 8 (by omega)]; exact g9
      · rw [cq 9 (by omega), cq 10 (by omega), cq 11 (by omega)]; exact g10
    · exact h3.keep (fun k hk => m0 k (by simp; omega)) (fun r hr => mr r (by simp; omega))
    · exact h4.keep h2 (fun w hw => ⟨by rw [sI_oth (by omega), cp _ (by omega)], by rw [sI_oth (by omega), show tP T + (12 + 3 * w) + 1 = tP T + (13 + 3 * w) by omega, cp _ (by omega)]⟩)
    · exact h5.keep (fun r hr => mr r (by simp; omega))
    · exact h6.keep (fun r hr => by rw [sI_oth (by omega), cr r (by omega)])
    · exact h7.keep (fun r hr => by rw [sI_oth (by omega), cr r (by omega)]) (mr 33 (by simp))
    · exact h8.keep ⟨by rw [sI_oth (by omega), cr 56 (by omega)], by rw [sI_oth (by omega), cr 57 (by omega)]⟩ ⟨m0 60 (by simp), m0 61 (by simp)⟩ ⟨mr 33 (by simp), mr 37 (by simp)⟩
    · exact h9.keep ⟨by rw [sI_oth (by omega), cr 65 (by omega)], by rw [sI_oth (by omega), cr 65 (by omega)]⟩ (fun r hr => by rw [sI_oth (by omega), cr r (by omega)]) ⟨m0 69 (by simp), m0 70 (by simp)⟩ (fun r hr => mr r (by simp; omega))
    · exact h10.keep ⟨by rw [sI_oth (by omega), cr 0 (by omega)], by rw [sI_oth (by omega), cr 73 (by omega)]⟩ ⟨m0 63 (by simp), mr 38 (by simp)⟩
    · exact h11.keep ⟨by rw [sI_oth (by omega), cr 0 (by omega)], by rw [sI_oth (by omega), cr 72 (by omega)]⟩ ⟨mr 46 (by simp), mr 47 (by simp)⟩
    · exact ⟨0, fun _ => 0, by omega, by rw [sI_row, upd_at]; rfl, a5, fun i hi => absurd hi (Nat.not_lt_zero i)⟩
    · exact ⟨by rw [sI_oth (by omega), z4, z6], by rw [sI_oth (by omega), z5, z7]⟩
    · exact h14.keep (by rw [sI_2]; exact a3.2.2.1 3 (by omega) (by omega)) (by rw [sI_oth (by omega), cr 63 (by omega)]) (by rw [sI_oth (by omega), cr 64 (by omega)])
  · -- taken
    have hnp := hPT.1.1
    rw [er, if_neg (show ¬ (1 : Int32) = 0 by decide), if_pos (show m1.1 0 2 ≤ 0 by rw [f3]; decide), pt_eq, pt_eq, pt_eq, pt_eq]
    generalize hm7 : sI (sI (sI (sI m1 0 51 (m1.1 0 47)) 0 52 ((sI m1 0 51 (m1.1 0 47)).1 0 48)) 0 53 ((sI (sI m1 0 51 (m1.1 0 47)) 0 52 ((sI m1 0 51 (m1.1 0 47)).1 0 48)).1 0 49)) 0 24 ((sI (sI (sI m1 0 51 (m1.1 0 47)) 0 52 ((sI m1 0 51 (m1.1 0 47)).1 0 48)) 0 53 ((sI (sI m1 0 51 (m1.1 0 47)) 0 52 ((sI m1 0 51 (m1.1 0 47)).1 0 48)).1 0 49)).1 0 23) = m7
    have m70 : m7.1 0 = upd (upd (upd (upd (m1.1 0) 51 (m1.1 0 47)) 52 (m1.1 0 48)) 53 (m1.1 0 49)) 24 (m1.1 0 23) := by
      rw [← hm7]
      simp only [sI_row]
      rw [upd_ne (show (48 : Nat) ≠ 51 by omega), upd_ne (show (49 : Nat) ≠ 52 by omega), upd_ne (show (49 : Nat) ≠ 51 by omega), upd_ne (show (23 : Nat) ≠ 53 by omega), upd_ne (show (23 : Nat) ≠ 52 by omega), upd_ne (show (23 : Nat) ≠ 51 by omega)]
    have m7r : ∀ r, r ≠ 0 → m7.1 r = m1.1 r := fun r x => by rw [← hm7, sI_oth x, sI_oth x, sI_oth x, sI_oth x]
    have m7s : ∀ s, s ≠ 51 → s ≠ 52 → s ≠ 53 → s ≠ 24 → m7.1 0 s = m1.1 0 s := fun s x1 x2 x3 x4 => by rw [m70, upd_ne x4, upd_ne x3, upd_ne x2, upd_ne x1]
    obtain ⟨p1, p2, p3, p4, p5, p6⟩ := hPM.1
    have hPM7 : PM T' nms m7 := hPM.gl (fun s hs => m7s s (by omega) (by omega) (by omega) (by omega)) (by rw [← hm7]; rfl) (fun r hr => m7r r (by rintro rfl; simp at hr))
    obtain ⟨m8, s1, s2, s3, s4, s5, s6, s7, s8, s9, s10, s11⟩ := m_settle hPT hPM7 (by rw [m70, upd_ne (by omega), upd_ne (by omega), upd_ne (by omega), upd_at]; exact p1) (by rw [m70, upd_ne (by omega), upd_ne (by omega), upd_at]; exact p2) (by rw [m70, upd_ne (by omega), upd_at]; exact p3) (by rw [m70, upd_at]; exact p4)
    rw [s1]
    obtain ⟨q1, q2, q3, q4, q5, q6⟩ := id hPC
    rw [eP] at q1 q2 q3 q4 q5
    obtain ⟨rw_, a, u, u1, u2, u3, u4, u5, u6, u7, u8, u9, u10⟩ := id h8
    -- the class
    unfold fX7_giveFor fX9_settle fX8_begin
    rw [pt_eq, cR_some, pt_eq, pt_eq, pt_eq]
    have e26 : (sI c1 1 1 0).2.2 26 1 = tP T := by rw [sI_2, a3.2.2.2 26 1 (by omega)]; exact h2.2.1
    have e41 : (sI c1 1 1 0).2.2 4 1 = tQ T := by rw [sI_2]; exact q1
    rw [e26, e41, gPl_ok hQ5]
    generalize hd3 : fil (sI (sR (sR (sI c1 1 1 0) 4 1 (tP T)) 26 1 (tQ T)) 53 0 (-1)) 55 365 0 = d3
    have d3r : ∀ r, r ≠ 1 → r ≠ 53 → r ≠ 55 → d3.1 r = c1.1 r := fun r x1 x2 x3 => by rw [← hd3]; unfold fil; rw [sW_oth x3, sI_oth x2, sR_1', sR_1', sI_oth x1]
    have d355 : ∀ d, d < 365 → d3.1 55 d = 0 := fun d hd => by rw [← hd3]; unfold fil; rw [sW_row]; exact if_pos hd
    have d353 : d3.1 53 0 = -1 := by rw [← hd3]; unfold fil; rw [sW_oth (by omega), sI_row, upd_at]
    have d31 : d3.1 1 = upd (c1.1 1) 1 0 := by rw [← hd3]; unfold fil; rw [sW_oth (by omega), sI_oth (by omega), sR_1', sR_1', sI_row]
    have d3l : d3.2.1 = c1.2.1 := by rw [← hd3]; rfl
    have d326 : d3.2.2 26 1 = tQ T := by rw [← hd3]; unfold fil; rw [sW_2, sI_2, sR_at]
    have d34 : d3.2.2 4 1 = tP T := by rw [← hd3]; unfold fil; rw [sW_2, sI_2, sR_ne (by omega), sR_at]
    rw [show (cpy d3 (tQ T + 3) 7 28 7 (0 : Int32) (0 : Int32) (7 : Int32) : (Mem → Option Mem) → Option Mem) = fun K => K (sW d3 28 (va_cpy (d3.1 (tQ T + 3)) (d3.1 28) 0 0 7)) from funext fun K => cpy_ok (sp := 0) (dp := 0) (n := 7) (by omega) (by omega) (by omega) (by omega)]
    dsimp only
    rw [pt_eq, pt_eq, pt_eq, pt_eq, pt_eq, pt_eq, cV_some]
    generalize hd4 : fil (fil (fil (sW d3 28 (va_cpy (d3.1 (tQ T + 3)) (d3.1 28) 0 0 7)) 29 7 0) 30 10 0) 31 10 0 = d4
    have d4r : ∀ r, (r < 28 ∨ 31 < r) → d4.1 r = d3.1 r := fun r x => by rw [← hd4]; unfold fil; rw [sW_oth (by omega), sW_oth (by omega), sW_oth (by omega), sW_oth (by omega)]
    have d428 : ∀ i, i < 7 → d4.1 28 i = d3.1 (tQ T + 3) i := fun i hi => by
      rw [← hd4]; unfold fil; rw [sW_oth (by omega), sW_oth (by omega), sW_oth (by omega), sW_row]
      unfold va_cpy
      rw [if_pos (by omega), Nat.zero_add, Nat.sub_zero]
    have d429 : ∀ i, i < 7 → d4.1 29 i = 0 := fun i hi => by
      rw [← hd4]; unfold fil; rw [sW_oth (by omega), sW_oth (by omega), sW_row]
      exact if_pos hi
    have d430 : ∀ i, i < 10 → d4.1 30 i = 0 := fun i hi => by
      rw [← hd4]; unfold fil; rw [sW_oth (by omega), sW_row]
      exact if_pos hi
    have d431 : ∀ i, i < 10 → d4.1 31 i = 0 := fun i hi => by
      rw [← hd4]; unfold fil; rw [sW_row]
      exact if_pos hi
    have d4l : d4.2 = d3.2 := by rw [← hd4]; rfl
    rw [sI_oth (show tQ T ≠ 27 by omega), sI_oth (show tQ T ≠ 27 by omega), d4r (tQ T) (by omega), d3r (tQ T) (by omega) (by omega) (by omega), q2.2.2.2.2]
    generalize hd5 : sI (sI (sI d4 27 4 0) 27 5 0) 27 6 (imax (dtI T') 0) = d5
    have d5r : ∀ r, r ≠ 27 → d5.1 r = d4.1 r := fun r x => by rw [← hd5, sI_oth x, sI_oth x, sI_oth x]
    have d527 : d5.1 27 = upd (upd (upd (d4.1 27) 4 0) 5 0) 6 (imax (dtI T') 0) := by rw [← hd5, sI_row, sI_row, sI_row]
    have d5l : d5.2 = d4.2 := by rw [← hd5]; rfl
    have d5a : ∀ r, r ≠ 1 → r ≠ 53 → r ≠ 55 → (r < 27 ∨ 31 < r) → d5.1 r = c1.1 r := fun r x1 x2 x3 x4 => by rw [d5r r (by omega), d4r r (by omega), d3r r x1 x2 x3]
    obtain ⟨d6, w1, w2, w3, w4, w5, w6⟩ := c_forget (m := d5) u1 (by rw [d5a 56 (by omega) (by omega) (by omega) (by omega), cr 56 (by omega)]; exact u3)
    rw [cV_some, w1, cV_some]
    unfold fX5_forgetAll
    rw [pt_eq, cV_some, pt_eq, pt_eq]
    generalize hd7 : sI (sI (sI d6 65 0 0) 0 9 0) 0 7 0 = d7
    have d7l : d7.2 = d3.2 := by rw [← hd7, sI_2, sI_2, sI_2, w2.1, d5l, d4l]
    have d7r : ∀ r, r ≠ 0 → r ≠ 65 → d7.1 r = d6.1 r := fun r x1 x2 => by rw [← hd7, sI_oth x1, sI_oth x1, sI_oth x2]
    have d7a : ∀ r, r ≠ 0 → r ≠ 1 → r ≠ 53 → r ≠ 55 → r ≠ 56 → r ≠ 57 → r ≠ 65 → (r < 27 ∨ 31 < r) → d7.1 r = c1.1 r := fun r x1 x2 x3 x4 x5 x6 x7 x8 => by rw [d7r r x1 x7, w2.2 r (by simp; omega), d5a r x2 x3 x4 x8]
    have d7Q : ∀ k, k < 21 → d7.1 (tQ T + k) = c1.1 (tQ T + k) := fun k hk => d7a _ (by omega) (by omega) (by omega) (by omega) (by omega) (by omega) (by omega) (by omega)
    have d7Q0 : d7.1 (tQ T) = c1.1 (tQ T) := d7Q 0 (by omega)
    rw [show d7.2.2 26 1 = tQ T by rw [d7l]; exact d326, gPl_ok hQ5, d7Q0, q2.1]
    have hcS : cSt d7 = cSt d5 := cSt.keep (fun r hr => by rw [d7r r (by omega) (by omega), w2.2 r (by simp; omega)])
    have hdt : imax (dtI T') 0 = nI (T'.1 20 6) := by
      obtain ⟨x1, x2, x3⟩ := hPT.2.2.2.2.2
      unfold dtI imax
      by_cases z : T'.1 20 7 = 0
      · rw [if_pos z, if_pos (by decide), x3 z]; rfl
      · rw [if_neg z, if_neg (nI_lt0 (by omega))]
    have hrow : ∀ i, i < 37 → (i < tnp T' ∨ 7 ≤ i) → cSt d5 i = m8.1 33 i := fun i hi hx => by
      rw [s11 i hi]
      unfold cSt
      by_cases y1 : i < 7
      · rw [if_pos y1, if_pos (by omega), d5r 28 (by omega), d428 i y1, d3r _ (by omega) (by omega) (by omega)]
        exact (q3 i (by omega)).2.2.1
      rw [if_neg y1, if_neg (show ¬ i < tnp T' by omega)]
      by_cases y2 : i < 14
      · rw [if_pos y2, if_neg (by omega), d5r 29 (by omega)]; exact d429 _ (by omega)
      rw [if_neg y2]
      by_cases y3 : i < 24
      · rw [if_pos y3, if_neg (by omega), d5r 30 (by omega)]; exact d430 _ (by omega)
      rw [if_neg y3]
      by_cases y4 : i < 34
      · rw [if_pos y4, if_neg (by omega), d5r 31 (by omega)]; exact d431 _ (by omega)
      rw [if_neg y4, d527, hdt]
      rcases (show i = 34 ∨ i = 35 ∨ i = 36 by omega) with rfl | rfl | rfl
      · rfl
      · rfl
      · rfl
    have hok : stOK (tnp T') (m8.1 33) := by
      refine ⟨fun p hp => ⟨T'.1 22 p, (hPT.2.2.2.2.1 p hp).1, by rw [s11 p (by omega), if_pos hp]⟩, ⟨0, Nat.two_pow_pos _, by rw [s11 34 (by omega), if_neg (by omega), if_neg (by omega)]; rfl⟩, ⟨0, by omega, by rw [s11 35 (by omega), if_neg (by omega), if_neg (by omega)]; rfl⟩, ⟨T'.1 20 6, by have := hPT.2.2.2.2.2.2.1; omega, by rw [s11 36 (by omega), if_neg (by omega), if_pos rfl]⟩⟩
    refine ⟨_, _, _, rfl, rfl, T', hPT.1, ?_, s4, ?_, s5, ?_, ⟨?_, hok⟩, ?_, ?_, ?_, ?_, ?_, ?_, ?_⟩
    · refine ⟨by rw [eP, eQ]; omega, by rw [d7l, eP]; exact d326, by rw [d7l, eQ]; exact d34, ?_⟩
      rw [eP, d7Q0, d7Q 2 (by omega), d7Q 4 (by omega), d7Q 5 (by omega), d7Q 6 (by omega), d7Q 7 (by omega), d7Q 8 (by omega), d7Q 9 (by omega), d7Q 10 (by omega), d7Q 11 (by omega)]
      refine ⟨q2.1, q2.2.1, q2.2.2.1, q2.2.2.2.1, fun p hp => ?_, q4, q5⟩
      obtain ⟨y1, y2, y3, y4⟩ := q3 p hp
      refine ⟨y2, ?_⟩
      rw [y4]
      unfold wkI imax
      by_cases z : T'.1 23 p = 0
      · rw [if_pos z, if_pos (by decide), (hPT.2.2.2.2.1 p hp).2.2 z]; rfl
      · rw [if_neg z, if_neg (nI_lt0 (by have := (hPT.1.2.2.2.2.1 p hp).2; omega))]
    · intro w hw
      have := q6.1 w hw
      have e13 : tQ T + (12 + 3 * w) + 1 = tQ T + (13 + 3 * w) := by omega
      rw [eP, e13] at this ⊢
      rw [d7Q _ (by omega), d7Q _ (by omega)]
      exact this
    · refine ⟨fun d hd => Or.inl ?_, Or.inl ?_⟩
      · rw [d7r 55 (by omega) (by omega), w2.2 55 (by simp), d5r 55 (by omega), d4r 55 (by omega)]
        exact d355 d hd
      · rw [d7r 53 (by omega) (by omega), w2.2 53 (by simp), d5r 53 (by omega), d4r 53 (by omega)]
        exact d353
    · intro i hi hx
      rw [hcS]
      exact hrow i hi hx
    · refine ⟨rw_, 0, 0, u1, by omega, ?_, ?_, ?_, s6, s7, ?_, fun j hj => absurd hj (Nat.not_lt_zero j), fun j hj => absurd hj (Nat.not_lt_zero j)⟩
      · rw [d7r 56 (by omega) (by omega)]; exact w3
      · rw [d7r 56 (by omega) (by omega)]; exact w4
      · rw [d7r 56 (by omega) (by omega)]; exact w5
      · intro i hi hx
        rw [d7r 57 (by omega) (by omega), w6, rowAt_same hi]
        exact hrow i hi hx
    · obtain ⟨ct, tm, l1, l2, l3, l4, l5, l6, l7⟩ := id h9
      refine ⟨0, tm, by omega, l2, ?_, s9, ?_, ?_, fun i hi => absurd hi (Nat.not_lt_zero i)⟩
      · rw [← hd7, sI_oth (by omega), sI_oth (by omega), sI_row, upd_at]; rfl
      · rw [← hd7, sI_oth (by omega), sI_oth (by omega), sI_row, upd_ne (by omega), w2.2 65 (by simp), d5a 65 (by omega) (by omega) (by omega) (by omega), cr 65 (by omega)]; exact l5
      · rw [s3 70 (by simp), m7s 70 (by omega) (by omega) (by omega) (by omega), m0 70 (by simp)]; exact l6
    · exact ⟨0, by omega, by rw [← hd7, sI_row, upd_ne (by omega), sI_row, upd_at]; rfl, s8, fun i hi => absurd hi (Nat.not_lt_zero i)⟩
    · refine ⟨0, by omega, by rw [← hd7, sI_row, upd_at]; rfl, fun b hb => ⟨?_, fun z => ?_⟩⟩
      · rw [s10 b hb, Nat.zero_div]; rfl
      · rw [Nat.zero_div] at z; omega
    · refine ⟨0, fun _ => 0, by omega, ?_, ?_, fun i hi => absurd hi (Nat.not_lt_zero i)⟩
      · rw [d7r 1 (by omega) (by omega), w2.2 1 (by simp), d5r 1 (by omega), d4r 1 (by omega), d31, upd_at]; rfl
      · rw [s3 1 (by simp), m7s 1 (by omega) (by omega) (by omega) (by omega)]; exact a5
    · rw [RF, d7a 4 (by omega) (by omega) (by omega) (by omega) (by omega) (by omega) (by omega) (by omega), s3 2 (by simp), s3 3 (by simp), m7s 2 (by omega) (by omega) (by omega) (by omega), m7s 3 (by omega) (by omega) (by omega) (by omega), f1, f2, f3, f4]
      exact ⟨rfl, rfl⟩
    · exact h14.keep (by rw [d7l, d3l]; exact a3.2.2.1 3 (by omega) (by omega)) (by rw [d7a 63 (by omega) (by omega) (by omega) (by omega) (by omega) (by omega) (by omega) (by omega), cr 63 (by omega)]) (by rw [d7a 64 (by omega) (by omega) (by omega) (by omega) (by omega) (by omega) (by omega) (by omega), cr 64 (by omega)])
