/-! ===== lines: meet ===== -/
def teq (A B a b : Nat) : Bool := decide (A = B) || decide (a = b) || (decide (2 ^ A ||| 2 ^ B = 2 ^ a ||| 2 ^ b) == (decide (A = a ∧ B = b) || decide (A = b ∧ B = a)))
theorem teq_all : ∀ x, x < 2401 → teq (x / 343) (x / 49 % 7) (x / 7 % 7) (x % 7) = true := by decide +kernel
theorem two_eq (A : Nat) (h1 : A < 7) (B : Nat) (h2 : B < 7) (a : Nat) (h3 : a < 7) (b : Nat) (h4 : b < 7) (h5 : ¬ A = B) (h6 : ¬ a = b) : (2 ^ A ||| 2 ^ B = 2 ^ a ||| 2 ^ b ↔ (A = a ∧ B = b) ∨ (A = b ∧ B = a)) := by
  have h := teq_all (A * 343 + B * 49 + a * 7 + b) (by omega)
  rw [show (A * 343 + B * 49 + a * 7 + b) / 343 = A by omega, show (A * 343 + B * 49 + a * 7 + b) / 49 % 7 = B by omega, show (A * 343 + B * 49 + a * 7 + b) / 7 % 7 = a by omega, show (A * 343 + B * 49 + a * 7 + b) % 7 = b by omega] at h
  unfold teq at h
  rw [decide_eq_false h5, decide_eq_false h6, Bool.false_or, Bool.false_or, beq_iff_eq, ← Bool.decide_or] at h
  exact decide_eq_decide.mp h
theorem two_lt : ∀ A, A < 7 → ∀ B, B < 7 → 2 ^ A ||| 2 ^ B < 128 := by decide +kernel
section
variable {bt : Nat → Nat} {L : Nat} {T : Tn} {nms : Nat → List Nat} {k p n v : Nat} {wd : List Nat} {c m : Mem} {Q : Nat}
def isMt (T : Tn) (a b q : Nat) : Prop := (tA T q = a ∧ tB T q = b) ∨ (tA T q = b ∧ tB T q = a)
theorem isMt_d (T : Tn) (a b q : Nat) : isMt T a b q ∨ ¬ isMt T a b q := by unfold isMt; omega
theorem mt_c (hP : PT T nms) (hC : PC T nms c) {a b : Nat} (ha : a < tnp T) (hb : b < tnp T) (hab : ¬ a = b) : ((∃ q, q < tnm T ∧ isMt T a b q) ∧ fX6_hasMeetOf c (tP T) (nI a) (nI b) = some 1) ∨ ((∀ q, q < tnm T → ¬ isMt T a b q) ∧ fX6_hasMeetOf c (tP T) (nI a) (nI b) = some 0) := by
  have h7 := hP.1.1
  have h10 := hP.1.2.1
  have key : ∀ (j s : Nat), s + j = tnm T → ∀ f, j < f → (∀ q, q < s → ¬ isMt T a b q) → ((∃ q, q < tnm T ∧ isMt T a b q) ∧ gX6_hasMeetOf c f (tP T) (nI a) (nI b) (nI s) = some 1) ∨ ((∀ q, q < tnm T → ¬ isMt T a b q) ∧ gX6_hasMeetOf c f (tP T) (nI a) (nI b) (nI s) = some 0) := by
    intro j
    induction j with
    | zero =>
      intro s hs f hf hq
      obtain ⟨f, rfl⟩ : ∃ g, f = g + 1 := ⟨f - 1, by omega⟩
      refine Or.inr ⟨fun q hq2 => hq q (by omega), ?_⟩
      rw [gX6_hasMeetOf, gPl_ok hP.2.1, hC.2.1.2.1, if_pos (nI_le (by omega) (by omega))]
    | succ j ih =>
      intro s hs f hf hq
      obtain ⟨f, rfl⟩ : ∃ g, f = g + 1 := ⟨f - 1, by omega⟩
      obtain ⟨e1, e2, -⟩ := hC.2.2.2.1 s (by omega)
      obtain ⟨n1, n2, n3, -⟩ := hP.1.2.2.2.2.2.1 s (by omega)
      have hbo : fX6_bothOf c (tP T) (nI s) = some (nI (2 ^ tA T s ||| 2 ^ tB T s)) := by
        unfold fX6_bothOf
        rw [gPl_ok hP.2.1, rd_ok (by omega) (by omega), e1, rd_ok (by omega) (by omega), e2, sh_pow _ (by omega), sh_pow _ (by omega), fa_or]
      have l1 := two_lt (tA T s) (by omega) (tB T s) (by omega)
      have l2 := two_lt a (by omega) b (by omega)
      rw [gX6_hasMeetOf, gPl_ok hP.2.1, hC.2.1.2.1, if_neg (nI_ge (by omega) (by omega)), hbo, cP_some, sh_pow _ (by omega), sh_pow _ (by omega), fa_or, nI_1]
      rcases isMt_d T a b s with y | y
      · rw [if_pos (by rw [(two_eq _ (by omega) _ (by omega) a (by omega) b (by omega) n3 hab).mpr y])]
        exact Or.inl ⟨⟨s, by omega, y⟩, rfl⟩
      · rw [if_neg (fun z => y ((two_eq _ (by omega) _ (by omega) a (by omega) b (by omega) n3 hab).mp ((nI_eq (by omega) (by omega)).mp z)))]
        exact ih (s + 1) (by omega) f (by omega) (fun q hq2 => by
          by_cases z : q = s
          · rw [z]; exact y
          · exact hq q (by omega))
  exact key (tnm T) 0 (by omega) 5000 (by omega) (fun q hq => by omega)
theorem mt_m (hP : PT T nms) (hM : PM T nms m) {a b : Nat} (ha : a < tnp T) (hb : b < tnp T) : ((∃ q, q < tnm T ∧ isMt T a b q) → fX12_isMeetTold m (nI a) (nI b) = some 1) ∧ ((∀ q, q < tnm T → ¬ isMt T a b q) → fX12_isMeetTold m (nI a) (nI b) = some 0) := by
  have h7 := hP.1.1
  have h10 := hP.1.2.1
  have yes : ∀ (j s : Nat), s + j = tnm T → ∀ f, j < f → gX12_isMeetTold m f (nI a) (nI b) 1 (nI s) = some 1 := by
    intro j
    induction j with
    | zero =>
      intro s hs f hf
      obtain ⟨f, rfl⟩ : ∃ g, f = g + 1 := ⟨f - 1, by omega⟩
      rw [gX12_isMeetTold, hM.1.2.1, if_pos (nI_le (by omega) (by omega)), tz_1]
    | succ j ih =>
      intro s hs f hf
      obtain ⟨f, rfl⟩ : ∃ g, f = g + 1 := ⟨f - 1, by omega⟩
      rw [gX12_isMeetTold, hM.1.2.1, if_neg (nI_ge (by omega) (by omega)), if_neg (show ¬ (1 : Int32) = 0 by decide), nI_1]
      exact ih (s + 1) (by omega) f (by omega)
  have key : ∀ (j s : Nat), s + j = tnm T → ∀ f, j < f → ((∃ q, s ≤ q ∧ q < tnm T ∧ isMt T a b q) → gX12_isMeetTold m f (nI a) (nI b) 0 (nI s) = some 1) ∧ ((∀ q, s ≤ q → q < tnm T → ¬ isMt T a b q) → gX12_isMeetTold m f (nI a) (nI b) 0 (nI s) = some 0) := by
    intro j
    induction j with
    | zero =>
      intro s hs f hf
      obtain ⟨f, rfl⟩ : ∃ g, f = g + 1 := ⟨f - 1, by omega⟩
      refine ⟨fun ⟨q, a, b, _⟩ => by omega, fun _ => ?_⟩
      rw [gX12_isMeetTold, hM.1.2.1, if_pos (nI_le (by omega) (by omega)), tz_0]
    | succ j ih =>
      intro s hs f hf
      obtain ⟨f, rfl⟩ : ∃ g, f = g + 1 := ⟨f - 1, by omega⟩
      obtain ⟨e1, e2, -⟩ := hM.2.2.1 s (by omega)
      obtain ⟨n1, n2, -⟩ := hP.1.2.2.2.2.2.1 s (by omega)
      obtain ⟨i1, i2⟩ := ih (s + 1) (by omega) f (by omega)
      have q19 : ∀ (K : Int32 → Option Int32), rd (m.1 19) 10 (nI s) K = K (nI (tA T s)) := fun K => by rw [rd_ok (by omega) (by omega), e1]
      have q20 : ∀ (K : Int32 → Option Int32), rd (m.1 20) 10 (nI s) K = K (nI (tB T s)) := fun K => by rw [rd_ok (by omega) (by omega), e2]
      rw [gX12_isMeetTold, hM.1.2.1, if_neg (nI_ge (by omega) (by omega)), if_pos rfl, nI_1]
      simp only [q19, q20]
      have nx : ¬ isMt T a b s → ((∃ q, s ≤ q ∧ q < tnm T ∧ isMt T a b q) → gX12_isMeetTold m f (nI a) (nI b) 0 (nI (s + 1)) = some 1) ∧ ((∀ q, s ≤ q → q < tnm T → ¬ isMt T a b q) → gX12_isMeetTold m f (nI a) (nI b) 0 (nI (s + 1)) = some 0) := fun z => ⟨fun ⟨q, a, b, d⟩ => i1 ⟨q, by
          by_cases y : q = s
          · rw [y] at d; exact absurd d z
          · omega, b, d⟩, fun y => i2 (fun q a b => y q (by omega) b)⟩
      have yx : isMt T a b s → ((∃ q, s ≤ q ∧ q < tnm T ∧ isMt T a b q) → gX12_isMeetTold m f (nI a) (nI b) 1 (nI (s + 1)) = some 1) ∧ ((∀ q, s ≤ q → q < tnm T → ¬ isMt T a b q) → gX12_isMeetTold m f (nI a) (nI b) 1 (nI (s + 1)) = some 0) := fun z => ⟨fun _ => yes j (s + 1) (by omega) f (by omega), fun y => absurd z (y s (by omega) (by omega))⟩
      have i_Aa : nI (tA T s) = nI a ↔ tA T s = a := nI_eq (by omega) (by omega)
      have i_Ab : nI (tA T s) = nI b ↔ tA T s = b := nI_eq (by omega) (by omega)
      have i_Ba : nI (tB T s) = nI a ↔ tB T s = a := nI_eq (by omega) (by omega)
      have i_Bb : nI (tB T s) = nI b ↔ tB T s = b := nI_eq (by omega) (by omega)
      have second : ¬ (tA T s = a ∧ tB T s = b) → ((∃ q, s ≤ q ∧ q < tnm T ∧ isMt T a b q) → (if nI (tA T s) = nI b then (if nI (tB T s) = nI a then (gX12_isMeetTold m f (nI a) (nI b) (1 : Int32) (nI (s + 1))) else (gX12_isMeetTold m f (nI a) (nI b) (0 : Int32) (nI (s + 1)))) else (gX12_isMeetTold m f (nI a) (nI b) (0 : Int32) (nI (s + 1)))) = some 1) ∧ ((∀ q, s ≤ q → q < tnm T → ¬ isMt T a b q) → (if nI (tA T s) = nI b then (if nI (tB T s) = nI a then (gX12_isMeetTold m f (nI a) (nI b) (1 : Int32) (nI (s + 1))) else (gX12_isMeetTold m f (nI a) (nI b) (0 : Int32) (nI (s + 1)))) else (gX12_isMeetTold m f (nI a) (nI b) (0 : Int32) (nI (s + 1)))) = some 0) := fun z => by
        by_cases y1 : tA T s = b
        · rw [if_pos (i_Ab.mpr y1)]
          by_cases y2 : tB T s = a
          · rw [if_pos (i_Ba.mpr y2)]
            exact yx (Or.inr ⟨y1, y2⟩)
          · rw [if_neg (fun x => y2 (i_Ba.mp x))]
            exact nx (fun x => by unfold isMt at x; omega)
        · rw [if_neg (fun x => y1 (i_Ab.mp x))]
          exact nx (fun x => by unfold isMt at x; omega)
      by_cases y1 : tA T s = a
      · rw [if_pos (i_Aa.mpr y1)]
        by_cases y2 : tB T s = b
        · rw [if_pos (i_Bb.mpr y2)]
          exact yx (Or.inl ⟨y1, y2⟩)
        · rw [if_neg (fun x => y2 (i_Bb.mp x))]
          exact second (fun x => y2 x.2)
      · rw [if_neg (fun x => y1 (i_Aa.mp x))]
        exact second (fun x => y1 x.1)
  obtain ⟨a1, a2⟩ := key (tnm T) 0 (by omega) 5000 (by omega)
  exact ⟨fun ⟨q, a, b⟩ => a1 ⟨q, by omega, a, b⟩, fun z => a2 (fun q _ b => z q b)⟩
theorem MF.meet {f q : Nat} {m : Mem} (h : MF f q m) {s : Nat} (hs : m.1 0 48 = nI s) (h8 : s < 10) (F : Nat) (x y : Int32) : ∃ m', gX12_readMeet (F + 1) x y m = some m' ∧ MF f q m' ∧ GM m m' ∧ m'.1 0 = m.1 0 := by
  have h2 : MF f q (sI m 21 s 0) := h.mk2 (by rw [sI_oth (by omega)]) (by rw [sI_oth (by omega)])
  have h3 : MF f q (sI (sI m 21 s 0) 22 s 0) := h2.mk2 (by rw [sI_oth (by omega)]) (by rw [sI_oth (by omega)])
  refine ⟨sI (sI m 21 s 0) 22 s 0, ?_, h3, (GM.rfl'.sI (by simp)).sI (by simp), by rw [sI_oth (by omega), sI_oth (by omega)]⟩
  rw [gX12_readMeet, h.told, cI_some, hs, wr_ok h8 (by omega), h2.told, cI_some, sI_oth (by omega), hs, wr_ok h8 (by omega), if_neg h3.pos.2]
theorem meet_line (h : PI bt L T nms k p n v wd c m) (hk : k = 129) : LN bt L T c m (fX7_readMeet c) (fX12_readLine m) := by
  have h7 := h.2.2.1.1.1
  have h10 := h.2.2.1.1.2.1
  have hQ := h.2.2.1.2.1
  have hT := h.2.1
  have hC := h.2.2.2.1
  have hM := h.2.2.2.2.1
  have start : fX12_readLine m = (if (10 : Int32) ≤ nI (tnm T) then (gX12_readLine 5000 0 m) else (cV (fX12_readMeet m) fun m12 => (gX12_readLine 5000 2 m12))) := by
    unfold fX12_readLine
    rw [hT.w0, cP_some, if_neg (show ¬ k = 128 by omega), if_pos rfl, hT.w1, cP_some, if_pos hk, if_neg (show ¬ (1 : Int32) = 0 by decide), hM.1.2.1, hT.w2, cP_some, if_neg (show ¬ k = 130 by omega), if_pos rfl]
  rw [start]
  unfold fX7_readMeet
  rw [hC.1, gPl_ok hQ, nm_eq, hC.2.1.2.1]
  by_cases e8 : tnm T = 10
  · obtain ⟨c', m', b1, b2, b3, b4, b5, b6, b7⟩ := h.j.no (Q := tP T) (x := 2) (by omega)
    rw [if_neg (show ¬ nI (tnm T) < (10 : Int32) by rw [e8]; decide), if_pos (show (10 : Int32) ≤ nI (tnm T) by rw [e8]; decide), show fX7_refuse c (2 : Int32) = _ from b1, cI_some, tz_0, show (5000 : Nat) = 4998 + 2 from rfl, none_line h.j (by omega), show fX12_wrong m (2 : Int32) = _ from b2, cV_some]
    exact Or.inl ⟨c', m', rfl, b4.fin 4997, b3, b5, b6⟩
  have hlt : tnm T < 10 := by omega
  rw [if_pos (show nI (tnm T) < (10 : Int32) from nI_lt (b := 10) hlt (by omega)), if_neg (show ¬ (10 : Int32) ≤ nI (tnm T) from nI_ge (b := 10) hlt (by omega))]
  obtain ⟨k1, p1, n1, v1, wd1, c1, m1, a1, a2, a3, a4, a5⟩ := h.adv (by omega)
  unfold fX12_readMeet
  rw [a1, cV_some, a2, cV_some]
  rcases a3.person with ⟨c2, m2, f, q, b1, b2, b3, b4, b5, b6, b7⟩ | ⟨i, hi, hk1, hn1, b1, b2⟩
  · obtain ⟨m3, d1, d2, d3, d4⟩ := b4.meet (s := tnm T) (by rw [b7 48 (by omega) (by omega), a5.2.2.1 48 (by omega)]; exact hM.1.2.1) hlt 4999 0 0
    rw [b1, cI_some, if_pos rfl, b2, cI_some, if_neg b4.pos.1, b4.old, cI_some, if_neg b4.pos.1, if_neg b4.pos.1, d1, cV_some]
    exact Or.inl ⟨c2, m3, rfl, d2.fin 4999, b3.mk2 (by rw [d4]) (by rw [d4]), a4.gc.trans b5, a5.gm.trans (b6.trans d3)⟩
  have hi1 : ¬ nI i = (-1 : Int32) := fun z => nI_lt0 (k := i) (by omega) (by rw [z]; decide)
  obtain ⟨k2, p2, n2, v2, wd2, c2, m2, d1, d2, d3, d4, d5⟩ := a3.adv (by omega)
  rw [b1, cI_some, if_neg hi1, d1, cV_some, b2, cI_some, if_pos a3.2.2.2.2.2, d2, cV_some]
  have gc2 : GC (tP T) c c2 := a4.gc.trans d4.gc
  have gm2 : GM m m2 := a5.gm.trans d5.gm
  have d3' := d3
  obtain ⟨hB3, hT3, hP3, hC3, hM3, h03⟩ := d3'
  have e48 : m2.1 0 48 = nI (tnm T) := hM3.1.2.1
  rcases d3.person with ⟨c3, m3, f, q, e1, e2, e3, e4, e5, e6, e7⟩ | ⟨b, hb, hk2, hn2, e1, e2⟩
  · obtain ⟨m4, g1, g2, g3, g4⟩ := e4.meet (s := tnm T) (by rw [e7 48 (by omega) (by omega)]; exact e48) hlt 4999 (nI i) 0
    rw [e1, cI_some, if_pos rfl, e2, cI_some, if_neg e4.pos.1, if_neg e4.pos.1, g1, cV_some]
    exact Or.inl ⟨c3, m4, rfl, g2.fin 4999, e3.mk2 (by rw [g4]) (by rw [g4]), gc2.trans e5, gm2.trans (e6.trans g3)⟩
  have hb1 : ¬ nI b = (-1 : Int32) := fun z => nI_lt0 (k := b) (by omega) (by rw [z]; decide)
  rw [e1, cI_some, if_neg hb1, e2, cI_some, if_pos h03]
  obtain ⟨c4, m4, r1, r2, r3, r4, r5, r6, r7⟩ := d3.j.no (Q := tP T) (x := 3) (by omega)
  obtain ⟨m5, q1, q2, q3, q4⟩ := r4.meet (s := tnm T) (by rw [r7 48 (by omega) (by omega)]; exact e48) hlt 4999 (nI i) (nI b)
  have hfail : LN bt L T c m (cI (fX7_refuse c2 (3 : Int32)) fun r15 m16 => (tz r15 (some (r15, m16)))) (cV (cV (fX12_wrong m2 (3 : Int32)) fun m39 => (if (m39.1 0 2) = 0 then (cV (fX12_token m39) fun m42 => (gX12_readMeet 5000 (nI i) (nI b) m42)) else (gX12_readMeet 5000 (nI i) (nI b) m39))) fun m12 => gX12_readLine 5000 2 m12) := by
    rw [show fX7_refuse c2 (3 : Int32) = _ from r1, cI_some, tz_0, show fX12_wrong m2 (3 : Int32) = _ from r2, cV_some, if_neg r4.pos.1, q1, cV_some]
    exact Or.inl ⟨c4, m5, rfl, q2.fin 4999, r3.mk2 (by rw [q4]) (by rw [q4]), gc2.trans r5, gm2.trans (r6.trans q3)⟩
  by_cases eab : i = b
  · rw [if_pos (show nI i = nI b by rw [eab]), if_pos (show nI i = nI b by rw [eab])]
    exact hfail
  have nab : ¬ nI i = nI b := fun z => eab ((nI_eq (by omega) (by omega)).mp z)
  rw [if_neg nab, if_neg nab, hC3.1, gPl_ok hQ]
  rcases mt_c hP3 hC3 hi hb eab with ⟨y1, y3⟩ | ⟨y1, y3⟩
  · rw [y3, cP_some, if_neg (show ¬ (1 : Int32) = 0 by decide), (mt_m hP3 hM3 hi hb).1 y1, cP_some, if_neg (show ¬ (1 : Int32) = 0 by decide)]
    exact hfail
  rw [y3, cP_some, if_pos rfl, (mt_m hP3 hM3 hi hb).2 y1, cP_some, if_pos rfl, if_pos h03, wr_ok hlt (by omega)]
  have hcw : (sI c2 (tP T + 5) (tnm T) (nI i)).2.2 4 1 = tP T := hC3.1
  rw [hcw, gPl_ok hQ, wr_ok hlt (by omega)]
  have hJ4 : PJ bt L k2 p2 n2 v2 wd2 (sI (sI c2 (tP T + 5) (tnm T) (nI i)) (tP T + 6) (tnm T) (nI b)) m2 := d3.j.keep (by rw [sI_oth (by omega), sI_oth (by omega)]) (by rw [sI_oth (by omega), sI_oth (by omega)]) ⟨by rw [sI_oth (by omega), sI_oth (by omega)], by rw [sI_oth (by omega), sI_oth (by omega)]⟩ rfl rfl (fun _ _ => rfl) rfl rfl
  clear hfail q4 q3 q2 q1 r7 r6 r5 r4 r3 r2 r1
  obtain ⟨k4, p4, n4, v4, wd4, c4, m4, q1, q2, q3, q4, q5⟩ := hJ4.adv (by omega)
  have gc4 : GC (tP T) c c4 := ((gc2.sI (Or.inr ⟨by omega, by omega, by omega⟩)).sI (Or.inr ⟨by omega, by omega, by omega⟩)).trans q4.gc
  have gm4 : GM m m4 := gm2.trans q5.gm
  have e48' : m4.1 0 48 = nI (tnm T) := by rw [q5.2.2.1 48 (by omega)]; exact e48
  rw [q1, cV_some, q2, cV_some, show (5000 : Nat) = 4999 + 1 from rfl, gX12_readMeet]
  rcases q3.beh (Q := tP T) (j := 11) (by omega) (y := 139) rfl (x := 448546566771) q3.2.1.w11 (lo := 1) (up := 24) (by omega) (by omega) with ⟨c5, m5, f, q, z, r1, r2, r3, r4, r5, r6, r7⟩ | ⟨k5, p5, n5, v5, wd5, c5, m5, r0, r1, r2, r3, r4, r5, r6, r7, r8⟩
  · have h2 : MF f q (sI m5 21 (tnm T) z) := r4.mk2 (by rw [sI_oth (by omega)]) (by rw [sI_oth (by omega)])
    have h3 : MF f q (sI (sI m5 21 (tnm T) z) 22 (tnm T) 0) := h2.mk2 (by rw [sI_oth (by omega)]) (by rw [sI_oth (by omega)])
    have e48a : (sI m5 21 (tnm T) z).1 0 48 = nI (tnm T) := by rw [sI_oth (by omega), r7 48 (by omega)]; exact e48'
    rw [show fX7_isNumberBehind c4 (139 : Int32) (1 : Int32) (24 : Int32) = _ from r1, cI_some, if_pos rfl, show fX12_told m4 (448546566771 : Int64) (1 : Int32) (24 : Int32) = _ from r2, cI_some, e48', wr_ok hlt (by omega), h2.told, cI_some, e48a, wr_ok hlt (by omega), if_neg h3.pos.2, cV_some]
    exact Or.inl ⟨c5, _, rfl, h3.fin 4999, r3.mk2 (by rw [sI_oth (by omega), sI_oth (by omega)]) (by rw [sI_oth (by omega), sI_oth (by omega)]), gc4.trans r5, ((gm4.trans r6).sI (by simp)).sI (by simp)⟩
  have hc5 : c5.2.2 4 1 = tP T := by rw [r7.1, q4.1]; exact hC3.1
  have hJ5 : PJ bt L k5 p5 n5 v5 wd5 (sI c5 (tP T + 7) (tnm T) (nI v5)) m5 := r6.keep (sI_oth (by omega)) (sI_oth (by omega)) ⟨by rw [sI_oth (by omega)], by rw [sI_oth (by omega)]⟩ rfl rfl (fun _ _ => rfl) rfl rfl
  obtain ⟨k6, p6, n6, v6, wd6, c6, m6, s1, s2, s3, s4, s5⟩ := hJ5.adv (by omega)
  have gc6 : GC (tP T) c c6 := ((gc4.trans r7.gc).sI (Or.inr ⟨by omega, by omega, by omega⟩)).trans s4.gc
  have hJ6 : PJ bt L k6 p6 n6 v6 wd6 c6 (sI m6 21 (tnm T) (nI v5)) := s3.keep rfl rfl ⟨rfl, rfl⟩ rfl rfl (fun s _ => by rw [sI_oth (by omega)]) (sI_oth (by omega)) rfl
  have gm6 : GM m (sI m6 21 (tnm T) (nI v5)) := ((gm4.trans r8.gm).trans s5.gm).sI (by simp)
  have e48a : (sI m6 21 (tnm T) (nI v5)).1 0 48 = nI (tnm T) := by rw [sI_oth (by omega), s5.2.2.1 48 (by omega), r8.2.2.1 48 (by omega)]; exact e48'
  rw [show fX7_isNumberBehind c4 (139 : Int32) (1 : Int32) (24 : Int32) = _ from r3, cI_some, if_neg (show ¬ (1 : Int32) = 0 by decide), hc5, gPl_ok hQ, r4, wr_ok hlt (by omega), s1, cV_some, show fX12_told m4 (448546566771 : Int64) (1 : Int32) (24 : Int32) = _ from r5 m6 s2, cI_some, e48', wr_ok hlt (by omega)]
  rcases hJ6.beh (Q := tP T) (j := 12) (by omega) (y := 140) rfl (x := 512970880104) hJ6.2.1.w12 (lo := 1) (up := 99) (by omega) (by omega) with ⟨c7, m7, f, q, z, t1, t2, t3, t4, t5, t6, t7⟩ | ⟨k7, p7, n7, v7, wd7, c7, m7, t0, t1, t2, t3, t4, t5, t6, t7, t8⟩
  · have h3 : MF f q (sI m7 22 (tnm T) z) := t4.mk2 (by rw [sI_oth (by omega)]) (by rw [sI_oth (by omega)])
    rw [show fX7_isNumberBehind c6 (140 : Int32) (1 : Int32) (99 : Int32) = _ from t1, cI_some, if_pos rfl, show fX12_told (sI m6 21 (tnm T) (nI v5)) (512970880104 : Int64) (1 : Int32) (99 : Int32) = _ from t2, cI_some, e48a, wr_ok hlt (by omega), if_neg h3.pos.2, cV_some]
    exact Or.inl ⟨c7, _, rfl, h3.fin 4999, t3.mk2 (by rw [sI_oth (by omega)]) (by rw [sI_oth (by omega)]), gc6.trans t5, (gm6.trans t6).sI (by simp)⟩
  have hc7 : c7.2.2 4 1 = tP T := by rw [t7.1, s4.1]; exact hc5
  have c7q : ∀ s, c7.1 (tP T) s = c2.1 (tP T) s := fun s => by rw [t7.2.1 _ (by omega), s4.2.1 _ (by omega), sI_oth (by omega), r7.2.1 _ (by omega), q4.2.1 _ (by omega), sI_oth (by omega), sI_oth (by omega)]
  have hJ7 : PJ bt L k7 p7 n7 v7 wd7 (sI (sI c7 (tP T + 8) (tnm T) (nI v7)) (tP T) 5 (nI (tnm T + 1))) m7 := t6.keep (by rw [sI_oth (by omega), sI_oth (by omega)]) (by rw [sI_oth (by omega), sI_oth (by omega)]) ⟨by rw [sI_oth (by omega), sI_oth (by omega)], by rw [sI_oth (by omega), sI_oth (by omega)]⟩ rfl rfl (fun _ _ => rfl) rfl rfl
  obtain ⟨k8, p8, n8, v8, wd8, c8, m8, u1, u2, u3, u4, u5⟩ := hJ7.adv (by omega)
  have gc8 : GC (tP T) c c8 := (((gc6.trans t7.gc).sI (Or.inr ⟨by omega, by omega, by omega⟩)).sI (Or.inr ⟨by omega, by omega, by omega⟩)).trans u4.gc
  have hc7b : (sI c7 (tP T + 8) (tnm T) (nI v7)).2.2 4 1 = tP T := hc7
  have hc7c : (sI c7 (tP T + 8) (tnm T) (nI v7)).1 (tP T) 5 + 1 = nI (tnm T + 1) := by rw [sI_oth (by omega), c7q, hC3.2.1.2.1, nI_1]
  have e48b : m8.1 0 48 = nI (tnm T) := by rw [u5.2.2.1 48 (by omega), t8.2.2.1 48 (by omega)]; exact e48a
  have e48c : ∀ a : Int32, (sI m8 22 (tnm T) a).1 0 48 = nI (tnm T) := fun a => by rw [sI_oth (by omega)]; exact e48b
  have e48d : ∀ a b : Int32, (sI (sI m8 22 (tnm T) a) 19 (tnm T) b).1 0 48 = nI (tnm T) := fun a b => by rw [sI_oth (by omega), sI_oth (by omega)]; exact e48b
  have e48e : ∀ a b d : Int32, (sI (sI (sI m8 22 (tnm T) a) 19 (tnm T) b) 20 (tnm T) d).1 0 48 = nI (tnm T) := fun a b d => by rw [sI_oth (by omega), sI_oth (by omega), sI_oth (by omega)]; exact e48b
  have h0c : (sI m8 22 (tnm T) (nI v7)).1 0 2 ≤ 0 := by rw [sI_oth (by omega), u3.2.2]; decide
  rw [show fX7_isNumberBehind c6 (140 : Int32) (1 : Int32) (99 : Int32) = _ from t3, cI_some, if_neg (show ¬ (1 : Int32) = 0 by decide), hc7, gPl_ok hQ, t4, wr_ok hlt (by omega), hc7b, gPl_ok hQ, pt_eq, hc7c, u1, cV_some, show fX12_told (sI m6 21 (tnm T) (nI v5)) (512970880104 : Int64) (1 : Int32) (99 : Int32) = _ from t5 m8 u2, cI_some, e48a, wr_ok hlt (by omega), if_pos h0c, e48c, wr_ok hlt (by omega), e48d, wr_ok hlt (by omega), pt_eq, e48e, nI_1, cV_some]
  generalize hm9 : sI (sI (sI (sI m8 22 (tnm T) (nI v7)) 19 (tnm T) (nI i)) 20 (tnm T) (nI b)) 0 48 (nI (tnm T + 1)) = m9
  have m90 : ∀ s, s ≠ 48 → m9.1 0 s = m8.1 0 s := fun s x => by rw [← hm9, sI_row, upd_ne x, sI_oth (by omega), sI_oth (by omega), sI_oth (by omega)]
  have hJ9 : PJ bt L k8 p8 n8 v8 wd8 c8 m9 := u3.keep rfl rfl ⟨rfl, rfl⟩ rfl rfl (fun s hs => m90 s (by omega)) (by rw [← hm9, sI_oth (by omega), sI_oth (by omega), sI_oth (by omega), sI_oth (by omega)]) (by rw [← hm9]; rfl)
  have gm9 : GM m m9 := by rw [← hm9]; exact (((((gm6.trans t8.gm).trans u5.gm).sI (by simp)).sI (by simp)).sI (by simp)).sI (by simp)
  rcases hJ9.fin (Q := tP T) 4999 with ⟨ca, ma, x1, x2, x3, x4, x5⟩ | ⟨ka, pa, na, va, wda, ca, ma, x1, x2, x3, x4, x5⟩
  · rw [x1, cI_some, tz_0]
    exact Or.inl ⟨ca, ma, rfl, x2, x3, gc8.trans x4, gm9.trans x5⟩
  rw [x1, cI_some, tz_1]
  have cr : ∀ r, r ≠ 1 → r ≠ tP T → r ≠ tP T + 5 → r ≠ tP T + 6 → r ≠ tP T + 7 → r ≠ tP T + 8 → ca.1 r = c2.1 r := fun r z1 z2 z3 z4 z5 z6 => by rw [x4.2.1 r z1, u4.2.1 r z1, sI_oth z2, sI_oth z6, t7.2.1 r z1, s4.2.1 r z1, sI_oth z5, r7.2.1 r z1, q4.2.1 r z1, sI_oth z4, sI_oth z3]
  have cq : ∀ s, ca.1 (tP T) s = upd (c2.1 (tP T)) 5 (nI (tnm T + 1)) s := fun s => by
    rw [x4.2.1 _ (by omega), u4.2.1 _ (by omega), sI_row]
    unfold upd
    by_cases z : s = 5
    · rw [if_pos z, if_pos z]
    · rw [if_neg z, if_neg z, sI_oth (by omega), c7q]
  have c5' : ca.1 (tP T + 5) = upd (c2.1 (tP T + 5)) (tnm T) (nI i) := by rw [x4.2.1 _ (by omega), u4.2.1 _ (by omega), sI_oth (by omega), sI_oth (by omega), t7.2.1 _ (by omega), s4.2.1 _ (by omega), sI_oth (by omega), r7.2.1 _ (by omega), q4.2.1 _ (by omega), sI_oth (by omega), sI_row]
  have c6' : ca.1 (tP T + 6) = upd (c2.1 (tP T + 6)) (tnm T) (nI b) := by rw [x4.2.1 _ (by omega), u4.2.1 _ (by omega), sI_oth (by omega), sI_oth (by omega), t7.2.1 _ (by omega), s4.2.1 _ (by omega), sI_oth (by omega), r7.2.1 _ (by omega), q4.2.1 _ (by omega), sI_row, sI_oth (by omega)]
  have c7' : ca.1 (tP T + 7) = upd (c2.1 (tP T + 7)) (tnm T) (nI v5) := by rw [x4.2.1 _ (by omega), u4.2.1 _ (by omega), sI_oth (by omega), sI_oth (by omega), t7.2.1 _ (by omega), s4.2.1 _ (by omega), sI_row, r7.2.1 _ (by omega), q4.2.1 _ (by omega), sI_oth (by omega), sI_oth (by omega)]
  have c8' : ca.1 (tP T + 8) = upd (c2.1 (tP T + 8)) (tnm T) (nI v7) := by rw [x4.2.1 _ (by omega), u4.2.1 _ (by omega), sI_oth (by omega), sI_row, t7.2.1 _ (by omega), s4.2.1 _ (by omega), sI_oth (by omega), r7.2.1 _ (by omega), q4.2.1 _ (by omega), sI_oth (by omega), sI_oth (by omega)]
  have mr : ∀ r, r ≠ 0 → r ≠ 19 → r ≠ 20 → r ≠ 21 → r ≠ 22 → ma.1 r = m2.1 r := fun r z1 z2 z3 z4 z5 => by rw [x5.2.1 r z1, ← hm9, sI_oth z1, sI_oth z3, sI_oth z2, sI_oth z5, u5.2.1 r z1, t8.2.1 r z1, sI_oth z4, s5.2.1 r z1, r8.2.1 r z1, q5.2.1 r z1]
  have m0 : ∀ s, (9 ≤ s ∧ s ≠ 48) → ma.1 0 s = m2.1 0 s := fun s x => by rw [x5.2.2.1 s (by omega), m90 s x.2, u5.2.2.1 s (by omega), t8.2.2.1 s (by omega), sI_oth (by omega), s5.2.2.1 s (by omega), r8.2.2.1 s (by omega), q5.2.2.1 s (by omega)]
  have m19 : ma.1 19 = upd (m2.1 19) (tnm T) (nI i) := by rw [x5.2.1 19 (by omega), ← hm9, sI_oth (by omega), sI_oth (by omega), sI_row, sI_oth (by omega), u5.2.1 19 (by omega), t8.2.1 19 (by omega), sI_oth (by omega), s5.2.1 19 (by omega), r8.2.1 19 (by omega), q5.2.1 19 (by omega)]
  have m20 : ma.1 20 = upd (m2.1 20) (tnm T) (nI b) := by rw [x5.2.1 20 (by omega), ← hm9, sI_oth (by omega), sI_row, sI_oth (by omega), sI_oth (by omega), u5.2.1 20 (by omega), t8.2.1 20 (by omega), sI_oth (by omega), s5.2.1 20 (by omega), r8.2.1 20 (by omega), q5.2.1 20 (by omega)]
  have m21 : ma.1 21 = upd (m2.1 21) (tnm T) (nI v5) := by rw [x5.2.1 21 (by omega), ← hm9, sI_oth (by omega), sI_oth (by omega), sI_oth (by omega), sI_oth (by omega), u5.2.1 21 (by omega), t8.2.1 21 (by omega), sI_row, s5.2.1 21 (by omega), r8.2.1 21 (by omega), q5.2.1 21 (by omega)]
  have m22 : ma.1 22 = upd (m2.1 22) (tnm T) (nI v7) := by rw [x5.2.1 22 (by omega), ← hm9, sI_oth (by omega), sI_oth (by omega), sI_oth (by omega), sI_row, u5.2.1 22 (by omega), t8.2.1 22 (by omega), sI_oth (by omega), s5.2.1 22 (by omega), r8.2.1 22 (by omega), q5.2.1 22 (by omega)]
  have cl : ∀ r, r ≠ 1 → ca.2.1 r = c2.2.1 r := fun r x => by rw [x4.2.2.2 r x]; exact (u4.2.2.2 r x).trans ((t7.2.2.2 r x).trans ((s4.2.2.2 r x).trans ((r7.2.2.2 r x).trans (q4.2.2.2 r x))))
  have ml : ∀ r, r ≠ 0 → ma.2.1 r = m2.2.1 r := fun r x => by rw [x5.2.2.2 r x, ← hm9]; exact (u5.2.2.2 r x).trans ((t8.2.2.2 r x).trans ((s5.2.2.2 r x).trans ((r8.2.2.2 r x).trans (q5.2.2.2 r x))))
  refine Or.inr ⟨(up2 (up2 (up2 (up2 (up2 T.1 2 (tnm T) i) 3 (tnm T) b) 4 (tnm T) v5) 5 (tnm T) v7) 20 3 (tnm T + 1), T.2), nms, ka, pa, na, va, wda, ca, ma, rfl, x2, ⟨x3.1, x3.2.1, ?_, ?_, ?_, x3.2.2⟩, ⟨rfl, rfl⟩, ?_, gc8.trans x4.gc, gm9.trans x5.gm⟩
  · obtain ⟨⟨g1, g2, g3, g4, g5, g6, g7, g8, g9⟩, w2⟩ := hP3
    refine ⟨⟨g1, hlt, g3, g4, g5, fun q hq => ?_, g7, g8, g9⟩, w2⟩
    show up2 T.1 2 (tnm T) i 2 q < tnp T ∧ up2 T.1 3 (tnm T) b 3 q < tnp T ∧ up2 T.1 2 (tnm T) i 2 q ≠ up2 T.1 3 (tnm T) b 3 q ∧ 1 ≤ up2 T.1 4 (tnm T) v5 4 q ∧ up2 T.1 4 (tnm T) v5 4 q ≤ 24 ∧ 1 ≤ up2 T.1 5 (tnm T) v7 5 q ∧ up2 T.1 5 (tnm T) v7 5 q ≤ 99
    by_cases z : q = tnm T
    · rw [z, up2_at, up2_at, up2_at, up2_at]
      exact ⟨hi, hb, eab, r1, r2, t1, t2⟩
    · rw [up2_ne (fun x => z x.2), up2_ne (fun x => z x.2), up2_ne (fun x => z x.2), up2_ne (fun x => z x.2)]
      exact g6 q (by have : q < tnm T + 1 := hq; omega)
  · obtain ⟨s1', ⟨f1, f2, f3, f4, f5⟩, f7, f8, f9, f10⟩ := hC3
    refine ⟨by rw [x4.1, u4.1]; exact hc7, ⟨?_, ?_, ?_, ?_, ?_⟩, ?_, ?_, ?_, f10.of rfl (fun _ _ => rfl) rfl (fun r x y => cr r (by omega) (by omega) (by omega) (by omega) (by omega) (by omega))⟩
    · exact (cq 0).trans ((upd_ne (by omega)).trans f1)
    · exact (cq 5).trans (upd_at _ _ _)
    · exact (cq 10).trans ((upd_ne (by omega)).trans f3)
    · exact (cq 18).trans ((upd_ne (by omega)).trans f4)
    · exact (cq 14).trans ((upd_ne (by omega)).trans f5)
    · intro q hq
      have := f7 q hq
      rw [← cl _ (by omega), ← cr (tP T + 2) (by omega) (by omega) (by omega) (by omega) (by omega) (by omega), ← cr (tP T + 3) (by omega) (by omega) (by omega) (by omega) (by omega) (by omega), ← cr (tP T + 4) (by omega) (by omega) (by omega) (by omega) (by omega) (by omega)] at this
      exact this
    · intro q hq
      show ca.1 (tP T + 5) q = nI (up2 T.1 2 (tnm T) i 2 q) ∧ ca.1 (tP T + 6) q = nI (up2 T.1 3 (tnm T) b 3 q) ∧ ca.1 (tP T + 7) q = nI (up2 T.1 4 (tnm T) v5 4 q) ∧ ca.1 (tP T + 8) q = nI (up2 T.1 5 (tnm T) v7 5 q)
      rw [c5', c6', c7', c8']
      by_cases z : q = tnm T
      · rw [z, up2_at, up2_at, up2_at, up2_at, upd_at, upd_at, upd_at, upd_at]
        exact ⟨rfl, rfl, rfl, rfl⟩
      · rw [up2_ne (fun x => z x.2), up2_ne (fun x => z x.2), up2_ne (fun x => z x.2), up2_ne (fun x => z x.2), upd_ne z, upd_ne z, upd_ne z, upd_ne z]
        exact f8 q (by have : q < tnm T + 1 := hq; omega)
    · intro q hq
      have := f9 q hq
      rw [← cr (tP T + 9) (by omega) (by omega) (by omega) (by omega) (by omega) (by omega), ← cr (tP T + 10) (by omega) (by omega) (by omega) (by omega) (by omega) (by omega), ← cr (tP T + 11) (by omega) (by omega) (by omega) (by omega) (by omega) (by omega)] at this
      exact this
  · obtain ⟨⟨f1, f2, f3, f4, f5, f6⟩, f7, f8, f9, f10⟩ := hM3
    refine ⟨⟨?_, ?_, ?_, ?_, ?_, ?_⟩, ?_, ?_, ?_, f10.of (fun _ _ => rfl) rfl (fun r hr => mr r (by omega) (by omega) (by omega) (by omega) (by omega))⟩
    · exact (m0 47 (by omega)).trans f1
    · rw [x5.2.2.1 48 (by omega), ← hm9, sI_row, upd_at]; rfl
    · exact (m0 49 (by omega)).trans f3
    · exact (m0 23 (by omega)).trans f4
    · exact (m0 54 (by omega)).trans f5
    · exact (m0 50 (by omega)).trans f6
    · intro q hq
      have := f7 q hq
      rw [← ml 2 (by omega), ← mr 14 (by omega) (by omega) (by omega) (by omega) (by omega), ← mr 15 (by omega) (by omega) (by omega) (by omega) (by omega), ← mr 16 (by omega) (by omega) (by omega) (by omega) (by omega)] at this
      exact this
    · intro q hq
      show ma.1 19 q = nI (up2 T.1 2 (tnm T) i 2 q) ∧ ma.1 20 q = nI (up2 T.1 3 (tnm T) b 3 q) ∧ ma.1 21 q = nI (up2 T.1 4 (tnm T) v5 4 q) ∧ ma.1 22 q = nI (up2 T.1 5 (tnm T) v7 5 q)
      rw [m19, m20, m21, m22]
      by_cases z : q = tnm T
      · rw [z, up2_at, up2_at, up2_at, up2_at, upd_at, upd_at, upd_at, upd_at]
        exact ⟨rfl, rfl, rfl, rfl⟩
      · rw [up2_ne (fun x => z x.2), up2_ne (fun x => z x.2), up2_ne (fun x => z x.2), up2_ne (fun x => z x.2), upd_ne z, upd_ne z, upd_ne z, upd_ne z]
        exact f8 q (by have : q < tnm T + 1 := hq; omega)
    · intro q hq
      have := f9 q hq
      rw [← mr 27 (by omega) (by omega) (by omega) (by omega) (by omega), ← mr 28 (by omega) (by omega) (by omega) (by omega) (by omega), ← mr 29 (by omega) (by omega) (by omega) (by omega) (by omega)] at this
      exact this
  · show tnp T + (tnm T + 1) + tnn T + fb_sm (fun p => T.1 23 p) (tnp T) + told T 0 + told T 1 + told T 2 + T.1 20 7 = mu T + 1
    unfold mu
    omega
end
