/-! ===== the simplest calls ===== -/
theorem isIn_lt {x : Int32} (h : x < 0) (y : Int32) : fX12_isIn x 0 y = some 0 := by unfold fX12_isIn; rw [if_pos h]
theorem i32_pred {n : Nat} (hn : n < 2 ^ 30) : (nI n - 1).toInt = (n : Int) - 1 := pk_sub_toInt (b := 1) hn (by decide)
theorem isIn_ge {x : Int32} {n : Nat} (hn : n < 2 ^ 30) (h0 : 0 ≤ x) (h : nI n ≤ x) : fX12_isIn x 0 (nI n - 1) = some 0 := by
  unfold fX12_isIn
  rw [if_neg (Int32.not_lt.mpr h0), if_pos]
  rw [Int32.lt_iff_toInt_lt, i32_pred hn]
  have := Int32.le_iff_toInt_le.mp h
  rw [nI_toInt (by omega)] at this
  omega
theorem isIn_in {j n : Nat} (h : j < n) (hn : n < 2 ^ 30) : fX12_isIn (nI j) 0 (nI n - 1) = some 1 := by
  unfold fX12_isIn
  rw [if_neg (nI_lt0 (by omega)), if_neg]
  rw [Int32.lt_iff_toInt_lt, i32_pred hn, nI_toInt (by omega)]
  omega
theorem RSt.at {T : Tn} {c m : Mem} (h : RSt T c m) : c.1 27 4 = m.1 33 34 ∧ c.1 27 5 = m.1 33 35 ∧ c.1 27 6 = m.1 33 36 := ⟨h.1 34 (by omega) (by omega), h.1 35 (by omega) (by omega), h.1 36 (by omega) (by omega)⟩
theorem RSt.side {T : Tn} {c m : Mem} (h : RSt T c m) (hT : TOK T) {p : Nat} (hp : p < tnp T) : c.1 28 p = m.1 33 p := by
  have h7 : p < 7 := Nat.lt_of_lt_of_le hp hT.1
  have := h.1 p (by omega) (Or.inl hp)
  unfold cSt at this
  rw [if_pos h7] at this
  exact this
theorem TC.pl {T : Tn} {c : Mem} (h : TC T c) : tP T = 5 ∨ tP T = 32 := by rcases h.1 with h | h; exact Or.inl h.1; exact Or.inr h.1
theorem gPl_T {β : Type} {T : Tn} {c : Mem} {E : Option β} (h : TC T c) : gPl (c.2.2 26 1) E = E := gPl_ok (by rw [h.2.1]; exact h.pl)
theorem rd_now {β : Type} (f : Nat → Int32) (K : Int32 → Option β) : rd f 37 34 K = K (f 34) ∧ rd f 37 35 K = K (f 35) ∧ rd f 37 36 K = K (f 36) := ⟨rd_ok (k := 34) (by omega) (by omega), rd_ok (k := 35) (by omega) (by omega), rd_ok (k := 36) (by omega) (by omega)⟩
theorem is_ite {β : Type} {c : Prop} [Decidable c] {A B : Option β} (ha : A.isSome = true) (hb : B.isSome = true) : (if c then A else B).isSome = true := by split <;> assumption
theorem o_about : Ob_about Rl := by
  intro mC mM x hR
  obtain ⟨T, h1, h2, h3, h4, h5, h6, h7, h8, h9, h10, h11, h12, h13, h14⟩ := id hR
  obtain ⟨r4, r5, r6⟩ := h7.at
  obtain ⟨_, _, _, _, _, _, a2, a3, a6, a7, _⟩ := h8
  obtain ⟨_, _, _, _, l0, l1, l2, l3, _⟩ := h9
  obtain ⟨_, _, y1, y2, _⟩ := h10
  obtain ⟨_, _, _, t1, t2, _⟩ := h12
  have e : fX11_about mC x = fX12_about mM x := by
    unfold fX11_about fX12_about
    rw [gPl_T h2, gPl_T h2, gPl_T h2, gPl_T h2, (rd_now _ _).1, (rd_now _ _).2.1, (rd_now _ _).2.2, h2.2.1, h2.2.2.2.1, h2.2.2.2.2.1, h2.2.2.2.2.2.1, h2.2.2.2.2.2.2.1, h3.1, h3.2.1, h3.2.2.1, h3.2.2.2.1, r4, r5, r6, a2, a3, a6, a7, l0, l1, l2, l3, y1, y2, t1, t2]
  have e2 : (fX12_about mM x).isSome = true := by
    unfold fX12_about
    rw [(rd_now _ _).1, (rd_now _ _).2.1, (rd_now _ _).2.2]
    repeat (first | rfl | refine is_ite rfl ?_)
  obtain ⟨r, hr⟩ := Option.isSome_iff_exists.mp e2
  exact ⟨r, e.trans hr, hr, hR⟩
theorem o_fault : Ob_fault Rl := by
  intro mC mM x hR
  obtain ⟨T, h1, h2, h3, h4, h5, h6, h7, h8, h9, h10, h11, h12, h13, h14⟩ := id hR
  unfold fX11_fault fX12_fault
  rw [h13.1, h13.2]
  by_cases c0 : x = 0
  · exact ⟨_, by rw [if_pos c0], by rw [if_pos c0], hR⟩
  · by_cases c1 : x = 1
    · exact ⟨_, by rw [if_neg c0, if_pos c1], by rw [if_neg c0, if_pos c1], hR⟩
    · exact ⟨_, by rw [if_neg c0, if_neg c1], by rw [if_neg c0, if_neg c1], hR⟩
theorem o_lies : Ob_lies Rl := by
  intro mC mM x hR
  obtain ⟨T, h1, h2, h3, h4, h5, h6, h7, h8, h9, h10, h11, h12, h13, h14⟩ := id hR
  obtain ⟨lc, g1, g2, g3, g4⟩ := h10
  unfold fX11_lies fX12_lies
  rw [g2, g3]
  rcases ix3 x lc (by omega) with c | ⟨c0, c⟩ | ⟨j, hj, rfl⟩
  · rw [isIn_lt c, cP_some, if_pos c]
    exact ⟨_, rfl, by rw [if_pos rfl], hR⟩
  · rw [isIn_ge (by omega) c0 c, cP_some, if_neg (Int32.not_lt.mpr c0), if_pos c]
    exact ⟨_, rfl, by rw [if_pos rfl], hR⟩
  · rw [isIn_in hj (by omega), cP_some, if_neg (nI_lt0 (by omega)), if_neg (nI_ge hj (by omega)), if_neg (show ¬ (7 : Int32) ≤ nI j from nI_ge (b := 7) (by omega) (by omega)), rd_ok (by omega) (by omega), rd_ok (by omega) (by omega), g4 j hj, if_neg (by decide)]
    exact ⟨_, rfl, rfl, hR⟩
theorem o_end : Ob_end Rl := by
  intro mC mM x hR
  obtain ⟨T, h1, h2, h3, h4, h5, h6, h7, h8, h9, h10, h11, h12, h13, h14⟩ := id hR
  have hPP := h2.pl
  obtain ⟨tp, bt, g1, g2, g3, g4⟩ := id h12
  unfold fX11_end fX12_end
  rw [g2, g3]
  rcases ix3 x (tp + 1) (by omega) with c | ⟨c0, c⟩ | ⟨j, hj, rfl⟩
  · rw [if_pos c]
    exact ⟨_, _, _, rfl, by rw [if_pos c], hR⟩
  · have c1 : ¬ x ≤ nI tp := by
      rw [Int32.le_iff_toInt_le, nI_toInt (by omega)]
      have := Int32.le_iff_toInt_le.mp c
      rw [nI_toInt (by omega)] at this
      omega
    rw [if_neg (Int32.not_lt.mpr c0), if_neg c1]
    exact ⟨_, _, _, rfl, by rw [if_neg (Int32.not_lt.mpr c0), if_neg c1], hR⟩
  · rw [if_neg (nI_lt0 (by omega)), if_pos (nI_le (by omega) (by omega)), pt_eq]
    refine ⟨_, _, _, rfl, by rw [if_neg (nI_lt0 (by omega)), if_pos (nI_le (by omega) (by omega)), pt_eq], ?_⟩
    have cr : ∀ r, r ≠ 1 → (sI mC 1 1 (nI j)).1 r = mC.1 r := fun r hr => sI_oth hr
    have mr : ∀ r, r ≠ 0 → (sI mM 0 1 (nI j)).1 r = mM.1 r := fun r hr => sI_oth hr
    have m0 : ∀ k, k ≠ 1 → (sI mM 0 1 (nI j)).1 0 k = mM.1 0 k := fun k hk => by rw [sI_row, upd_ne hk]
    have c2 : (sI mC 1 1 (nI j)).2 = mC.2 := rfl
    exact ⟨T, h1, h2.keep (by rw [c2]) (fun r hr => cr r (by omega)), h3.keep (fun k hk => m0 k (by omega)) (fun r hr => mr r (by omega)), FC.keep h2 h4 (fun w hw => ⟨cr _ (by rcases hPP with p | p <;> rw [p] <;> omega), cr _ (by rcases hPP with p | p <;> rw [p] <;> omega)⟩), h5.keep (fun r hr => mr r (by omega)), h6.keep (fun r hr => cr r (by omega)), h7.keep (fun r hr => cr r (by omega)) (mr 33 (by omega)), h8.keep ⟨cr 56 (by omega), cr 57 (by omega)⟩ ⟨m0 60 (by omega), m0 61 (by omega)⟩ ⟨mr 33 (by omega), mr 37 (by omega)⟩, h9.keep ⟨by rw [cr 65 (by omega)], by rw [cr 65 (by omega)]⟩ (fun r hr => cr r (by omega)) ⟨m0 69 (by omega), m0 70 (by omega)⟩ (fun r hr => mr r (by omega)), h10.keep ⟨by rw [cr 0 (by omega)], cr 73 (by omega)⟩ ⟨m0 63 (by omega), mr 38 (by omega)⟩, h11.keep ⟨by rw [cr 0 (by omega)], cr 72 (by omega)⟩ ⟨mr 46 (by omega), mr 47 (by omega)⟩, ⟨j, bt, by omega, by rw [sI_row, upd_at], by rw [sI_row, upd_at], fun i hi => by rw [cr 2 (by omega), mr 1 (by omega)]; exact g4 i (by omega)⟩, h13.keep ⟨by rw [cr 4 (by omega)], by rw [cr 4 (by omega)]⟩ ⟨m0 2 (by omega), m0 3 (by omega)⟩, h14.keep (by rw [c2]) (by rw [cr 63 (by omega)]) (by rw [cr 64 (by omega)])⟩
theorem o_later : Ob_later Rl := by
  intro mC mM x hR
  obtain ⟨T, h1, h2, h3, h4, h5, h6, h7, h8, h9, h10, h11, h12, h13, h14⟩ := id hR
  have hPP := h2.pl
  obtain ⟨ct, tm, g1, g2, g3, g4, g5, g6, g7⟩ := id h9
  unfold fX11_later fX5_goOn fX12_later
  rw [g5, g6]
  by_cases c : x < 0
  · rw [if_pos c, cI_some]
    exact ⟨_, _, _, rfl, by rw [if_pos c], hR⟩
  by_cases c1 : (1000 : Int32) < x
  · rw [if_neg c, if_pos c1, cI_some]
    exact ⟨_, _, _, rfl, by rw [if_neg c, if_pos c1], hR⟩
  obtain ⟨j, hj, rfl⟩ : ∃ j, j ≤ 1000 ∧ x = nI j := nI_of2 (M := 1000) (n := 1000) (by decide) c (Int32.not_lt.mp c1)
  rw [if_neg c, if_neg c1, nI_add]
  by_cases c3 : nI (tm + j) ≤ 100000
  · have c4 : tm + j ≤ 100000 := (nI_leI (b := 100000) (by omega) (by omega)).mp c3
    rw [if_pos c3, pt_eq, cI_some]
    refine ⟨_, _, _, rfl, by rw [if_neg c, if_neg c1, if_pos c3, pt_eq, sI_row, upd_at, sI_row, upd_at], ?_⟩
    have cr : ∀ r, r ≠ 65 → (sI mC 65 1 (nI (tm + j))).1 r = mC.1 r := fun r hr => sI_oth hr
    have mr : ∀ r, r ≠ 0 → (sI mM 0 70 (nI (tm + j))).1 r = mM.1 r := fun r hr => sI_oth hr
    have m0 : ∀ k, k ≠ 70 → (sI mM 0 70 (nI (tm + j))).1 0 k = mM.1 0 k := fun k hk => by rw [sI_row, upd_ne hk]
    have c2 : (sI mC 65 1 (nI (tm + j))).2 = mC.2 := rfl
    exact ⟨T, h1, h2.keep (by rw [c2]) (fun r hr => cr r (by omega)), h3.keep (fun k hk => m0 k (by omega)) (fun r hr => mr r (by omega)), FC.keep h2 h4 (fun w hw => ⟨cr _ (by rcases hPP with p | p <;> rw [p] <;> omega), cr _ (by rcases hPP with p | p <;> rw [p] <;> omega)⟩), h5.keep (fun r hr => mr r (by omega)), h6.keep (fun r hr => cr r (by omega)), h7.keep (fun r hr => cr r (by omega)) (mr 33 (by omega)), h8.keep ⟨cr 56 (by omega), cr 57 (by omega)⟩ ⟨m0 60 (by omega), m0 61 (by omega)⟩ ⟨mr 33 (by omega), mr 37 (by omega)⟩, ⟨ct, tm + j, g1, c4, by rw [sI_row, upd_ne (by omega)]; exact g3, by rw [m0 69 (by omega)]; exact g4, by rw [sI_row, upd_at], by rw [sI_row, upd_at], fun i hi => by rw [cr 66 (by omega), cr 67 (by omega), cr 68 (by omega), cr 69 (by omega), cr 70 (by omega), mr 39 (by omega), mr 40 (by omega), mr 41 (by omega), mr 42 (by omega), mr 43 (by omega)]; exact g7 i hi⟩, h10.keep ⟨by rw [cr 0 (by omega)], cr 73 (by omega)⟩ ⟨m0 63 (by omega), mr 38 (by omega)⟩, h11.keep ⟨by rw [cr 0 (by omega)], cr 72 (by omega)⟩ ⟨mr 46 (by omega), mr 47 (by omega)⟩, h12.keep ⟨by rw [cr 1 (by omega)], cr 2 (by omega)⟩ ⟨m0 1 (by omega), mr 1 (by omega)⟩, h13.keep ⟨by rw [cr 4 (by omega)], by rw [cr 4 (by omega)]⟩ ⟨m0 2 (by omega), m0 3 (by omega)⟩, h14.keep (by rw [c2]) (by rw [cr 63 (by omega)]) (by rw [cr 64 (by omega)])⟩
  · rw [if_neg c3, cI_some]
    exact ⟨_, _, _, rfl, by rw [if_neg c, if_neg c1, if_neg c3], hR⟩
theorem o_untell : Ob_untell Rl := by
  intro mC mM x hR
  obtain ⟨T, h1, h2, h3, h4, h5, h6, h7, h8, h9, h10, h11, h12, h13, h14⟩ := id hR
  have hPP := h2.pl
  obtain ⟨ct, tm, g1, g2, g3, g4, g5, g6, g7⟩ := id h9
  unfold fX11_untell fX5_takeBack fX12_untell
  rw [g3, g4, g5, g6]
  rcases ix3 x ct (by omega) with c | ⟨c0, c⟩ | ⟨j, hj, rfl⟩
  · rw [if_pos c, cI_some, tz_0, isIn_lt c, cP_some]
    exact ⟨_, _, _, rfl, by rw [if_pos rfl], hR⟩
  · rw [if_neg (Int32.not_lt.mpr c0), if_pos c, cI_some, tz_0, isIn_ge (by omega) c0 c, cP_some]
    exact ⟨_, _, _, rfl, by rw [if_pos rfl], hR⟩
  · obtain ⟨k1, k2, k3, k4, k5, k6, k7⟩ := g7 j hj
    rw [if_neg (nI_lt0 (by omega)), if_neg (nI_ge hj (by omega)), isIn_in hj (by omega), cP_some, if_neg (by decide : ¬ (1 : Int32) = 0), rd_ok (by omega) (by omega), rd_ok (by omega) (by omega), k6]
    rcases k7 with k7 | ⟨t, ht, k7⟩
    · rw [k7, if_pos rfl, if_pos (by decide), wr_ok (by omega) (by omega), wr_ok (by omega) (by omega), cI_some, tz_1]
      refine ⟨_, _, _, rfl, rfl, ?_⟩
      have cr : ∀ r, r ≠ 70 → (sI mC 70 j (nI tm)).1 r = mC.1 r := fun r hr => sI_oth hr
      have mr : ∀ r, r ≠ 42 → (sI mM 42 j (nI tm)).1 r = mM.1 r := fun r hr => sI_oth hr
      have m0 : ∀ k, k ≠ 100 → (sI mM 42 j (nI tm)).1 0 k = mM.1 0 k := fun k hk => by rw [mr 0 (by omega)]
      have c2 : (sI mC 70 j (nI tm)).2 = mC.2 := rfl
      exact ⟨T, h1, h2.keep (by rw [c2]) (fun r hr => cr r (by omega)), h3.keep (fun k hk => m0 k (by omega)) (fun r hr => mr r (by omega)), FC.keep h2 h4 (fun w hw => ⟨cr _ (by rcases hPP with p | p <;> rw [p] <;> omega), cr _ (by rcases hPP with p | p <;> rw [p] <;> omega)⟩), h5.keep (fun r hr => mr r (by omega)), h6.keep (fun r hr => cr r (by omega)), h7.keep (fun r hr => cr r (by omega)) (mr 33 (by omega)), h8.keep ⟨cr 56 (by omega), cr 57 (by omega)⟩ ⟨m0 60 (by omega), m0 61 (by omega)⟩ ⟨mr 33 (by omega), mr 37 (by omega)⟩, ⟨ct, tm, g1, g2, by rw [cr 65 (by omega)]; exact g3, by rw [m0 69 (by omega)]; exact g4, by rw [cr 65 (by omega)]; exact g5, by rw [m0 70 (by omega)]; exact g6, fun i hi => by
        obtain ⟨q1, q2, q3, q4, q5, q6, q7⟩ := g7 i hi
        rw [cr 66 (by omega), cr 67 (by omega), cr 68 (by omega), cr 69 (by omega), mr 39 (by omega), mr 40 (by omega), mr 41 (by omega), mr 43 (by omega), sI_row, sI_row]
        refine ⟨q1, q2, q3, q4, q5, ?_⟩
        by_cases e : i = j
        · subst e
          rw [upd_at, upd_at]
          exact ⟨rfl, Or.inr ⟨tm, g2, rfl⟩⟩
        · rw [upd_ne e, upd_ne e]
          exact ⟨q6, q7⟩⟩, h10.keep ⟨by rw [cr 0 (by omega)], cr 73 (by omega)⟩ ⟨m0 63 (by omega), mr 38 (by omega)⟩, h11.keep ⟨by rw [cr 0 (by omega)], cr 72 (by omega)⟩ ⟨mr 46 (by omega), mr 47 (by omega)⟩, h12.keep ⟨by rw [cr 1 (by omega)], cr 2 (by omega)⟩ ⟨m0 1 (by omega), mr 1 (by omega)⟩, h13.keep ⟨by rw [cr 4 (by omega)], by rw [cr 4 (by omega)]⟩ ⟨m0 2 (by omega), m0 3 (by omega)⟩, h14.keep (by rw [c2]) (by rw [cr 63 (by omega)]) (by rw [cr 64 (by omega)])⟩
    · have n1 : ¬ nI t = -1 := fun e => nI_lt0 (k := t) (by omega) (by rw [e]; decide)
      rw [k7, if_neg n1, if_neg (nI_lt0 (by omega)), cI_some, tz_0]
      exact ⟨_, _, _, rfl, rfl, hR⟩
