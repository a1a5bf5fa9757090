/-! ===== person, meet, noise and sets of meets ===== -/
theorem o_person : Ob_person Rl := by
  intro mC mM x y hR
  obtain ⟨T, hX⟩ : ∃ T, RX T mC mM := id hR
  obtain ⟨sd, q, hr, dt, hQ⟩ := hX.cb
  have hT := hX.1
  have h2 := hX.2.1
  have h3 := hX.2.2.1
  have h7 := hT.1
  have h8 := hT.2.2.1
  have h10 := hT.2.1
  unfold fX11_person fX12_person
  rcases hX.person x with ⟨e1, e2⟩ | ⟨p, hp, rfl, e1, e2⟩
  · rw [e1, e2, cP_some, cP_some]
    exact ⟨_, _, _, by rw [if_pos rfl], by rw [if_pos rfl], hR⟩
  rw [e1, e2, cP_some, cP_some, if_neg i10, if_neg i10]
  have hd := hQ.dlt
  obtain ⟨c1, a1, a2, a3⟩ := today_ok hT hQ.cb hQ.cd hQ.dlt
  obtain ⟨m1, b1, b2, b3, b4⟩ := hX.load hQ dt
  have hc5 : c1.1 27 5 = nI hr := by rw [a2.2 27 (by rcases h2.pl with z | z <;> simp [z])]; exact hQ.ch
  have hm5 : m1.1 34 35 = nI hr := by rw [b4 35 (by omega)]; exact hQ.mh
  obtain ⟨s1, s2⟩ := hQ.cb.2.2.2.1 p hp
  obtain ⟨s3, s4⟩ := b3.2.2.2.1 p hp
  rw [(rd_now _ _).2.2, hQ.md, b1, cV_some]
  by_cases y0 : y = 0
  · rw [if_pos y0, if_pos y0]
    rw [gPl_T h2, h2.2.1, rd_ok (by omega) (by omega), rd_ok (by omega) (by omega), (h2.2.2.2.2.2.2.2.1 p hp).1, (b3.1.2.2.2.2.1 p hp).1]
    exact ⟨_, _, _, rfl, rfl, hX.done keeps.rfl' hX.2.2.2.2.2.1 b2⟩
  by_cases y1 : y = 1
  · rw [if_neg y0, if_neg y0, if_pos y1, if_pos y1]
    rw [rd_ok (by omega) (by omega), rd_ok (by omega) (by omega), s2, s4]
    exact ⟨_, _, _, rfl, rfl, hX.done keeps.rfl' hX.2.2.2.2.2.1 b2⟩
  by_cases y2 : y = 2
  · rw [if_neg y0, if_neg y0, if_neg y1, if_neg y1, if_pos y2, if_pos y2]
    rw [hQ.cb.quiet (by omega), cP_some, (rd_now _ _).1, b3.2.2.2.2, bitN (by have := hQ.q128; omega) (by omega)]
    rcases m2_cases (q / 2 ^ p) with ⟨e, _⟩ | ⟨e, _⟩ <;> rw [e]
    · rw [if_pos rfl]
      exact ⟨_, _, _, rfl, rfl, hX.done keeps.rfl' hX.2.2.2.2.2.1 b2⟩
    · rw [if_neg i10]
      exact ⟨_, _, _, rfl, rfl, hX.done keeps.rfl' hX.2.2.2.2.2.1 b2⟩
  by_cases y3 : y = 3
  · rw [if_neg y0, if_neg y0, if_neg y1, if_neg y1, if_neg y2, if_neg y2, if_pos y3, if_pos y3]
    rw [a1, cR_some, gEq_ok, hc5, a3.awake hT hp hQ.hlt, cP_some, (rd_now _ _).2.1, hm5, b3.awake hT hp hQ.hlt, cP_some, truth_b _ (awN_lt _ _ _ _), cP_some]
    have e : (if nI (awN T dt (sd p) hr) = 0 then some ((0 : Int32), c1) else some (1, c1)) = some (nI (awN T dt (sd p) hr), c1) := by
      rcases (show awN T dt (sd p) hr = 0 ∨ awN T dt (sd p) hr = 1 by have := awN_lt T dt (sd p) hr; omega) with z | z <;> rw [z] <;> rfl
    rw [e]
    exact ⟨_, _, _, rfl, rfl, hX.done a2 a3.1.2.2.1 b2⟩
  by_cases y4 : y = 4
  · rw [if_neg y0, if_neg y0, if_neg y1, if_neg y1, if_neg y2, if_neg y2, if_neg y3, if_neg y3, if_pos y4, if_pos y4]
    have e7 : (7 : Int32) + nI p = nI (7 + p) := nI_add 7 p
    have e29 : mC.1 29 p = mM.1 33 (7 + p) := by
      have := hX.2.2.2.2.2.2.1.1 (7 + p) (by omega) (by omega)
      unfold cSt at this
      rw [if_neg (by omega), if_pos (by omega), show 7 + p - 7 = p by omega] at this
      exact this
    rw [rd_ok (by omega) (by omega), e7, rd_ok (by omega) (by omega), b4 (7 + p) (by omega), e29]
    exact ⟨_, _, _, rfl, rfl, hX.done keeps.rfl' hX.2.2.2.2.2.1 b2⟩
  by_cases y5 : y = 5
  · rw [if_neg y0, if_neg y0, if_neg y1, if_neg y1, if_neg y2, if_neg y2, if_neg y3, if_neg y3, if_neg y4, if_neg y4, if_pos y5, if_pos y5]
    unfold fX6_wakefulOf
    rw [gPl_T h2, h2.2.1, gPl_ok h2.pl, rd_ok (by omega) (by omega), cP_some, (h2.2.2.2.2.2.2.2.1 p hp).2, rd_ok (by omega) (by omega), (b3.1.2.2.2.2.1 p hp).2]
    exact ⟨_, _, _, rfl, rfl, hX.done keeps.rfl' hX.2.2.2.2.2.1 b2⟩
  by_cases y6 : y = 6
  · rw [if_neg y0, if_neg y0, if_neg y1, if_neg y1, if_neg y2, if_neg y2, if_neg y3, if_neg y3, if_neg y4, if_neg y4, if_neg y5, if_neg y5, if_pos y6, if_pos y6]
    obtain ⟨c2, f1, f2, f3⟩ := a3.harmAt hT hp hQ.hlt
    rw [a1, cR_some, gEq_ok, hc5, f1, cI_some, (rd_now _ _).2.1, hm5, b3.harmAt hT hQ.q128 hp hQ.hlt, cP_some]
    exact ⟨_, _, _, rfl, rfl, hX.done (a2.trans (f2.mono (by simp))) f3.1.2.2.1 b2⟩
  rw [if_neg y0, if_neg y0, if_neg y1, if_neg y1, if_neg y2, if_neg y2, if_neg y3, if_neg y3, if_neg y4, if_neg y4, if_neg y5, if_neg y5, if_neg y6, if_neg y6]
  exact ⟨_, _, _, rfl, rfl, hX.done keeps.rfl' hX.2.2.2.2.2.1 b2⟩
theorem o_meet : Ob_meet Rl := by
  intro mC mM x y hR
  obtain ⟨T, hX⟩ : ∃ T, RX T mC mM := id hR
  obtain ⟨sd, q, hr, dt, hQ⟩ := hX.cb
  have hT := hX.1
  have h2 := hX.2.1
  have h3 := hX.2.2.1
  have h7 := hT.1
  have h8 := hT.2.2.1
  have h10 := hT.2.1
  unfold fX11_meet fX12_meet
  rcases hX.meet x with ⟨e1, e2⟩ | ⟨k, hk, rfl, e1, e2⟩
  · rw [e1, e2, cP_some, cP_some]
    exact ⟨_, _, _, by rw [if_pos rfl], by rw [if_pos rfl], hR⟩
  rw [e1, e2, cP_some, cP_some, if_neg i10, if_neg i10]
  obtain ⟨c1, a1, a2, a3⟩ := today_ok hT hQ.cb hQ.cd hQ.dlt
  obtain ⟨m1, b1, b2, b3, b4⟩ := hX.load hQ dt
  obtain ⟨s1, s2, s3, s4⟩ := h2.2.2.2.2.2.2.2.2.1 k hk
  obtain ⟨t1, t2, t3, t4⟩ := b3.1.2.2.2.2.2.1 k hk
  rw [(rd_now _ _).2.2, hQ.md, b1, cV_some]
  by_cases y0 : y = 0
  · rw [if_pos y0, if_pos y0]
    rw [gPl_T h2, h2.2.1, rd_ok (by omega) (by omega), rd_ok (by omega) (by omega), s1, t1]
    exact ⟨_, _, _, rfl, rfl, hX.done keeps.rfl' hX.2.2.2.2.2.1 b2⟩
  by_cases y1 : y = 1
  · rw [if_neg y0, if_neg y0, if_pos y1, if_pos y1]
    rw [gPl_T h2, h2.2.1, rd_ok (by omega) (by omega), rd_ok (by omega) (by omega), s2, t2]
    exact ⟨_, _, _, rfl, rfl, hX.done keeps.rfl' hX.2.2.2.2.2.1 b2⟩
  by_cases y2 : y = 2
  · rw [if_neg y0, if_neg y0, if_neg y1, if_neg y1, if_pos y2, if_pos y2]
    rw [gPl_T h2, h2.2.1, rd_ok (by omega) (by omega), rd_ok (by omega) (by omega), s3, t3]
    exact ⟨_, _, _, rfl, rfl, hX.done keeps.rfl' hX.2.2.2.2.2.1 b2⟩
  by_cases y3 : y = 3
  · rw [if_neg y0, if_neg y0, if_neg y1, if_neg y1, if_neg y2, if_neg y2, if_pos y3, if_pos y3]
    rw [gPl_T h2, h2.2.1, rd_ok (by omega) (by omega), rd_ok (by omega) (by omega), s4, t4]
    exact ⟨_, _, _, rfl, rfl, hX.done keeps.rfl' hX.2.2.2.2.2.1 b2⟩
  by_cases y4 : y = 4
  · rw [if_neg y0, if_neg y0, if_neg y1, if_neg y1, if_neg y2, if_neg y2, if_neg y3, if_neg y3, if_pos y4, if_pos y4]
    have e7 : (14 : Int32) + nI k = nI (14 + k) := nI_add 14 k
    have e29 : mC.1 30 k = mM.1 33 (14 + k) := by
      have := hX.2.2.2.2.2.2.1.1 (14 + k) (by omega) (by omega)
      unfold cSt at this
      rw [if_neg (by omega), if_neg (by omega), if_pos (by omega), show 14 + k - 14 = k by omega] at this
      exact this
    rw [rd_ok (by omega) (by omega), e7, rd_ok (by omega) (by omega), b4 (14 + k) (by omega), e29]
    exact ⟨_, _, _, rfl, rfl, hX.done keeps.rfl' hX.2.2.2.2.2.1 b2⟩
  by_cases y5 : y = 5
  · rw [if_neg y0, if_neg y0, if_neg y1, if_neg y1, if_neg y2, if_neg y2, if_neg y3, if_neg y3, if_neg y4, if_neg y4, if_pos y5, if_pos y5]
    have e7 : (24 : Int32) + nI k = nI (24 + k) := nI_add 24 k
    have e29 : mC.1 31 k = mM.1 33 (24 + k) := by
      have := hX.2.2.2.2.2.2.1.1 (24 + k) (by omega) (by omega)
      unfold cSt at this
      rw [if_neg (by omega), if_neg (by omega), if_neg (by omega), if_pos (by omega), show 24 + k - 24 = k by omega] at this
      exact this
    rw [rd_ok (by omega) (by omega), e7, rd_ok (by omega) (by omega), b4 (24 + k) (by omega), e29]
    exact ⟨_, _, _, rfl, rfl, hX.done keeps.rfl' hX.2.2.2.2.2.1 b2⟩
  by_cases y6 : y = 6
  · rw [if_neg y0, if_neg y0, if_neg y1, if_neg y1, if_neg y2, if_neg y2, if_neg y3, if_neg y3, if_neg y4, if_neg y4, if_neg y5, if_neg y5, if_pos y6, if_pos y6]
    rw [a1, cR_some, gEq_ok, a3.can hT hk, cP_some, b3.can hT hk, cP_some, truth_b _ (canN_lt _ _ _ _), cP_some]
    have e : (if nI (canN T dt sd k) = 0 then some ((0 : Int32), c1) else some (1, c1)) = some (nI (canN T dt sd k), c1) := by
      rcases (show canN T dt sd k = 0 ∨ canN T dt sd k = 1 by have := canN_lt T dt sd k; omega) with z | z <;> rw [z] <;> rfl
    rw [e]
    exact ⟨_, _, _, rfl, rfl, hX.done a2 a3.1.2.2.1 b2⟩
  rw [if_neg y0, if_neg y0, if_neg y1, if_neg y1, if_neg y2, if_neg y2, if_neg y3, if_neg y3, if_neg y4, if_neg y4, if_neg y5, if_neg y5, if_neg y6, if_neg y6]
  exact ⟨_, _, _, rfl, rfl, hX.done keeps.rfl' hX.2.2.2.2.2.1 b2⟩
def isNz (T : Tn) (p h k : Nat) : Prop := tO T k = p ∧ tT T k = h
theorem isNz_d (T : Tn) (p h k : Nat) : isNz T p h k ∨ ¬ isNz T p h k := Classical.em _
section
variable {T : Tn} {m : Mem}
theorem c_noise_no (hT : TOK T) (h : TC T m) {p hh : Nat} (hp : p < tnp T) (h24 : hh < 24) (hn : ∀ k, k < tnn T → ¬ isNz T p hh k) : ∀ (k i : Nat), i + k = tnn T → ∀ f, k < f → gX6_noiseOf m f (tP T) (nI p) (nI hh) (nI i) = some (-1) := by
  have h7 := hT.1
  have h8 := hT.2.2.1
  intro k
  induction k with
  | zero =>
    intro i hi f hf
    obtain ⟨f, rfl⟩ : ∃ g, f = g + 1 := ⟨f - 1, by omega⟩
    rw [gX6_noiseOf, gPl_ok h.pl, h.2.2.2.2.2.1, if_pos (nI_le (by omega) (by omega))]
  | succ k ih =>
    intro i hi f hf
    obtain ⟨f, rfl⟩ : ∃ g, f = g + 1 := ⟨f - 1, by omega⟩
    obtain ⟨e1, e2, e3⟩ := h.2.2.2.2.2.2.2.2.2 i (by omega)
    obtain ⟨n1, n2, _⟩ := hT.2.2.2.2.2.2.1 i (by omega)
    have hni := hn i (by omega)
    rw [gX6_noiseOf, gPl_ok h.pl, h.2.2.2.2.2.1, if_neg (nI_ge (by omega) (by omega)), rd_ok (by omega) (by omega), e1, rd_ok (by omega) (by omega), e2, nI_1]
    by_cases c : tO T i = p
    · rw [if_pos (by rw [c]), if_neg (fun z => hni ⟨c, (nI_eq (by omega) (by omega)).mp z⟩)]
      exact ih (i + 1) (by omega) f (by omega)
    · rw [if_neg (fun z => c ((nI_eq (by omega) (by omega)).mp z))]
      exact ih (i + 1) (by omega) f (by omega)
theorem c_noise_yes (hT : TOK T) (h : TC T m) {p hh n : Nat} (hp : p < tnp T) (h24 : hh < 24) (hn : n < tnn T) (hy : isNz T p hh n) (hb : ∀ k, k < n → ¬ isNz T p hh k) : ∀ (k i : Nat), i + k = n → ∀ f, k < f → gX6_noiseOf m f (tP T) (nI p) (nI hh) (nI i) = some (nI n) := by
  have h7 := hT.1
  have h8 := hT.2.2.1
  intro k
  induction k with
  | zero =>
    intro i hi f hf
    obtain ⟨f, rfl⟩ : ∃ g, f = g + 1 := ⟨f - 1, by omega⟩
    have ei : i = n := by omega
    subst ei
    obtain ⟨e1, e2, e3⟩ := h.2.2.2.2.2.2.2.2.2 i hn
    rw [gX6_noiseOf, gPl_ok h.pl, h.2.2.2.2.2.1, if_neg (nI_ge (by omega) (by omega)), rd_ok (by omega) (by omega), e1, rd_ok (by omega) (by omega), e2, if_pos (by rw [hy.1]), if_pos (by rw [hy.2])]
  | succ k ih =>
    intro i hi f hf
    obtain ⟨f, rfl⟩ : ∃ g, f = g + 1 := ⟨f - 1, by omega⟩
    obtain ⟨e1, e2, e3⟩ := h.2.2.2.2.2.2.2.2.2 i (by omega)
    obtain ⟨n1, n2, _⟩ := hT.2.2.2.2.2.2.1 i (by omega)
    have hni := hb i (by omega)
    rw [gX6_noiseOf, gPl_ok h.pl, h.2.2.2.2.2.1, if_neg (nI_ge (by omega) (by omega)), rd_ok (by omega) (by omega), e1, rd_ok (by omega) (by omega), e2, nI_1]
    by_cases c : tO T i = p
    · rw [if_pos (by rw [c]), if_neg (fun z => hni ⟨c, (nI_eq (by omega) (by omega)).mp z⟩)]
      exact ih (i + 1) (by omega) f (by omega)
    · rw [if_neg (fun z => c ((nI_eq (by omega) (by omega)).mp z))]
      exact ih (i + 1) (by omega) f (by omega)
theorem m_noise_no (hT : TOK T) (h : TM T m) {p hh : Nat} (hp : p < tnp T) (h24 : hh < 24) (x : Int32) : ∀ (k i : Nat), i + k = tnn T → (∀ k, i ≤ k → k < tnn T → ¬ isNz T p hh k) → ∀ f, k < f → gX12_noise m f (nI p) (nI hh) x (nI i) = some x := by
  have h7 := hT.1
  have h8 := hT.2.2.1
  intro k
  induction k with
  | zero =>
    intro i hi hn f hf
    obtain ⟨f, rfl⟩ : ∃ g, f = g + 1 := ⟨f - 1, by omega⟩
    rw [gX12_noise, h.2.2.1, if_pos (nI_le (by omega) (by omega))]
  | succ k ih =>
    intro i hi hn f hf
    obtain ⟨f, rfl⟩ : ∃ g, f = g + 1 := ⟨f - 1, by omega⟩
    obtain ⟨e1, e2, e3⟩ := h.2.2.2.2.2.2 i (by omega)
    obtain ⟨n1, n2, _⟩ := hT.2.2.2.2.2.2.1 i (by omega)
    have hni := hn i (by omega) (by omega)
    rw [gX12_noise, h.2.2.1, if_neg (nI_ge (by omega) (by omega)), rd_ok (by omega) (by omega), e1, rd_ok (by omega) (by omega), e2, nI_1]
    by_cases c : tO T i = p
    · rw [if_pos (by rw [c]), if_neg (fun z => hni ⟨c, (nI_eq (by omega) (by omega)).mp z⟩)]
      exact ih (i + 1) (by omega) (fun k hk => hn k (by omega)) f (by omega)
    · rw [if_neg (fun z => c ((nI_eq (by omega) (by omega)).mp z))]
      exact ih (i + 1) (by omega) (fun k hk => hn k (by omega)) f (by omega)
theorem m_noise_yes (hT : TOK T) (h : TM T m) {p hh n : Nat} (hp : p < tnp T) (h24 : hh < 24) (hn : n < tnn T) (hy : isNz T p hh n) (x : Int32) : ∀ (k i : Nat), i + k = n → ∀ f, k + (tnn T - n) < f → gX12_noise m f (nI p) (nI hh) x (nI i) = some (nI (tL T n)) := by
  have h7 := hT.1
  have h8 := hT.2.2.1
  have hu : ∀ j, j < tnn T → isNz T p hh j → j = n := fun j hj hz => hT.2.2.2.2.2.2.2.1 j n hj hn (by rw [hz.1, hy.1]) (by rw [hz.2, hy.2])
  intro k
  induction k with
  | zero =>
    intro i hi f hf
    obtain ⟨f, rfl⟩ : ∃ g, f = g + 1 := ⟨f - 1, by omega⟩
    have ei : i = n := by omega
    subst ei
    obtain ⟨e1, e2, e3⟩ := h.2.2.2.2.2.2 i hn
    rw [gX12_noise, h.2.2.1, if_neg (nI_ge (by omega) (by omega)), rd_ok (by omega) (by omega), e1, rd_ok (by omega) (by omega), e2, rd_ok (by omega) (by omega), e3, if_pos (by rw [hy.1]), if_pos (by rw [hy.2]), nI_1]
    exact m_noise_no hT h hp h24 _ (tnn T - (i + 1)) (i + 1) (by omega) (fun j hj hj2 hz => by have := hu j hj2 hz; omega) f (by omega)
  | succ k ih =>
    intro i hi f hf
    obtain ⟨f, rfl⟩ : ∃ g, f = g + 1 := ⟨f - 1, by omega⟩
    obtain ⟨e1, e2, e3⟩ := h.2.2.2.2.2.2 i (by omega)
    obtain ⟨n1, n2, _⟩ := hT.2.2.2.2.2.2.1 i (by omega)
    have hni : ¬ isNz T p hh i := fun z => by have := hu i (by omega) z; omega
    rw [gX12_noise, h.2.2.1, if_neg (nI_ge (by omega) (by omega)), rd_ok (by omega) (by omega), e1, rd_ok (by omega) (by omega), e2, nI_1]
    by_cases c : tO T i = p
    · rw [if_pos (by rw [c]), if_neg (fun z => hni ⟨c, (nI_eq (by omega) (by omega)).mp z⟩)]
      exact ih (i + 1) (by omega) f (by omega)
    · rw [if_neg (fun z => c ((nI_eq (by omega) (by omega)).mp z))]
      exact ih (i + 1) (by omega) f (by omega)
end
theorem o_noise : Ob_noise Rl := by
  intro mC mM x y hR
  obtain ⟨T, hX⟩ : ∃ T, RX T mC mM := id hR
  obtain ⟨sd, q, hr, dt, hQ⟩ := hX.cb
  have hT := hX.1
  have h2 := hX.2.1
  have h3 := hX.2.2.1
  have h7 := hT.1
  have h8 := hT.2.2.1
  have h10 := hT.2.1
  unfold fX11_noise fX12_noise
  rcases hX.person x with ⟨e1, e2⟩ | ⟨p, hp, rfl, e1, e2⟩
  · rw [e1, e2, cP_some, cP_some]
    exact ⟨_, by rw [if_pos rfl], by rw [if_pos rfl], hR⟩
  rw [e1, e2, cP_some, cP_some, if_neg i10, if_neg i10]
  rcases hour_c y with ⟨e1, e2⟩ | ⟨hh, h24, rfl, e1, e2⟩
  · rw [e1, e2, cP_some, cP_some]
    exact ⟨_, by rw [if_pos rfl], by rw [if_pos rfl], hR⟩
  rw [e1, e2, cP_some, cP_some, if_neg i10, if_neg i10]
  unfold fX6_noiseOf
  rw [gPl_T h2, h2.2.1]
  by_cases hx : ∃ n, n < tnn T ∧ isNz T p hh n
  · obtain ⟨n, hn, hy⟩ := hx
    have hu : ∀ k, k < n → ¬ isNz T p hh k := fun j hj hz => by
      have := hT.2.2.2.2.2.2.2.1 j n (by omega) hn (by rw [hz.1, hy.1]) (by rw [hz.2, hy.2])
      omega
    rw [show gX6_noiseOf mC 5000 (tP T) (nI p) (nI hh) 0 = _ from c_noise_yes hT h2 hp h24 hn hy hu n 0 (by omega) 5000 (by omega), cP_some, show gX12_noise mM 5000 (nI p) (nI hh) 0 0 = _ from m_noise_yes hT h3 hp h24 hn hy 0 n 0 (by omega) 5000 (by omega)]
    rw [if_neg (fun z => nI_lt0 (k := n) (by omega) (by rw [z]; decide)), rd_ok (by omega) (by omega), (h2.2.2.2.2.2.2.2.2.2 n hn).2.2]
    exact ⟨_, rfl, rfl, hR⟩
  · have hn : ∀ k, k < tnn T → ¬ isNz T p hh k := fun k hk hz => hx ⟨k, hk, hz⟩
    rw [show gX6_noiseOf mC 5000 (tP T) (nI p) (nI hh) 0 = _ from c_noise_no hT h2 hp h24 hn (tnn T) 0 (by omega) 5000 (by omega), cP_some, show gX12_noise mM 5000 (nI p) (nI hh) 0 0 = _ from m_noise_no hT h3 hp h24 0 (tnn T) 0 (by omega) (fun k _ hk => hn k hk) 5000 (by omega), if_pos rfl]
    exact ⟨_, rfl, rfl, hR⟩
