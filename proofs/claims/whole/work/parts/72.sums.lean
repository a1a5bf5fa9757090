/-! ===== sums and sets over a day ===== -/
def orB (f : Nat → Nat) : Nat → Nat
  | 0 => 0
  | n + 1 => orB f n ||| (if f n = 0 then 0 else 2 ^ n)
theorem orB_lt (f : Nat → Nat) : ∀ n, orB f n < 2 ^ n
  | 0 => Nat.one_pos
  | n + 1 => by
    have h := orB_lt f n
    rw [orB]
    refine Nat.or_lt_two_pow (by rw [Nat.pow_succ]; omega) ?_
    split
    · exact Nat.two_pow_pos _
    · exact Nat.pow_lt_pow_right (by decide) (by omega)
theorem orB_y {f : Nat → Nat} {n : Nat} (h : ¬ f n = 0) : orB f (n + 1) = orB f n ||| 2 ^ n := by rw [orB, if_neg h]
theorem orB_n {f : Nat → Nat} {n : Nat} (h : f n = 0) : orB f (n + 1) = orB f n := by rw [orB, if_pos h, Nat.or_zero]
theorem sh_b : ∀ b, b < 2 → ∀ p, p < 31 → nI b <<< (nI p &&& 31) = nI (if b = 0 then 0 else 2 ^ p) := by decide +kernel
theorem truth_b : ∀ b, b < 2 → fX12_truth (nI b) = some (nI b) := by decide +kernel
theorem add_z (x : Int32) : x + (0 : Int32) = x := Int32.add_zero x
theorem or_z (x : Int32) : x ||| (0 : Int32) = x := Int32.or_zero
section
variable {T : Tn} {d : Nat} {sd : Nat → Nat} {q : Nat} {m : Mem}
theorem CD.whoG (hT : TOK T) (h : CD T d sd q m) {hh : Nat} (h24 : hh < 24) : ∀ (k i : Nat), i + k = tnp T → ∀ (f : Nat), k < f → gX9_whoIsAwake m f (nI hh) (nI (orB (fun p => awN T d (sd p) hh) i)) (nI i) = some (nI (orB (fun p => awN T d (sd p) hh) (tnp T))) := by
  have h7 := hT.1
  intro k
  induction k with
  | zero =>
    intro i hi f hf
    obtain ⟨f, rfl⟩ : ∃ g, f = g + 1 := ⟨f - 1, by omega⟩
    have ei : i = tnp T := by omega
    subst ei
    rw [gX9_whoIsAwake, gPl_T h.1.1, h.1.1.2.1, h.1.1.2.2.2.1, if_pos (nI_le (by omega) (by omega))]
  | succ k ih =>
    intro i hi f hf
    obtain ⟨f, rfl⟩ : ∃ g, f = g + 1 := ⟨f - 1, by omega⟩
    rw [gX9_whoIsAwake, gPl_T h.1.1, h.1.1.2.1, h.1.1.2.2.2.1, if_neg (nI_ge (by omega) (by omega)), h.awake hT (by omega) h24, cP_some, nm_eq, nm_eq, nI_1]
    by_cases c : awN T d (sd i) hh = 0
    · rw [if_pos (by rw [c]; rfl), or_z]
      have e : orB (fun p => awN T d (sd p) hh) (i + 1) = orB (fun p => awN T d (sd p) hh) i := orB_n c
      rw [← e]
      exact ih (i + 1) (by omega) f (by omega)
    · rw [if_neg (fun e => c ((nI_b0 (awN_lt _ _ _ _)).mp e)), sh_pow i (by omega), fa_or]
      have e : orB (fun p => awN T d (sd p) hh) (i + 1) = orB (fun p => awN T d (sd p) hh) i ||| 2 ^ i := orB_y c
      rw [← e]
      exact ih (i + 1) (by omega) f (by omega)
theorem CD.who (hT : TOK T) (h : CD T d sd q m) {hh : Nat} (h24 : hh < 24) : fX9_whoIsAwake m (nI hh) = some (nI (orB (fun p => awN T d (sd p) hh) (tnp T))) := CD.whoG hT h h24 (tnp T) 0 (by omega) 5000 (by have := hT.1; omega)
theorem MD.whoG (hT : TOK T) (h : MD T d sd q m) {hh : Nat} (h24 : hh < 24) : ∀ (k i : Nat), i + k = tnp T → ∀ (f : Nat), k < f → gX12_awakeSet m f (nI hh) (nI (orB (fun p => awN T d (sd p) hh) i)) (nI i) = some (nI (orB (fun p => awN T d (sd p) hh) (tnp T))) := by
  have h7 := hT.1
  intro k
  induction k with
  | zero =>
    intro i hi f hf
    obtain ⟨f, rfl⟩ : ∃ g, f = g + 1 := ⟨f - 1, by omega⟩
    have ei : i = tnp T := by omega
    subst ei
    rw [gX12_awakeSet, h.1.1, if_pos (nI_le (by omega) (by omega))]
  | succ k ih =>
    intro i hi f hf
    obtain ⟨f, rfl⟩ : ∃ g, f = g + 1 := ⟨f - 1, by omega⟩
    rw [gX12_awakeSet, h.1.1, if_neg (nI_ge (by omega) (by omega)), h.awake hT (by omega) h24, cP_some, truth_b _ (awN_lt _ _ _ _), cP_some, nm_eq, sh_b _ (awN_lt _ _ _ _) i (by omega), fa_or, nI_1]
    exact ih (i + 1) (by omega) f (by omega)
theorem MD.who (hT : TOK T) (h : MD T d sd q m) {hh : Nat} (h24 : hh < 24) : fX12_awakeSet m (nI hh) = some (nI (orB (fun p => awN T d (sd p) hh) (tnp T))) := MD.whoG hT h h24 (tnp T) 0 (by omega) 5000 (by have := hT.1; omega)
end
def hAt (T : Tn) (d : Nat) (sd : Nat → Nat) (q p h : Nat) : Nat → Nat := fb_sm (fun k => if tT T k = h then harmN T d sd q k p else 0)
def hOn (T : Tn) (d : Nat) (sd : Nat → Nat) (q p : Nat) : Nat → Nat := fb_sm (fun k => harmN T d sd q k p)
def hAll (T : Tn) (d : Nat) (sd : Nat → Nat) (q : Nat) : Nat → Nat := fb_sm (fun p => hOn T d sd q p (tnn T))
section
variable {T : Tn} {d : Nat} {sd : Nat → Nat} {q : Nat} {m : Mem}
theorem CD.harmAtG (hT : TOK T) {p hh : Nat} (hp : p < tnp T) (h24 : hh < 24) : ∀ (k i : Nat), i + k = tnn T → ∀ (m : Mem) (f : Nat), k < f → CD T d sd q m → ∃ m', gX9_harmAt f (nI p) (nI hh) (nI (hAt T d sd q p hh i)) (nI i) m = some (nI (hAt T d sd q p hh (tnn T)), m') ∧ keeps [tP T + 20] m m' ∧ CD T d sd q m' := by
  have h7 := hT.1
  have h8 := hT.2.2.1
  have h10 := hT.2.1
  intro k
  induction k with
  | zero =>
    intro i hi m f hf h
    obtain ⟨f, rfl⟩ : ∃ g, f = g + 1 := ⟨f - 1, by omega⟩
    have ei : i = tnn T := by omega
    subst ei
    exact ⟨m, by rw [gX9_harmAt, gPl_T h.1.1, h.1.1.2.1, h.1.1.2.2.2.2.2.1, if_pos (nI_le (by omega) (by omega))], keeps.rfl', h⟩
  | succ k ih =>
    intro i hi m f hf h
    obtain ⟨f, rfl⟩ : ∃ g, f = g + 1 := ⟨f - 1, by omega⟩
    obtain ⟨e1, e2, e3⟩ := h.1.1.2.2.2.2.2.2.2.2.2 i (by omega)
    have t24 := (hT.2.2.2.2.2.2.1 i (by omega)).2.1
    rw [gX9_harmAt, gPl_T h.1.1, h.1.1.2.1, h.1.1.2.2.2.2.2.1, if_neg (nI_ge (by omega) (by omega)), rd_ok (by omega) (by omega), e2]
    by_cases c : tT T i = hh
    · obtain ⟨m1, a1, a2, a3⟩ := h.harm hT (show i < tnn T by omega) hp
      have e : hAt T d sd q p hh (i + 1) = hAt T d sd q p hh i + harmN T d sd q i p := by unfold hAt; rw [fb_sm_succ, if_pos c]
      rw [if_pos (by rw [c]), a1, cI_some, nm_eq, nI_add, nI_1, ← e]
      obtain ⟨m', q1, q2, q3⟩ := ih (i + 1) (by omega) m1 f (by omega) a3
      exact ⟨m', q1, a2.trans q2, q3⟩
    · have e : hAt T d sd q p hh (i + 1) = hAt T d sd q p hh i := by unfold hAt; rw [fb_sm_succ, if_neg c]; rfl
      rw [if_neg (fun z => c ((nI_eq (by omega) (by omega)).mp z)), nm_eq, add_z, nI_1, ← e]
      exact ih (i + 1) (by omega) m f (by omega) h
theorem CD.harmAt (hT : TOK T) (h : CD T d sd q m) {p hh : Nat} (hp : p < tnp T) (h24 : hh < 24) : ∃ m', fX9_harmAt m (nI p) (nI hh) = some (nI (hAt T d sd q p hh (tnn T)), m') ∧ keeps [tP T + 20] m m' ∧ CD T d sd q m' := CD.harmAtG hT hp h24 (tnn T) 0 (by omega) m 5000 (by have := hT.2.2.1; omega) h
theorem MD.harmAtG (hT : TOK T) (h : MD T d sd q m) (hq : q < 128) {p hh : Nat} (hp : p < tnp T) (h24 : hh < 24) : ∀ (k i : Nat), i + k = tnn T → ∀ (f : Nat), k < f → gX12_harmAt m f (nI p) (nI hh) (nI (hAt T d sd q p hh i)) (nI i) = some (nI (hAt T d sd q p hh (tnn T))) := by
  have h7 := hT.1
  have h8 := hT.2.2.1
  intro k
  induction k with
  | zero =>
    intro i hi f hf
    obtain ⟨f, rfl⟩ : ∃ g, f = g + 1 := ⟨f - 1, by omega⟩
    have ei : i = tnn T := by omega
    subst ei
    rw [gX12_harmAt, h.1.2.2.1, if_pos (nI_le (by omega) (by omega))]
  | succ k ih =>
    intro i hi f hf
    obtain ⟨f, rfl⟩ : ∃ g, f = g + 1 := ⟨f - 1, by omega⟩
    obtain ⟨e1, e2, e3⟩ := h.1.2.2.2.2.2.2 i (by omega)
    have t24 := (hT.2.2.2.2.2.2.1 i (by omega)).2.1
    rw [gX12_harmAt, h.1.2.2.1, if_neg (nI_ge (by omega) (by omega)), rd_ok (by omega) (by omega), e2]
    by_cases c : tT T i = hh
    · have e : hAt T d sd q p hh (i + 1) = hAt T d sd q p hh i + harmN T d sd q i p := by unfold hAt; rw [fb_sm_succ, if_pos c]
      rw [if_pos (by rw [c]), h.harm hT hq (by omega) hp, cP_some, nm_eq, nI_add, nI_1, ← e]
      exact ih (i + 1) (by omega) f (by omega)
    · have e : hAt T d sd q p hh (i + 1) = hAt T d sd q p hh i := by unfold hAt; rw [fb_sm_succ, if_neg c]; rfl
      rw [if_neg (fun z => c ((nI_eq (by omega) (by omega)).mp z)), nm_eq, add_z, nI_1, ← e]
      exact ih (i + 1) (by omega) f (by omega)
theorem MD.harmAt (hT : TOK T) (h : MD T d sd q m) (hq : q < 128) {p hh : Nat} (hp : p < tnp T) (h24 : hh < 24) : fX12_harmAt m (nI p) (nI hh) = some (nI (hAt T d sd q p hh (tnn T))) := MD.harmAtG hT h hq hp h24 (tnn T) 0 (by omega) 5000 (by have := hT.2.2.1; omega)
theorem CD.harmOnG (hT : TOK T) {p : Nat} (hp : p < tnp T) : ∀ (k i : Nat), i + k = tnn T → ∀ (m : Mem) (f : Nat), k < f → CD T d sd q m → ∃ m', gX9_harmOn f (nI p) (nI (hOn T d sd q p i)) (nI i) m = some (nI (hOn T d sd q p (tnn T)), m') ∧ keeps [tP T + 20] m m' ∧ CD T d sd q m' := by
  have h7 := hT.1
  have h8 := hT.2.2.1
  have h10 := hT.2.1
  intro k
  induction k with
  | zero =>
    intro i hi m f hf h
    obtain ⟨f, rfl⟩ : ∃ g, f = g + 1 := ⟨f - 1, by omega⟩
    have ei : i = tnn T := by omega
    subst ei
    exact ⟨m, by rw [gX9_harmOn, gPl_T h.1.1, h.1.1.2.1, h.1.1.2.2.2.2.2.1, if_pos (nI_le (by omega) (by omega))], keeps.rfl', h⟩
  | succ k ih =>
    intro i hi m f hf h
    obtain ⟨f, rfl⟩ : ∃ g, f = g + 1 := ⟨f - 1, by omega⟩
    obtain ⟨m1, a1, a2, a3⟩ := h.harm hT (show i < tnn T by omega) hp
    rw [gX9_harmOn, gPl_T h.1.1, h.1.1.2.1, h.1.1.2.2.2.2.2.1, if_neg (nI_ge (by omega) (by omega)), a1, cI_some, nm_eq, nI_add, nI_1]
    obtain ⟨m', q1, q2, q3⟩ := ih (i + 1) (by omega) m1 f (by omega) a3
    exact ⟨m', q1, a2.trans q2, q3⟩
theorem CD.harmOn (hT : TOK T) (h : CD T d sd q m) {p : Nat} (hp : p < tnp T) : ∃ m', fX9_harmOn m (nI p) = some (nI (hOn T d sd q p (tnn T)), m') ∧ keeps [tP T + 20] m m' ∧ CD T d sd q m' := CD.harmOnG hT hp (tnn T) 0 (by omega) m 5000 (by have := hT.2.2.1; omega) h
theorem MD.harmOfG (hT : TOK T) (h : MD T d sd q m) (hq : q < 128) {p : Nat} (hp : p < tnp T) : ∀ (k i : Nat), i + k = tnn T → ∀ (f : Nat), k < f → gX12_harmOf m f (nI p) (nI (hOn T d sd q p i)) (nI i) = some (nI (hOn T d sd q p (tnn T))) := by
  have h8 := hT.2.2.1
  intro k
  induction k with
  | zero =>
    intro i hi f hf
    obtain ⟨f, rfl⟩ : ∃ g, f = g + 1 := ⟨f - 1, by omega⟩
    have ei : i = tnn T := by omega
    subst ei
    rw [gX12_harmOf, h.1.2.2.1, if_pos (nI_le (by omega) (by omega))]
  | succ k ih =>
    intro i hi f hf
    obtain ⟨f, rfl⟩ : ∃ g, f = g + 1 := ⟨f - 1, by omega⟩
    rw [gX12_harmOf, h.1.2.2.1, if_neg (nI_ge (by omega) (by omega)), h.harm hT hq (by omega) hp, cP_some, nm_eq, nI_add, nI_1]
    exact ih (i + 1) (by omega) f (by omega)
theorem MD.harmOf (hT : TOK T) (h : MD T d sd q m) (hq : q < 128) {p : Nat} (hp : p < tnp T) : fX12_harmOf m (nI p) = some (nI (hOn T d sd q p (tnn T))) := MD.harmOfG hT h hq hp (tnn T) 0 (by omega) 5000 (by have := hT.2.2.1; omega)
theorem MD.allHarmG (hT : TOK T) (h : MD T d sd q m) (hq : q < 128) : ∀ (k i : Nat), i + k = tnp T → ∀ (f : Nat), k < f → gX12_allHarm m f (nI (hAll T d sd q i)) (nI i) = some (nI (hAll T d sd q (tnp T))) := by
  have h7 := hT.1
  intro k
  induction k with
  | zero =>
    intro i hi f hf
    obtain ⟨f, rfl⟩ : ∃ g, f = g + 1 := ⟨f - 1, by omega⟩
    have ei : i = tnp T := by omega
    subst ei
    rw [gX12_allHarm, h.1.1, if_pos (nI_le (by omega) (by omega))]
  | succ k ih =>
    intro i hi f hf
    obtain ⟨f, rfl⟩ : ∃ g, f = g + 1 := ⟨f - 1, by omega⟩
    rw [gX12_allHarm, h.1.1, if_neg (nI_ge (by omega) (by omega)), h.harmOf hT hq (by omega), cP_some, nm_eq, nI_add, nI_1]
    exact ih (i + 1) (by omega) f (by omega)
theorem MD.allHarm (hT : TOK T) (h : MD T d sd q m) (hq : q < 128) : fX12_allHarm m = some (nI (hAll T d sd q (tnp T))) := MD.allHarmG hT h hq (tnp T) 0 (by omega) 5000 (by have := hT.1; omega)
end
theorem o_light : Ob_light Rl := by
  intro mC mM x y hR
  obtain ⟨T, hX⟩ : ∃ T, RX T mC mM := id hR
  obtain ⟨sd, q, hr, dt, hQ⟩ := hX.cb
  have hT := hX.1
  have h2 := hX.2.1
  have h3 := hX.2.2.1
  have h7 := hT.1
  have h8 := hT.2.2.1
  have h10 := hT.2.1
  unfold fX11_light fX12_light
  rcases date_c x with ⟨e1, e2⟩ | ⟨d, hd, rfl, e1, e2⟩
  · rw [e1, e2, cP_some, cP_some]
    exact ⟨_, _, _, by rw [if_pos rfl], by rw [if_pos rfl], hR⟩
  rw [e1, e2, cP_some, cP_some, if_neg i10, if_neg i10]
  obtain ⟨c1, a1, a2, a3⟩ := hQ.cb.day hT hd
  obtain ⟨m1, b1, b2⟩ := m_dawn hT hX.2.2.2.2.1 d
  obtain ⟨m2, e1, e2⟩ := m_dusk hT hX.2.2.2.2.1 d
  rw [a1, b1, e1, cR_some, cR_some, cI_some, cI_some, gEq_ok, gEq_ok, a3.2.2.1, a3.2.2.2.1]
  by_cases c0 : y = 0
  · rw [if_pos c0]
    exact ⟨_, _, _, rfl, by rw [if_pos c0], hX.done a2 a3.1.2.2.1 (b2.mono (by simp <;> omega))⟩
  · rw [if_neg c0]
    by_cases c1 : y = 1
    · rw [if_pos c1]
      exact ⟨_, _, _, rfl, by rw [if_neg c0, if_pos c1], hX.done a2 a3.1.2.2.1 (e2.mono (by simp <;> omega))⟩
    · rw [if_neg c1]
      exact ⟨_, _, _, rfl, by rw [if_neg c0, if_neg c1], hR⟩
theorem o_awake : Ob_awake Rl := by
  intro mC mM x y hR
  obtain ⟨T, hX⟩ : ∃ T, RX T mC mM := id hR
  obtain ⟨sd, q, hr, dt, hQ⟩ := hX.cb
  have hT := hX.1
  have h2 := hX.2.1
  have h3 := hX.2.2.1
  have h7 := hT.1
  have h8 := hT.2.2.1
  have h10 := hT.2.1
  unfold fX11_awake fX12_awake
  rcases date_c x with ⟨e1, e2⟩ | ⟨d, hd, rfl, e1, e2⟩
  · rw [e1, e2, cP_some, cP_some]
    exact ⟨_, _, _, by rw [if_pos rfl], by rw [if_pos rfl], hR⟩
  rw [e1, e2, cP_some, cP_some, if_neg i10, if_neg i10]
  rcases hour_c y with ⟨e1, e2⟩ | ⟨hh, h24, rfl, e1, e2⟩
  · rw [e1, e2, cP_some, cP_some]
    exact ⟨_, _, _, by rw [if_pos rfl], by rw [if_pos rfl], hR⟩
  rw [e1, e2, cP_some, cP_some, if_neg i10, if_neg i10]
  obtain ⟨c1, a1, a2, a3⟩ := hQ.cb.day hT hd
  obtain ⟨m1, b1, b2, b3, b4⟩ := hX.load hQ d
  rw [a1, b1, cR_some, cV_some, gEq_ok, a3.who hT h24, b3.who hT h24, cP_some, cP_some]
  exact ⟨_, _, _, rfl, rfl, hX.done a2 a3.1.2.2.1 b2⟩
theorem o_common : Ob_common Rl := by
  intro mC mM x y z hR
  obtain ⟨T, hX⟩ : ∃ T, RX T mC mM := id hR
  obtain ⟨sd, q, hr, dt, hQ⟩ := hX.cb
  have hT := hX.1
  have h2 := hX.2.1
  have h3 := hX.2.2.1
  have h7 := hT.1
  have h8 := hT.2.2.1
  have h10 := hT.2.1
  unfold fX11_common fX12_common
  rcases hX.person x with ⟨e1, e2⟩ | ⟨p, hp, rfl, e1, e2⟩
  · rw [e1, e2, cP_some, cP_some]
    exact ⟨_, _, _, by rw [if_pos rfl], by rw [if_pos rfl], hR⟩
  rw [e1, e2, cP_some, cP_some, if_neg i10, if_neg i10]
  rcases hX.person y with ⟨e1, e2⟩ | ⟨r, hr2, rfl, e1, e2⟩
  · rw [e1, e2, cP_some, cP_some]
    exact ⟨_, _, _, by rw [if_pos rfl], by rw [if_pos rfl], hR⟩
  rw [e1, e2, cP_some, cP_some, if_neg i10, if_neg i10]
  rcases date_c z with ⟨e1, e2⟩ | ⟨d, hd, rfl, e1, e2⟩
  · rw [e1, e2, cP_some, cP_some]
    exact ⟨_, _, _, by rw [if_pos rfl], by rw [if_pos rfl], hR⟩
  rw [e1, e2, cP_some, cP_some, if_neg i10, if_neg i10]
  obtain ⟨c1, a1, a2, a3⟩ := hQ.cb.day hT hd
  obtain ⟨m1, b1, b2, b3, b4⟩ := hX.load hQ d
  rw [a1, b1, cR_some, cV_some, gEq_ok, a3.together hT hp hr2, b3.common hT hp hr2, cP_some, cP_some]
  exact ⟨_, _, _, rfl, rfl, hX.done a2 a3.1.2.2.1 b2⟩
theorem o_harmed : Ob_harmed Rl := by
  intro mC mM x z hR
  obtain ⟨T, hX⟩ : ∃ T, RX T mC mM := id hR
  obtain ⟨sd, q, hr, dt, hQ⟩ := hX.cb
  have hT := hX.1
  have h2 := hX.2.1
  have h3 := hX.2.2.1
  have h7 := hT.1
  have h8 := hT.2.2.1
  have h10 := hT.2.1
  unfold fX11_harmed fX12_harmed
  rcases hX.person x with ⟨e1, e2⟩ | ⟨p, hp, rfl, e1, e2⟩
  · rw [e1, e2, cP_some, cP_some]
    exact ⟨_, _, _, by rw [if_pos rfl], by rw [if_pos rfl], hR⟩
  rw [e1, e2, cP_some, cP_some, if_neg i10, if_neg i10]
  rcases date_c z with ⟨e1, e2⟩ | ⟨d, hd, rfl, e1, e2⟩
  · rw [e1, e2, cP_some, cP_some]
    exact ⟨_, _, _, by rw [if_pos rfl], by rw [if_pos rfl], hR⟩
  rw [e1, e2, cP_some, cP_some, if_neg i10, if_neg i10]
  obtain ⟨c1, a1, a2, a3⟩ := hQ.cb.day hT hd
  obtain ⟨m1, b1, b2, b3, b4⟩ := hX.load hQ d
  obtain ⟨c2, e1, e2, e3⟩ := a3.harmOn hT hp
  rw [a1, b1, cR_some, cV_some, gEq_ok, e1, b3.harmOf hT hQ.q128 hp, cP_some, cI_some]
  exact ⟨_, _, _, rfl, rfl, hX.done (a2.trans (e2.mono (by simp))) e3.1.2.2.1 b2⟩
