/-! ===== can, never, dates, bliss, joy, lonely, hinges ===== -/
section
variable {T : Tn} {d : Nat} {sd : Nat → Nat} {q : Nat} {m : Mem}
theorem CB.canG (hT : TOK T) (hd : d < 365) : ∀ (k i : Nat), i + k = tnm T → ∀ (m : Mem) (f : Nat), k < f → CB T sd q m → ∃ m', gX11_can f (nI d) (nI (orB (canN T d sd) i)) (nI i) m = some (nI (orB (canN T d sd) (tnm T)), m') ∧ keeps (SC T) m m' ∧ CB T sd q m' := by
  have h7 := hT.1
  have h8 := hT.2.2.1
  have h10 := hT.2.1
  intro k
  induction k with
  | zero =>
    intro i hi m f hf h
    obtain ⟨f, rfl⟩ : ∃ g, f = g + 1 := ⟨f - 1, by omega⟩
    have ei : i = tnm T := by omega
    subst ei
    exact ⟨m, by rw [gX11_can, gPl_T h.1, h.1.2.1, h.1.2.2.2.2.1, if_pos (nI_le (by omega) (by omega))], keeps.rfl', h⟩
  | succ k ih =>
    intro i hi m f hf h
    obtain ⟨f, rfl⟩ : ∃ g, f = g + 1 := ⟨f - 1, by omega⟩
    obtain ⟨m1, a1, a2, a3⟩ := h.day hT hd
    rw [gX11_can, gPl_T h.1, h.1.2.1, h.1.2.2.2.2.1, if_neg (nI_ge (by omega) (by omega)), a1, cR_some, gEq_ok, a3.can hT (by omega), cP_some, nm_eq, nm_eq, nI_1]
    by_cases c : canN T d sd i = 0
    · rw [if_pos (by rw [c]; rfl), or_z, ← orB_n (f := canN T d sd) c]
      obtain ⟨m', q1, q2, q3⟩ := ih (i + 1) (by omega) m1 f (by omega) a3.1
      exact ⟨m', q1, a2.trans q2, q3⟩
    · rw [if_neg (fun e => c ((nI_b0 (canN_lt _ _ _ _)).mp e)), sh_pow i (by omega), fa_or, ← orB_y (f := canN T d sd) c]
      obtain ⟨m', q1, q2, q3⟩ := ih (i + 1) (by omega) m1 f (by omega) a3.1
      exact ⟨m', q1, a2.trans q2, q3⟩
theorem MD.canSetG (hT : TOK T) (h : MD T d sd q m) : ∀ (k i : Nat), i + k = tnm T → ∀ (f : Nat), k < f → gX12_canSet m f (nI (orB (canN T d sd) i)) (nI i) = some (nI (orB (canN T d sd) (tnm T))) := by
  have h10 := hT.2.1
  intro k
  induction k with
  | zero =>
    intro i hi f hf
    obtain ⟨f, rfl⟩ : ∃ g, f = g + 1 := ⟨f - 1, by omega⟩
    have ei : i = tnm T := by omega
    subst ei
    rw [gX12_canSet, h.1.2.1, if_pos (nI_le (by omega) (by omega))]
  | succ k ih =>
    intro i hi f hf
    obtain ⟨f, rfl⟩ : ∃ g, f = g + 1 := ⟨f - 1, by omega⟩
    rw [gX12_canSet, h.1.2.1, if_neg (nI_ge (by omega) (by omega)), h.can hT (by omega), cP_some, truth_b _ (canN_lt _ _ _ _), cP_some, nm_eq, sh_b _ (canN_lt _ _ _ _) i (by omega), fa_or, nI_1]
    exact ih (i + 1) (by omega) f (by omega)
end
theorem o_can : Ob_can Rl := by
  intro mC mM x hR
  obtain ⟨T, hX⟩ : ∃ T, RX T mC mM := id hR
  obtain ⟨sd, q, hr, dt, hQ⟩ := hX.cb
  have hT := hX.1
  have h2 := hX.2.1
  have h3 := hX.2.2.1
  have h7 := hT.1
  have h8 := hT.2.2.1
  have h10 := hT.2.1
  unfold fX11_can fX12_can fX12_canSet
  rcases date_c x with ⟨e1, e2⟩ | ⟨d, hd, rfl, e1, e2⟩
  · rw [e1, e2, cP_some, cP_some]
    exact ⟨_, _, _, by rw [if_pos rfl], by rw [if_pos rfl], hR⟩
  rw [e1, e2, cP_some, cP_some, if_neg i10, if_neg i10]
  obtain ⟨m1, b1, b2, b3, b4⟩ := hX.load hQ d
  obtain ⟨c1, a1, a2, a3⟩ := CB.canG hT hd (tnm T) 0 (by omega) mC 5000 (by omega) hQ.cb
  rw [show gX11_can 5000 (nI d) 0 0 mC = _ from a1, b1, cV_some, show gX12_canSet m1 5000 0 0 = _ from MD.canSetG hT b3 (tnm T) 0 (by omega) 5000 (by omega), cP_some]
  exact ⟨_, _, _, rfl, rfl, hX.done a2 a3.2.2.1 b2⟩
def MB (T : Tn) (sd : Nat → Nat) (q : Nat) (m : Mem) : Prop := TM T m ∧ FM T m ∧ (∀ p, p < tnp T → sd p < 3 ∧ m.1 34 p = nI (sd p)) ∧ m.1 34 34 = nI q
section
variable {T : Tn} {d : Nat} {sd : Nat → Nat} {q : Nat} {m : Mem}
theorem MB.lay (hT : TOK T) (h : MB T sd q m) (d : Nat) : ∃ m', fX12_layDate m (nI d) = some m' ∧ keeps [10, 13, 35, 36] m m' ∧ MB T sd q m' ∧ MD T d sd q m' := by
  obtain ⟨m', a1, a2, a3, a4⟩ := m_layDate hT h.1 h.2.1 d
  have k1 : TM T m' := h.1.kp a2 (by simp <;> omega)
  have k2 : ∀ p, p < tnp T → sd p < 3 ∧ m'.1 34 p = nI (sd p) := by rw [a2.2 34 (by simp)]; exact h.2.2.1
  have k3 : m'.1 34 34 = nI q := by rw [a2.2 34 (by simp)]; exact h.2.2.2
  exact ⟨m', a1, a2, ⟨k1, h.2.1.kp a2 (by simp), k2, k3⟩, ⟨k1, a3, a4, k2, k3⟩⟩
theorem MB.canOn (hT : TOK T) (h : MB T sd q m) (d : Nat) {k : Nat} (hk : k < tnm T) : ∃ m', fX12_canOn m (nI k) (nI d) = some (nI (canN T d sd k), m') ∧ keeps [10, 13, 35, 36] m m' ∧ MB T sd q m' := by
  obtain ⟨m', a1, a2, a3, a4⟩ := h.lay hT d
  refine ⟨m', ?_, a2, a3⟩
  unfold fX12_canOn
  rw [a1, cV_some, a4.can hT hk, cP_some, tz_b (canN_lt _ _ _ _)]
theorem RX.mb {c : Mem} (h : RX T c m) {hr dt : Nat} (hQ : QS T sd q hr dt c m) : ∃ m', fX12_load m = some m' ∧ keeps [34] m m' ∧ MB T sd q m' := by
  have h7 := h.1.1
  obtain ⟨m', a1, a2, a3⟩ := m_loaded m
  exact ⟨m', a1, a2, h.2.2.1.kp a2 (by simp <;> omega), h.2.2.2.2.1.kp a2 (by simp), fun p hp => ⟨(hQ.side p hp).1, by rw [a3 p (by omega)]; exact (hQ.side p hp).2⟩, by rw [a3 34 (by omega)]; exact hQ.quiet⟩
theorem neverG (hT : TOK T) {x dt : Nat} (hx : x < tnm T) (hdt : dt < 365) : ∀ (k i : Nat), i + k = 365 → ∀ (c m : Mem) (f : Nat), k < f → CB T sd q c → c.1 27 6 = nI dt → MB T sd q m → m.1 33 36 = nI dt → ∃ r c' m', gX11_never f (nI x) (nI i) c = some (r, c') ∧ gX12_never f (nI x) (nI i) m = some (r, m') ∧ keeps (SC T) c c' ∧ CB T sd q c' ∧ keeps [10, 13, 35, 36] m m' := by
  intro k
  induction k with
  | zero =>
    intro i hi c m f hf h hc hm hm2
    obtain ⟨f, rfl⟩ : ∃ g, f = g + 1 := ⟨f - 1, by omega⟩
    have ei : i = 365 := by omega
    subst ei
    refine ⟨-1, c, m, ?_, ?_, keeps.rfl', h, keeps.rfl'⟩
    · rw [gX11_never, if_pos (show (365 : Int32) ≤ nI 365 from nI_le (a := 365) (by omega) (by omega))]
    · rw [gX12_never, if_pos (show (365 : Int32) ≤ nI 365 from nI_le (a := 365) (by omega) (by omega))]
  | succ k ih =>
    intro i hi c m f hf h hc hm hm2
    obtain ⟨f, rfl⟩ : ∃ g, f = g + 1 := ⟨f - 1, by omega⟩
    have hP := h.1.pl
    have em : (nI dt + nI i) - (nI dt + nI i) / (365 : Int32) * (365 : Int32) = nI ((dt + i) % 365) := by rw [nI_add]; exact pk_rem (d := 365) (by omega) (by omega) (by omega)
    have hlt : (dt + i) % 365 < 365 := Nat.mod_lt _ (by decide)
    obtain ⟨c1, a1, a2, a3⟩ := h.day hT hlt
    obtain ⟨m1, b1, b2, b3⟩ := hm.canOn hT ((dt + i) % 365) hx
    rw [gX11_never, gX12_never, if_neg (show ¬ (365 : Int32) ≤ nI i from nI_ge (b := 365) (by omega) (by omega)), if_neg (show ¬ (365 : Int32) ≤ nI i from nI_ge (b := 365) (by omega) (by omega)), hc, (rd_now _ _).2.2, hm2, em, nm_eq, nm_eq, a1, cR_some, gEq_ok, a3.can hT hx, cP_some, b1, cI_some, nI_1]
    by_cases c0 : canN T ((dt + i) % 365) sd x = 0
    · rw [if_pos (by rw [c0]; rfl), if_pos (by rw [c0]; rfl)]
      exact ⟨_, _, _, rfl, rfl, a2, a3.1, b2⟩
    · rw [if_neg (fun e => c0 ((nI_b0 (canN_lt _ _ _ _)).mp e)), if_neg (fun e => c0 ((nI_b0 (canN_lt _ _ _ _)).mp e))]
      obtain ⟨r, c', m', q1, q2, q3, q4, q5⟩ := ih (i + 1) (by omega) c1 m1 f (by omega) a3.1 (by rw [a2.2 27 (by simp <;> omega)]; exact hc) b3 (by rw [b2.2 33 (by simp)]; exact hm2)
      exact ⟨r, c', m', q1, q2, a2.trans q3, q4, b2.trans q5⟩
theorem datesG (hT : TOK T) {x : Nat} (hx : x < tnm T) : ∀ (k i : Nat), i + k = 365 → ∀ (c m : Mem) (f : Nat) (n : Int32), k < f → CB T sd q c → MB T sd q m → ∃ r c' m', gX11_dates f (nI x) n (nI i) c = some (r, c') ∧ gX12_dates f (nI x) n (nI i) m = some (r, m') ∧ keeps (SC T) c c' ∧ CB T sd q c' ∧ keeps [10, 13, 35, 36] m m' := by
  intro k
  induction k with
  | zero =>
    intro i hi c m f n hf h hm
    obtain ⟨f, rfl⟩ : ∃ g, f = g + 1 := ⟨f - 1, by omega⟩
    have ei : i = 365 := by omega
    subst ei
    refine ⟨n, c, m, ?_, ?_, keeps.rfl', h, keeps.rfl'⟩
    · rw [gX11_dates, if_pos (show (365 : Int32) ≤ nI 365 from nI_le (a := 365) (by omega) (by omega))]
    · rw [gX12_dates, if_pos (show (365 : Int32) ≤ nI 365 from nI_le (a := 365) (by omega) (by omega))]
  | succ k ih =>
    intro i hi c m f n hf h hm
    obtain ⟨f, rfl⟩ : ∃ g, f = g + 1 := ⟨f - 1, by omega⟩
    have hP := h.1.pl
    obtain ⟨c1, a1, a2, a3⟩ := h.day hT (show i < 365 by omega)
    obtain ⟨m1, b1, b2, b3⟩ := hm.canOn hT i hx
    rw [gX11_dates, gX12_dates, if_neg (show ¬ (365 : Int32) ≤ nI i from nI_ge (b := 365) (by omega) (by omega)), if_neg (show ¬ (365 : Int32) ≤ nI i from nI_ge (b := 365) (by omega) (by omega)), a1, cR_some, gEq_ok, a3.can hT hx, cP_some, b1, cI_some, truth_b _ (canN_lt _ _ _ _), cP_some, nm_eq, nm_eq, nm_eq, nI_1]
    have e : ∀ (A B : Option (Int32 × Mem)), (if nI (canN T i sd x) = 0 then A else B) = (if canN T i sd x = 0 then A else B) := fun A B => by
      by_cases c0 : canN T i sd x = 0
      · rw [if_pos (by rw [c0]; rfl), if_pos c0]
      · rw [if_neg (fun e => c0 ((nI_b0 (canN_lt _ _ _ _)).mp e)), if_neg c0]
    rw [e]
    obtain ⟨r, c', m', q1, q2, q3, q4, q5⟩ := ih (i + 1) (by omega) c1 m1 f (n + nI (canN T i sd x)) (by omega) a3.1 b3
    refine ⟨r, c', m', ?_, q2, a2.trans q3, q4, b2.trans q5⟩
    by_cases c0 : canN T i sd x = 0
    · rw [if_pos c0]; rw [c0] at q1; exact q1
    · rw [if_neg c0]; rw [show canN T i sd x = 1 by have := canN_lt T i sd x; omega] at q1; exact q1
end
theorem o_never : Ob_never Rl := by
  intro mC mM x hR
  obtain ⟨T, hX⟩ : ∃ T, RX T mC mM := id hR
  obtain ⟨sd, q, hr, dt, hQ⟩ := hX.cb
  have hT := hX.1
  have h2 := hX.2.1
  have h3 := hX.2.2.1
  have h7 := hT.1
  have h8 := hT.2.2.1
  have h10 := hT.2.1
  unfold fX11_never fX12_never
  rcases hX.meet x with ⟨e1, e2⟩ | ⟨k, hk, rfl, e1, e2⟩
  · rw [e1, e2, cP_some, cP_some]
    exact ⟨_, _, _, by rw [if_pos rfl], by rw [if_pos rfl], hR⟩
  rw [e1, e2, cP_some, cP_some, if_neg i10, if_neg i10]
  obtain ⟨m1, b1, b2, b3⟩ := hX.mb hQ
  obtain ⟨r, c', m', q1, q2, q3, q4, q5⟩ := neverG hT hk hQ.dlt 365 0 (by omega) mC m1 5000 (by omega) hQ.cb hQ.cd b3 (by rw [b2.2 33 (by simp)]; exact hQ.md)
  rw [b1, cV_some]
  exact ⟨r, c', m', q1, q2, hX.done q3 q4.2.2.1 ((b2.mono (by simp)).trans (q5.mono (by simp <;> omega)))⟩
theorem o_dates : Ob_dates Rl := by
  intro mC mM x hR
  obtain ⟨T, hX⟩ : ∃ T, RX T mC mM := id hR
  obtain ⟨sd, q, hr, dt, hQ⟩ := hX.cb
  have hT := hX.1
  have h2 := hX.2.1
  have h3 := hX.2.2.1
  have h7 := hT.1
  have h8 := hT.2.2.1
  have h10 := hT.2.1
  unfold fX11_dates fX12_dates
  rcases hX.meet x with ⟨e1, e2⟩ | ⟨k, hk, rfl, e1, e2⟩
  · rw [e1, e2, cP_some, cP_some]
    exact ⟨_, _, _, by rw [if_pos rfl], by rw [if_pos rfl], hR⟩
  rw [e1, e2, cP_some, cP_some, if_neg i10, if_neg i10]
  obtain ⟨m1, b1, b2, b3⟩ := hX.mb hQ
  obtain ⟨r, c', m', q1, q2, q3, q4, q5⟩ := datesG hT hk 365 0 (by omega) mC m1 5000 0 (by omega) hQ.cb b3
  rw [b1, cV_some]
  exact ⟨r, c', m', q1, q2, hX.done q3 q4.2.2.1 ((b2.mono (by simp)).trans (q5.mono (by simp <;> omega)))⟩
def both (T : Tn) (k : Nat) : Nat := 2 ^ tA T k ||| 2 ^ tB T k
theorem both_lt {T : Tn} (hT : TOK T) {k : Nat} (hk : k < tnm T) : both T k < 2 ^ tnp T := by
  obtain ⟨n1, n2, _⟩ := hT.2.2.2.2.2.1 k hk
  exact Nat.or_lt_two_pow (Nat.pow_lt_pow_right (by decide) n1) (Nat.pow_lt_pow_right (by decide) n2)
theorem both_one : ∀ a, a < 7 → ∀ b, b < 7 → ∀ p, p < 7 → ((2 ^ a ||| 2 ^ b) &&& 2 ^ p = 0 ↔ ¬ (a = p ∨ b = p)) := by decide +kernel
theorem both_all : ∀ n, n < 8 → ∀ a, a < n → ∀ b, b < n → ¬ (2 ^ a ||| 2 ^ b) &&& (2 ^ n - 1) = 0 := by decide +kernel
/-- worths of the meets that can be, of those of some persons -/
def cw (T : Tn) (d : Nat) (sd : Nat → Nat) (P : Nat) : Nat → Nat := fb_sm (fun k => if (both T k &&& P) = 0 then 0 else if canN T d sd k = 0 then 0 else tW T k)
def mw (T : Tn) (d : Nat) (sd : Nat → Nat) : Nat → Nat := fb_sm (fun k => if canN T d sd k = 0 then 0 else tW T k)
def jw (T : Tn) (d : Nat) (sd : Nat → Nat) (p : Nat) : Nat → Nat := fb_sm (fun k => if tA T k = p ∨ tB T k = p then (if canN T d sd k = 0 then 0 else tW T k) else 0)
theorem cw_all {T : Tn} (hT : TOK T) (d : Nat) (sd : Nat → Nat) : cw T d sd (2 ^ tnp T - 1) (tnm T) = mw T d sd (tnm T) := by
  have h7 := hT.1
  refine fb_sm_cong (fun k hk => ?_)
  obtain ⟨n1, n2, _⟩ := hT.2.2.2.2.2.1 k hk
  rw [if_neg (show ¬ (both T k &&& (2 ^ tnp T - 1)) = 0 from both_all (tnp T) (by omega) _ n1 _ n2)]
theorem cw_one {T : Tn} (hT : TOK T) (d : Nat) (sd : Nat → Nat) {p : Nat} (hp : p < tnp T) : cw T d sd (2 ^ p) (tnm T) = jw T d sd p (tnm T) := by
  have h7 := hT.1
  refine fb_sm_cong (fun k hk => ?_)
  obtain ⟨n1, n2, _⟩ := hT.2.2.2.2.2.1 k hk
  have h : both T k &&& 2 ^ p = 0 ↔ ¬ (tA T k = p ∨ tB T k = p) := both_one (tA T k) (by omega) (tB T k) (by omega) p (by omega)
  by_cases c : tA T k = p ∨ tB T k = p
  · rw [if_neg (fun z => (h.mp z) c), if_pos c]
  · rw [if_pos (h.mpr c), if_neg c]
def blI (T : Tn) (d : Nat) (sd : Nat → Nat) (q : Nat) : Int32 := nI (mw T d sd (tnm T)) - nI (hAll T d sd q (tnp T))
def joI (T : Tn) (d : Nat) (sd : Nat → Nat) (q p : Nat) : Int32 := nI (jw T d sd p (tnm T)) - nI (hOn T d sd q p (tnn T))
theorem i_ss (a b c : Int32) : a - b - c = a - (b + c) := by grind
theorem i_ns (a b : Int32) : -b + a = a - b := by grind
theorem TC.both {T : Tn} {m : Mem} (hT : TOK T) (h : TC T m) {k : Nat} (hk : k < tnm T) : fX6_bothOf m (tP T) (nI k) = some (nI (both T k)) := by
  have h10 := hT.2.1
  have h7 := hT.1
  obtain ⟨e1, e2, _⟩ := h.2.2.2.2.2.2.2.2.1 k hk
  obtain ⟨n1, n2, _⟩ := hT.2.2.2.2.2.1 k hk
  unfold fX6_bothOf
  rw [gPl_ok h.pl, rd_ok (by omega) (by omega), rd_ok (by omega) (by omega), e1, e2, sh_pow _ (by omega), sh_pow _ (by omega), fa_or]
  rfl
theorem TC.every {T : Tn} {m : Mem} (hT : TOK T) (h : TC T m) : fX9_everybody m = some (nI (2 ^ tnp T - 1)) := by
  have h7 := hT.1
  unfold fX9_everybody
  rw [gPl_T h, h.2.1, h.2.2.2.1, sh_pow _ (by omega)]
  exact congrArg some (pk_sub (b := 1) (Nat.one_le_two_pow))
section
variable {T : Tn} {d : Nat} {sd : Nat → Nat} {q : Nat} {m : Mem}
theorem CD.worthG (hT : TOK T) (h : CD T d sd q m) (P : Nat) : ∀ (k i : Nat), i + k = tnm T → ∀ (f : Nat), k < f → gX9_worthOfMeets m f (nI P) (nI (cw T d sd P i)) (nI i) = some (nI (cw T d sd P (tnm T))) := by
  have h10 := hT.2.1
  have hpw := pow_np hT.1
  intro k
  induction k with
  | zero =>
    intro i hi f hf
    obtain ⟨f, rfl⟩ : ∃ g, f = g + 1 := ⟨f - 1, by omega⟩
    have ei : i = tnm T := by omega
    subst ei
    rw [gX9_worthOfMeets, gPl_T h.1.1, h.1.1.2.1, h.1.1.2.2.2.2.1, if_pos (nI_le (by omega) (by omega))]
  | succ k ih =>
    intro i hi f hf
    obtain ⟨f, rfl⟩ : ∃ g, f = g + 1 := ⟨f - 1, by omega⟩
    obtain ⟨_, _, _, e4⟩ := h.1.1.2.2.2.2.2.2.2.2.1 i (by omega)
    have hb := both_lt hT (show i < tnm T by omega)
    have hl : both T i &&& P < 2 ^ 31 := Nat.lt_of_le_of_lt Nat.and_le_left (by omega)
    rw [gX9_worthOfMeets, gPl_T h.1.1, h.1.1.2.1, h.1.1.2.2.2.2.1, if_neg (nI_ge (by omega) (by omega)), h.1.1.both hT (by omega), cP_some, fa_and, nm_eq, nI_1, add_z]
    by_cases c : (both T i &&& P) = 0
    · have e : cw T d sd P (i + 1) = cw T d sd P i := by unfold cw; rw [fb_sm_succ, if_pos c]; rfl
      rw [if_pos (by rw [c]; rfl), ← e]
      exact ih (i + 1) (by omega) f (by omega)
    · rw [if_neg (fun z => c ((nI_eq0 hl).mp z)), h.can hT (by omega), cP_some]
      by_cases c2 : canN T d sd i = 0
      · have e : cw T d sd P (i + 1) = cw T d sd P i := by unfold cw; rw [fb_sm_succ, if_neg c, if_pos c2]; rfl
        rw [if_pos (by rw [c2]; rfl), ← e]
        exact ih (i + 1) (by omega) f (by omega)
      · have e : cw T d sd P (i + 1) = cw T d sd P i + tW T i := by unfold cw; rw [fb_sm_succ, if_neg c, if_neg c2]
        rw [if_neg (fun e => c2 ((nI_b0 (canN_lt _ _ _ _)).mp e)), rd_ok (by omega) (by omega), e4, nm_eq, nI_add, ← e]
        exact ih (i + 1) (by omega) f (by omega)
theorem CD.worth (hT : TOK T) (h : CD T d sd q m) (P : Nat) : fX9_worthOfMeets m (nI P) = some (nI (cw T d sd P (tnm T))) := CD.worthG hT h P (tnm T) 0 (by omega) 5000 (by have := hT.2.1; omega)
theorem CD.blissG (hT : TOK T) (x : Int32) : ∀ (k i : Nat), i + k = tnp T → ∀ (m : Mem) (f : Nat), k < f → CD T d sd q m → ∃ m', gX9_blissOf f (x - nI (hAll T d sd q i)) (nI i) m = some (x - nI (hAll T d sd q (tnp T)), m') ∧ keeps [tP T + 20] m m' ∧ CD T d sd q m' := by
  have h7 := hT.1
  have h8 := hT.2.2.1
  have h10 := hT.2.1
  intro k
  induction k with
  | zero =>
    intro i hi m f hf h
    obtain ⟨f, rfl⟩ : ∃ g, f = g + 1 := ⟨f - 1, by omega⟩
    have ei : i = tnp T := by omega
    subst ei
    exact ⟨m, by rw [gX9_blissOf, gPl_T h.1.1, h.1.1.2.1, h.1.1.2.2.2.1, if_pos (nI_le (by omega) (by omega))], keeps.rfl', h⟩
  | succ k ih =>
    intro i hi m f hf h
    obtain ⟨f, rfl⟩ : ∃ g, f = g + 1 := ⟨f - 1, by omega⟩
    obtain ⟨m1, a1, a2, a3⟩ := h.harmOn hT (show i < tnp T by omega)
    rw [gX9_blissOf, gPl_T h.1.1, h.1.1.2.1, h.1.1.2.2.2.1, if_neg (nI_ge (by omega) (by omega)), a1, cI_some, nm_eq, i_ss, nI_add, nI_1]
    obtain ⟨m', q1, q2, q3⟩ := ih (i + 1) (by omega) m1 f (by omega) a3
    exact ⟨m', q1, a2.trans q2, q3⟩
theorem CD.bliss (hT : TOK T) (h : CD T d sd q m) : ∃ m', fX9_blissOf m = some (blI T d sd q, m') ∧ keeps [tP T + 20] m m' ∧ CD T d sd q m' := by
  obtain ⟨m', a1, a2⟩ := CD.blissG hT (nI (mw T d sd (tnm T))) (tnp T) 0 (by omega) m 5000 (by have := hT.1; omega) h
  refine ⟨m', ?_, a2⟩
  unfold fX9_blissOf
  rw [h.1.1.every hT, cP_some, h.worth hT, cP_some, cw_all hT]
  rw [show nI (mw T d sd (tnm T)) - nI (hAll T d sd q 0) = nI (mw T d sd (tnm T)) from Int32.sub_zero _] at a1
  exact a1
theorem CD.joy (hT : TOK T) (h : CD T d sd q m) {p : Nat} (hp : p < tnp T) : ∃ m', fX9_joyOf m (nI p) = some (joI T d sd q p, m') ∧ keeps [tP T + 20] m m' ∧ CD T d sd q m' := by
  obtain ⟨m', a1, a2⟩ := h.harmOn hT hp
  refine ⟨m', ?_, a2⟩
  unfold fX9_joyOf
  rw [sh_pow p (by have := hT.1; omega), h.worth hT, cP_some, a1, cI_some, cw_one hT d sd hp]
  rfl
theorem MD.blissG (hT : TOK T) (h : MD T d sd q m) (x : Int32) : ∀ (k i : Nat), i + k = tnm T → ∀ (f : Nat), k < f → gX12_blissHere m f (x + nI (mw T d sd i)) (nI i) = some (x + nI (mw T d sd (tnm T))) := by
  have h10 := hT.2.1
  intro k
  induction k with
  | zero =>
    intro i hi f hf
    obtain ⟨f, rfl⟩ : ∃ g, f = g + 1 := ⟨f - 1, by omega⟩
    have ei : i = tnm T := by omega
    subst ei
    rw [gX12_blissHere, h.1.2.1, if_pos (nI_le (by omega) (by omega))]
  | succ k ih =>
    intro i hi f hf
    obtain ⟨f, rfl⟩ : ∃ g, f = g + 1 := ⟨f - 1, by omega⟩
    obtain ⟨_, _, _, e4⟩ := h.1.2.2.2.2.2.1 i (by omega)
    rw [gX12_blissHere, h.1.2.1, if_neg (nI_ge (by omega) (by omega)), h.can hT (by omega), cP_some, nm_eq, add_z, nI_1]
    by_cases c2 : canN T d sd i = 0
    · have e : mw T d sd (i + 1) = mw T d sd i := by unfold mw; rw [fb_sm_succ, if_pos c2]; rfl
      rw [if_pos (by rw [c2]; rfl), ← e]
      exact ih (i + 1) (by omega) f (by omega)
    · have e : mw T d sd (i + 1) = mw T d sd i + tW T i := by unfold mw; rw [fb_sm_succ, if_neg c2]
      rw [if_neg (fun e => c2 ((nI_b0 (canN_lt _ _ _ _)).mp e)), rd_ok (by omega) (by omega), e4, nm_eq, Int32.add_assoc, nI_add, ← e]
      exact ih (i + 1) (by omega) f (by omega)
theorem MD.bliss (hT : TOK T) (h : MD T d sd q m) (hq : q < 128) : fX12_blissHere m = some (blI T d sd q) := by
  have a := MD.blissG hT h (-(nI (hAll T d sd q (tnp T)))) (tnm T) 0 (by omega) 5000 (by have := hT.2.1; omega)
  unfold fX12_blissHere
  rw [h.allHarm hT hq, cP_some]
  rw [show -(nI (hAll T d sd q (tnp T))) + nI (mw T d sd 0) = -(nI (hAll T d sd q (tnp T))) from Int32.add_zero _, i_ns] at a
  exact a
theorem MD.joyG (hT : TOK T) (h : MD T d sd q m) {p : Nat} (hp : p < tnp T) (x : Int32) : ∀ (k i : Nat), i + k = tnm T → ∀ (f : Nat), k < f → gX12_joyHere m f (nI p) (x + nI (jw T d sd p i)) (nI i) = some (x + nI (jw T d sd p (tnm T))) := by
  have h10 := hT.2.1
  have h7 := hT.1
  intro k
  induction k with
  | zero =>
    intro i hi f hf
    obtain ⟨f, rfl⟩ : ∃ g, f = g + 1 := ⟨f - 1, by omega⟩
    have ei : i = tnm T := by omega
    subst ei
    rw [gX12_joyHere, h.1.2.1, if_pos (nI_le (by omega) (by omega))]
  | succ k ih =>
    intro i hi f hf
    obtain ⟨f, rfl⟩ : ∃ g, f = g + 1 := ⟨f - 1, by omega⟩
    obtain ⟨e1, e2, _, e4⟩ := h.1.2.2.2.2.2.1 i (by omega)
    obtain ⟨n1, n2, _⟩ := hT.2.2.2.2.2.1 i (by omega)
    have key : ∀ (g : Prop) [Decidable g], (tA T i = p ∨ tB T i = p) → (cP (fX12_canMeet m (nI i)) fun r4 => (if r4 = 0 then (nm (x + nI (jw T d sd p i) + (0 : Int32)) fun v7 => (gX12_joyHere m f (nI p) v7 (nI i + (1 : Int32)))) else (rd (m.1 26) 10 (nI i) fun v8 => (nm (x + nI (jw T d sd p i) + v8) fun v9 => (gX12_joyHere m f (nI p) v9 (nI i + (1 : Int32))))))) = some (x + nI (jw T d sd p (tnm T))) := by
      intro g _ hg
      rw [h.can hT (by omega), cP_some, nm_eq, add_z, nI_1]
      by_cases c2 : canN T d sd i = 0
      · have e : jw T d sd p (i + 1) = jw T d sd p i := by unfold jw; rw [fb_sm_succ, if_pos hg, if_pos c2]; rfl
        rw [if_pos (by rw [c2]; rfl), ← e]
        exact ih (i + 1) (by omega) f (by omega)
      · have e : jw T d sd p (i + 1) = jw T d sd p i + tW T i := by unfold jw; rw [fb_sm_succ, if_pos hg, if_neg c2]
        rw [if_neg (fun e => c2 ((nI_b0 (canN_lt _ _ _ _)).mp e)), rd_ok (by omega) (by omega), e4, nm_eq, Int32.add_assoc, nI_add, ← e]
        exact ih (i + 1) (by omega) f (by omega)
    rw [gX12_joyHere, h.1.2.1, if_neg (nI_ge (by omega) (by omega)), rd_ok (by omega) (by omega), e1]
    by_cases ca : tA T i = p
    · rw [if_pos (by rw [ca])]
      exact key True (Or.inl ca)
    · rw [if_neg (fun z => ca ((nI_eq (by omega) (by omega)).mp z)), rd_ok (by omega) (by omega), e2]
      by_cases cb : tB T i = p
      · rw [if_pos (by rw [cb])]
        exact key True (Or.inr cb)
      · have e : jw T d sd p (i + 1) = jw T d sd p i := by unfold jw; rw [fb_sm_succ, if_neg (fun z => z.elim ca cb)]; rfl
        rw [if_neg (fun z => cb ((nI_eq (by omega) (by omega)).mp z)), nm_eq, add_z, nI_1, ← e]
        exact ih (i + 1) (by omega) f (by omega)
theorem MD.joy (hT : TOK T) (h : MD T d sd q m) (hq : q < 128) {p : Nat} (hp : p < tnp T) : fX12_joyHere m (nI p) = some (joI T d sd q p) := by
  have a := MD.joyG hT h hp (-(nI (hOn T d sd q p (tnn T)))) (tnm T) 0 (by omega) 5000 (by have := hT.2.1; omega)
  unfold fX12_joyHere
  rw [h.harmOf hT hq hp, cP_some]
  rw [show -(nI (hOn T d sd q p (tnn T))) + nI (jw T d sd p 0) = -(nI (hOn T d sd q p (tnn T))) from Int32.add_zero _, i_ns] at a
  exact a
end
theorem o_bliss : Ob_bliss Rl := by
  intro mC mM x hR
  obtain ⟨T, hX⟩ : ∃ T, RX T mC mM := id hR
  obtain ⟨sd, q, hr, dt, hQ⟩ := hX.cb
  have hT := hX.1
  have h2 := hX.2.1
  have h3 := hX.2.2.1
  have h7 := hT.1
  have h8 := hT.2.2.1
  have h10 := hT.2.1
  unfold fX11_bliss fX12_bliss
  rcases date_c x with ⟨e1, e2⟩ | ⟨d, hd, rfl, e1, e2⟩
  · rw [e1, e2, cP_some, cP_some]
    exact ⟨_, _, _, by rw [if_pos rfl], by rw [if_pos rfl], hR⟩
  rw [e1, e2, cP_some, cP_some, if_neg i10, if_neg i10]
  obtain ⟨c1, a1, a2, a3⟩ := hQ.cb.day hT hd
  obtain ⟨m1, b1, b2, b3, b4⟩ := hX.load hQ d
  obtain ⟨c2, e1, e2, e3⟩ := a3.bliss hT
  rw [a1, b1, cR_some, cV_some, gEq_ok, e1, b3.bliss hT hQ.q128, cP_some, cI_some]
  exact ⟨_, _, _, rfl, rfl, hX.done (a2.trans (e2.mono (by simp))) e3.1.2.2.1 b2⟩
theorem o_joy : Ob_joy Rl := by
  intro mC mM x z hR
  obtain ⟨T, hX⟩ : ∃ T, RX T mC mM := id hR
  obtain ⟨sd, q, hr, dt, hQ⟩ := hX.cb
  have hT := hX.1
  have h2 := hX.2.1
  have h3 := hX.2.2.1
  have h7 := hT.1
  have h8 := hT.2.2.1
  have h10 := hT.2.1
  unfold fX11_joy fX12_joy
  rcases hX.person x with ⟨e1, e2⟩ | ⟨p, hp, rfl, e1, e2⟩
  · rw [e1, e2, cP_some, cP_some]
    exact ⟨_, _, _, by rw [if_pos rfl], by rw [if_pos rfl], hR⟩
  rw [e1, e2, cP_some, cP_some, if_neg i10, if_neg i10]
  rcases date_c z with ⟨e1, e2⟩ | ⟨d, hd, rfl, e1, e2⟩
  · rw [e1, e2, cP_some, cP_some]
    exact ⟨_, _, _, by rw [if_pos rfl], by rw [if_pos rfl], hR⟩
  rw [e1, e2, cP_some, cP_some, if_neg i10, if_neg i10]
  obtain ⟨c1, a1, a2, a3⟩ := hQ.cb.day hT hd
  obtain ⟨m1, b1, b2, b3, b4⟩ := hX.load hQ d
  obtain ⟨c2, e1, e2, e3⟩ := a3.joy hT hp
  rw [a1, b1, cR_some, cV_some, gEq_ok, e1, b3.joy hT hQ.q128 hp, cP_some, cI_some]
  exact ⟨_, _, _, rfl, rfl, hX.done (a2.trans (e2.mono (by simp))) e3.1.2.2.1 b2⟩
def lonF (T : Tn) (d : Nat) (sd : Nat → Nat) (x : Int32) : Nat → Int32
  | 0 => x
  | k + 1 => if canN T d sd k = 0 then lonF T d sd x k else lonF T d sd x k &&& (nI (both T k) ^^^ (-1 : Int32))
def hinF (T : Tn) (d : Nat) (sd : Nat → Nat) (x : Int32) : Nat → Int32
  | 0 => x
  | p + 1 => hinF T d sd x p &&& hrs T d (sd p)
section
variable {T : Tn} {d : Nat} {sd : Nat → Nat} {q : Nat} {m : Mem}
theorem CB.lonG (hT : TOK T) (hd : d < 365) (x : Int32) : ∀ (k i : Nat), i + k = tnm T → ∀ (m : Mem) (f : Nat), k < f → CB T sd q m → ∃ m', gX11_lonely f (nI d) (lonF T d sd x i) (nI i) m = some (lonF T d sd x (tnm T), m') ∧ keeps (SC T) m m' ∧ CB T sd q m' := by
  have h7 := hT.1
  have h8 := hT.2.2.1
  have h10 := hT.2.1
  intro k
  induction k with
  | zero =>
    intro i hi m f hf h
    obtain ⟨f, rfl⟩ : ∃ g, f = g + 1 := ⟨f - 1, by omega⟩
    have ei : i = tnm T := by omega
    subst ei
    exact ⟨m, by rw [gX11_lonely, gPl_T h.1, h.1.2.1, h.1.2.2.2.2.1, if_pos (nI_le (by omega) (by omega))], keeps.rfl', h⟩
  | succ k ih =>
    intro i hi m f hf h
    obtain ⟨f, rfl⟩ : ∃ g, f = g + 1 := ⟨f - 1, by omega⟩
    obtain ⟨m1, a1, a2, a3⟩ := h.day hT hd
    rw [gX11_lonely, gPl_T h.1, h.1.2.1, h.1.2.2.2.2.1, if_neg (nI_ge (by omega) (by omega)), a1, cR_some, gEq_ok, a3.can hT (by omega), cP_some, gPl_T a3.1.1, a3.1.1.2.1, a3.1.1.both hT (by omega), cP_some, nm_eq, nI_1]
    obtain ⟨m', q1, q2, q3⟩ := ih (i + 1) (by omega) m1 f (by omega) a3.1
    refine ⟨m', ?_, a2.trans q2, q3⟩
    rw [← q1, lonF]
    by_cases c : canN T d sd i = 0
    · rw [if_pos (by rw [c]; rfl), if_pos c]
    · rw [if_neg (fun e => c ((nI_b0 (canN_lt _ _ _ _)).mp e)), if_neg c]
theorem MD.lonG (hT : TOK T) (h : MD T d sd q m) (x : Int32) : ∀ (k i : Nat), i + k = tnm T → ∀ (f : Nat), k < f → gX12_lonely f (lonF T d sd x i) (nI i) m = some (lonF T d sd x (tnm T), m) := by
  have h10 := hT.2.1
  have h7 := hT.1
  intro k
  induction k with
  | zero =>
    intro i hi f hf
    obtain ⟨f, rfl⟩ : ∃ g, f = g + 1 := ⟨f - 1, by omega⟩
    have ei : i = tnm T := by omega
    subst ei
    rw [gX12_lonely, h.1.2.1, if_pos (nI_le (by omega) (by omega))]
  | succ k ih =>
    intro i hi f hf
    obtain ⟨f, rfl⟩ : ∃ g, f = g + 1 := ⟨f - 1, by omega⟩
    obtain ⟨e1, e2, _, e4⟩ := h.1.2.2.2.2.2.1 i (by omega)
    obtain ⟨n1, n2, _⟩ := hT.2.2.2.2.2.1 i (by omega)
    rw [gX12_lonely, h.1.2.1, if_neg (nI_ge (by omega) (by omega)), h.can hT (by omega), cP_some, rd_ok (by omega) (by omega), e1, rd_ok (by omega) (by omega), e2, sh_pow _ (by omega), sh_pow _ (by omega), fa_or, nm_eq, nI_1, ← ih (i + 1) (by omega) f (by omega), lonF]
    by_cases c : canN T d sd i = 0
    · rw [if_pos (by rw [c]; rfl), if_pos c]
    · rw [if_neg (fun e => c ((nI_b0 (canN_lt _ _ _ _)).mp e)), if_neg c]
      rfl
theorem CB.hinG (hT : TOK T) (hd : d < 365) (x : Int32) : ∀ (k i : Nat), i + k = tnp T → ∀ (m : Mem) (f : Nat), k < f → CB T sd q m → ∃ m', gX11_hinges f (nI d) (hinF T d sd x i) (nI i) m = some (hinF T d sd x (tnp T), m') ∧ keeps (SC T) m m' ∧ CB T sd q m' := by
  have h7 := hT.1
  have h8 := hT.2.2.1
  have h10 := hT.2.1
  intro k
  induction k with
  | zero =>
    intro i hi m f hf h
    obtain ⟨f, rfl⟩ : ∃ g, f = g + 1 := ⟨f - 1, by omega⟩
    have ei : i = tnp T := by omega
    subst ei
    exact ⟨m, by rw [gX11_hinges, gPl_T h.1, h.1.2.1, h.1.2.2.2.1, if_pos (nI_le (by omega) (by omega))], keeps.rfl', h⟩
  | succ k ih =>
    intro i hi m f hf h
    obtain ⟨f, rfl⟩ : ∃ g, f = g + 1 := ⟨f - 1, by omega⟩
    obtain ⟨m1, a1, a2, a3⟩ := h.day hT hd
    rw [gX11_hinges, gPl_T h.1, h.1.2.1, h.1.2.2.2.1, if_neg (nI_ge (by omega) (by omega)), a1, cR_some, gEq_ok, a3.hours hT (by omega), cP_some, nm_eq, nI_1]
    obtain ⟨m', q1, q2, q3⟩ := ih (i + 1) (by omega) m1 f (by omega) a3.1
    exact ⟨m', q1, a2.trans q2, q3⟩
theorem MD.hinG (hT : TOK T) (h : MD T d sd q m) (x : Int32) : ∀ (k i : Nat), i + k = tnp T → ∀ (f : Nat), k < f → gX12_hinges f (hinF T d sd x i) (nI i) m = some (hinF T d sd x (tnp T), m) := by
  have h7 := hT.1
  intro k
  induction k with
  | zero =>
    intro i hi f hf
    obtain ⟨f, rfl⟩ : ∃ g, f = g + 1 := ⟨f - 1, by omega⟩
    have ei : i = tnp T := by omega
    subst ei
    rw [gX12_hinges, h.1.1, if_pos (nI_le (by omega) (by omega))]
  | succ k ih =>
    intro i hi f hf
    obtain ⟨f, rfl⟩ : ∃ g, f = g + 1 := ⟨f - 1, by omega⟩
    obtain ⟨s1, s2⟩ := h.2.2.2.1 i (by omega)
    rw [gX12_hinges, h.1.1, if_neg (nI_ge (by omega) (by omega)), rd_ok (by omega) (by omega), s2, rd_ok s1 (by omega), h.2.1 _ s1, nm_eq, nI_1]
    exact ih (i + 1) (by omega) f (by omega)
end
theorem o_lonely : Ob_lonely Rl := by
  intro mC mM x hR
  obtain ⟨T, hX⟩ : ∃ T, RX T mC mM := id hR
  obtain ⟨sd, q, hr, dt, hQ⟩ := hX.cb
  have hT := hX.1
  have h2 := hX.2.1
  have h3 := hX.2.2.1
  have h7 := hT.1
  have h8 := hT.2.2.1
  have h10 := hT.2.1
  unfold fX11_lonely fX12_lonely
  rcases date_c x with ⟨e1, e2⟩ | ⟨d, hd, rfl, e1, e2⟩
  · rw [e1, e2, cP_some, cP_some]
    exact ⟨_, _, _, by rw [if_pos rfl], by rw [if_pos rfl], hR⟩
  rw [e1, e2, cP_some, cP_some, if_neg i10, if_neg i10]
  obtain ⟨m1, b1, b2, b3, b4⟩ := hX.load hQ d
  have ee : ((1 : Int32) <<< ((m1.1 0 51) &&& 31)) - (1 : Int32) = nI (2 ^ tnp T - 1) := by
    rw [b3.1.1, sh_pow _ (by omega)]
    exact pk_sub (b := 1) Nat.one_le_two_pow
  obtain ⟨c1, a1, a2, a3⟩ := CB.lonG hT hd (nI (2 ^ tnp T - 1)) (tnm T) 0 (by omega) mC 5000 (by omega) hQ.cb
  rw [h2.every hT, cP_some, show gX11_lonely 5000 (nI d) (nI (2 ^ tnp T - 1)) 0 mC = _ from a1, b1, cV_some, ee, nm_eq, show gX12_lonely 5000 (nI (2 ^ tnp T - 1)) 0 m1 = _ from MD.lonG hT b3 (nI (2 ^ tnp T - 1)) (tnm T) 0 (by omega) 5000 (by omega)]
  exact ⟨_, _, _, rfl, rfl, hX.done a2 a3.2.2.1 b2⟩
theorem o_hinges : Ob_hinges Rl := by
  intro mC mM x hR
  obtain ⟨T, hX⟩ : ∃ T, RX T mC mM := id hR
  obtain ⟨sd, q, hr, dt, hQ⟩ := hX.cb
  have hT := hX.1
  have h2 := hX.2.1
  have h3 := hX.2.2.1
  have h7 := hT.1
  have h8 := hT.2.2.1
  have h10 := hT.2.1
  unfold fX11_hinges fX12_hinges
  rcases date_c x with ⟨e1, e2⟩ | ⟨d, hd, rfl, e1, e2⟩
  · rw [e1, e2, cP_some, cP_some]
    exact ⟨_, _, _, by rw [if_pos rfl], by rw [if_pos rfl], hR⟩
  rw [e1, e2, cP_some, cP_some, if_neg i10, if_neg i10]
  obtain ⟨m1, b1, b2, b3, b4⟩ := hX.load hQ d
  obtain ⟨c1, a1, a2, a3⟩ := CB.hinG hT hd 16777215 (tnp T) 0 (by omega) mC 5000 (by omega) hQ.cb
  rw [show gX11_hinges 5000 (nI d) 16777215 0 mC = _ from a1, b1, cV_some, show gX12_hinges 5000 16777215 0 m1 = _ from MD.hinG hT b3 16777215 (tnp T) 0 (by omega) 5000 (by omega)]
  exact ⟨_, _, _, rfl, rfl, hX.done a2 a3.2.2.1 b2⟩
