/-! ===== odds ===== -/
theorem gcd_s (x y : Nat) : Nat.gcd x y = Nat.gcd y (x % y) := by rw [Nat.gcd_comm x y, Nat.gcd_rec y x, Nat.gcd_comm]
theorem mod_half {x y b : Nat} (hy : y < 2 ^ (b + 1)) (h0 : 0 < y) (h1 : 0 < x % y) : y % (x % y) < 2 ^ b := by
  have h2 := Nat.mod_lt x h0
  have h3 := Nat.mod_lt y h1
  have h4 := Nat.div_add_mod y (x % y)
  have h5 : 1 ≤ y / (x % y) := (Nat.one_le_div_iff h1).mpr (Nat.le_of_lt h2)
  have h6 : (x % y) * 1 ≤ (x % y) * (y / (x % y)) := Nat.mul_le_mul_left _ h5
  rw [Nat.pow_succ] at hy
  omega
theorem gcdM : ∀ (b x y f : Nat), y < 2 ^ b → x < 2 ^ 31 → 2 * b + 1 ≤ f → b ≤ 30 → gX12_divisor f (nI x) (nI y) = some (nI (Nat.gcd x y)) := by
  intro b
  induction b with
  | zero =>
    intro x y f hy hx hf hb
    obtain ⟨f, rfl⟩ : ∃ g, f = g + 1 := ⟨f - 1, by omega⟩
    have : y = 0 := by omega
    subst this
    rw [gX12_divisor, if_pos (by decide), Nat.gcd_zero_right]
  | succ b ih =>
    intro x y f hy hx hf hb
    have hp : 2 ^ (b + 1) ≤ 2 ^ 31 := Nat.pow_le_pow_right (by decide) (by omega)
    obtain ⟨f, rfl⟩ : ∃ g, f = g + 2 := ⟨f - 2, by omega⟩
    by_cases c0 : y = 0
    · subst c0
      rw [gX12_divisor, if_pos (by decide), Nat.gcd_zero_right]
    have h2 := Nat.mod_lt x (show 0 < y by omega)
    rw [gX12_divisor, if_neg (nI_nle (by omega) (by omega)), dv_ok (nI_ne0 (by omega) (by omega)), nm_eq, pk_rem hx (by omega) (by omega)]
    by_cases c1 : x % y = 0
    · rw [c1, gX12_divisor, if_pos (by decide), gcd_s, c1, Nat.gcd_zero_right]
    · have h3 := Nat.mod_lt y (show 0 < x % y by omega)
      rw [gX12_divisor, if_neg (nI_nle (by omega) (by omega)), dv_ok (nI_ne0 (by omega) (by omega)), nm_eq, pk_rem (by omega) (by omega) (by omega), ih _ _ f (mod_half hy (by omega) (by omega)) (by omega) (by omega) (by omega), gcd_s x y, gcd_s y (x % y)]
theorem gcdC : ∀ (b x y i f : Nat), y < 2 ^ b → x < 2 ^ 31 → 2 * b + 1 ≤ f → i + 2 * b + 1 ≤ 64 → b ≤ 30 → gX11_greatestDivisor f (nI x) (nI y) (nI i) = some (nI (Nat.gcd x y)) := by
  intro b
  induction b with
  | zero =>
    intro x y i f hy hx hf hi hb
    obtain ⟨f, rfl⟩ : ∃ g, f = g + 1 := ⟨f - 1, by omega⟩
    have : y = 0 := by omega
    subst this
    rw [gX11_greatestDivisor, if_neg (show ¬ (64 : Int32) ≤ nI i from nI_ge (b := 64) (by omega) (by omega)), if_pos (by decide), Nat.gcd_zero_right]
  | succ b ih =>
    intro x y i f hy hx hf hi hb
    have hp : 2 ^ (b + 1) ≤ 2 ^ 31 := Nat.pow_le_pow_right (by decide) (by omega)
    obtain ⟨f, rfl⟩ : ∃ g, f = g + 2 := ⟨f - 2, by omega⟩
    have i1 : ¬ (64 : Int32) ≤ nI i := nI_ge (b := 64) (by omega) (by omega)
    have i2 : ¬ (64 : Int32) ≤ nI (i + 1) := nI_ge (b := 64) (by omega) (by omega)
    by_cases c0 : y = 0
    · subst c0
      rw [gX11_greatestDivisor, if_neg i1, if_pos (by decide), Nat.gcd_zero_right]
    have h2 := Nat.mod_lt x (show 0 < y by omega)
    rw [gX11_greatestDivisor, if_neg i1, if_neg (nI_ne0 (by omega) (by omega)), dv_ok (nI_ne0 (by omega) (by omega)), nm_eq, pk_rem hx (by omega) (by omega), nI_1]
    by_cases c1 : x % y = 0
    · rw [c1, gX11_greatestDivisor, if_neg i2, if_pos (by decide), gcd_s, c1, Nat.gcd_zero_right]
    · have h3 := Nat.mod_lt y (show 0 < x % y by omega)
      rw [gX11_greatestDivisor, if_neg i2, if_neg (nI_ne0 (by omega) (by omega)), dv_ok (nI_ne0 (by omega) (by omega)), nm_eq, pk_rem (by omega) (by omega) (by omega), nI_1, ih _ _ _ f (mod_half hy (by omega) (by omega)) (by omega) (by omega) (by omega) (by omega), gcd_s x y, gcd_s y (x % y)]
def pcS (T : Tn) (d s : Nat) : Nat := pcN (hrsN (dwn T d) (dsk T d) s)
theorem all_and {v : Nat} (h : v < 2 ^ 24) : (2 ^ 24 - 1) &&& v = v := by rw [Nat.and_comm, Nat.and_two_pow_sub_one_eq_mod, Nat.mod_eq_of_lt h]
theorem pcS_l (T : Tn) (d : Nat) {s : Nat} (hs : s < 3) : fJ6_bitCount_0f7a4 ((16777215 : Int32) &&& hrs T d s) = some (nI (pcS T d s)) := by
  have h := bc_ok _ (dwn_lt T d) _ (dsk_lt T d).2 (dsk_lt T d).1 3 (by omega) s (by omega)
  unfold hr4 at h
  rw [if_neg (by omega), if_pos hs, all_and (hrs_lt T d hs)] at h
  rw [show (16777215 : Int32) = nI (2 ^ 24 - 1) from rfl, hrs, fa_and, all_and (hrs_lt T d hs)]
  exact h
theorem pcS_r (T : Tn) (d : Nat) {s : Nat} (hs : s < 3) : fJ6_bitCount_0f7a4 (hrs T d s &&& (16777215 : Int32)) = some (nI (pcS T d s)) := by
  rw [← pcS_l T d hs, hrs, show (16777215 : Int32) = nI (2 ^ 24 - 1) from rfl, fa_and, fa_and, Nat.and_comm]
theorem pcS_m (T : Tn) (d : Nat) {s : Nat} (hs : s < 3) : fX12_members (hrs T d s) = some (nI (pcS T d s)) := by
  rw [hrs]
  exact m_members (by have := hrs_lt T d hs; omega)
theorem pcS_lt (T : Tn) (d s : Nat) : pcS T d s < 2 ^ 20 := by
  have : pcS T d s ≤ 24 * 1 := fb_sm_bound (fun k _ => by have := Nat.mod_lt ((hrsN (dwn T d) (dsk T d) s) / 2 ^ k) (show 0 < 2 by decide); omega)
  omega
def od0 (T : Tn) (d : Nat) (sd : Nat → Nat) (k : Nat) : Nat := if com T d (sd (tA T k)) (sd (tB T k)) < tH T k then 0 else (100 - tw T (tA T k)) * (100 - tw T (tB T k))
def od1 (T : Tn) (d : Nat) (sd : Nat → Nat) (k : Nat) : Nat := if pcS T d (sd (tB T k)) < tH T k then 0 else tw T (tA T k) * (100 - tw T (tB T k))
def od2 (T : Tn) (d : Nat) (sd : Nat → Nat) (k : Nat) : Nat := if pcS T d (sd (tA T k)) < tH T k then 0 else (100 - tw T (tA T k)) * tw T (tB T k)
def odU (T : Tn) (d : Nat) (sd : Nat → Nat) (k : Nat) : Nat := od0 T d sd k + od1 T d sd k + od2 T d sd k + tw T (tA T k) * tw T (tB T k)
theorem odU_lt {T : Tn} (hT : TOK T) (d : Nat) (sd : Nat → Nat) {k : Nat} (hk : k < tnm T) : odU T d sd k < 2 ^ 16 := by
  obtain ⟨n1, n2, _⟩ := hT.2.2.2.2.2.1 k hk
  have w1 := (hT.2.2.2.2.1 _ n1).2
  have w2 := (hT.2.2.2.2.1 _ n2).2
  have m1 : tw T (tA T k) * tw T (tB T k) ≤ 100 * 100 := Nat.mul_le_mul w1 w2
  have m2 : (100 - tw T (tA T k)) * tw T (tB T k) ≤ 100 * 100 := Nat.mul_le_mul (by omega) w2
  have m3 : tw T (tA T k) * (100 - tw T (tB T k)) ≤ 100 * 100 := Nat.mul_le_mul w1 (by omega)
  have m4 : (100 - tw T (tA T k)) * (100 - tw T (tB T k)) ≤ 100 * 100 := Nat.mul_le_mul (by omega) (by omega)
  have l0 : od0 T d sd k ≤ 10000 := by unfold od0; split <;> omega
  have l1 : od1 T d sd k ≤ 10000 := by unfold od1; split <;> omega
  have l2 : od2 T d sd k ≤ 10000 := by unfold od2; split <;> omega
  unfold odU
  omega
section
variable {T : Tn} {d : Nat} {sd : Nat → Nat} {q : Nat} {m : Mem}
theorem CD.chance (hT : TOK T) (h : CD T d sd q m) {k : Nat} (hk : k < tnm T) : fX9_chancesToMeet m (nI k) = some (nI (odU T d sd k)) := by
  have h10 := hT.2.1
  have h7 := hT.1
  obtain ⟨n1, n2, _, n3, n4, _⟩ := hT.2.2.2.2.2.1 k hk
  obtain ⟨e1, e2, e3, e4⟩ := h.1.1.2.2.2.2.2.2.2.2.1 k hk
  have w1 := (hT.2.2.2.2.1 _ n1).2
  have w2 := (hT.2.2.2.2.1 _ n2).2
  have hI0 : ∀ p, p < tnp T → fX9_hoursIf m 0 (nI p) = some (hrs T d (sd p)) := fun p hp => by unfold fX9_hoursIf; rw [if_pos rfl, h.hours hT hp, cP_some]
  have hI1 : ∀ p, fX9_hoursIf m 1 (nI p) = some 16777215 := fun p => by unfold fX9_hoursIf; rw [if_neg i10]
  have cW : ∀ p, p < tnp T → fX6_wakefulOf m (tP T) (nI p) = some (nI (tw T p)) := fun p hp => by unfold fX6_wakefulOf; rw [gPl_ok h.1.1.pl, rd_ok (by omega) (by omega), (h.1.1.2.2.2.2.2.2.2.1 p hp).2]
  have cI0 : ∀ p, p < tnp T → fX9_chancesIf m 0 (nI p) = some (nI (100 - tw T p)) := fun p hp => by
    unfold fX9_chancesIf
    rw [gPl_T h.1.1, h.1.1.2.1, cW p hp, cP_some, if_pos rfl]
    exact congrArg some (pk_sub (a := 100) (hT.2.2.2.2.1 _ hp).2)
  have cI1 : ∀ p, p < tnp T → fX9_chancesIf m 1 (nI p) = some (nI (tw T p)) := fun p hp => by
    unfold fX9_chancesIf
    rw [gPl_T h.1.1, h.1.1.2.1, cW p hp, cP_some, if_neg i10]
  have s1 := (h.1.2.2.2.1 _ n1).1
  have s2 := (h.1.2.2.2.1 _ n2).1
  have t0 : ∀ (f : Nat) (acc : Nat), gX9_chancesToMeet m (f + 1) (nI k) (nI (tA T k)) (nI (tB T k)) (nI acc) 0 = gX9_chancesToMeet m f (nI k) (nI (tA T k)) (nI (tB T k)) (nI (acc + od0 T d sd k)) 1 := fun f acc => by
    rw [gX9_chancesToMeet, if_neg (by decide), if_pos (by decide), if_pos (by decide), hI0 _ n1, cP_some, hI0 _ n2, cP_some, nm_eq, com_bc T d s1 s2, cP_some, gPl_T h.1.1, h.1.1.2.1, rd_ok (by omega) (by omega), e3, cI0 _ n1, cP_some, cI0 _ n2, cP_some, nm_eq, pk_mul, nI_add, od0]
    have := com_lt T d (sd (tA T k)) (sd (tB T k))
    by_cases c : com T d (sd (tA T k)) (sd (tB T k)) < tH T k
    · rw [if_pos (nI_lt c (by omega)), if_pos c]; rfl
    · rw [if_neg (nI_nlt (by omega) (by omega)), if_neg c]; rfl
  have t1 : ∀ (f : Nat) (acc : Nat), gX9_chancesToMeet m (f + 1) (nI k) (nI (tA T k)) (nI (tB T k)) (nI acc) 1 = gX9_chancesToMeet m f (nI k) (nI (tA T k)) (nI (tB T k)) (nI (acc + od1 T d sd k)) 2 := fun f acc => by
    rw [gX9_chancesToMeet, if_neg (by decide), if_neg (by decide), if_pos (by decide), hI1, cP_some, hI0 _ n2, cP_some, nm_eq, pcS_l T d s2, cP_some, gPl_T h.1.1, h.1.1.2.1, rd_ok (by omega) (by omega), e3, cI1 _ n1, cP_some, cI0 _ n2, cP_some, nm_eq, pk_mul, nI_add, od1]
    have := pcS_lt T d (sd (tB T k))
    by_cases c : pcS T d (sd (tB T k)) < tH T k
    · rw [if_pos (nI_lt c (by omega)), if_pos c]; rfl
    · rw [if_neg (nI_nlt (by omega) (by omega)), if_neg c]; rfl
  have t2 : ∀ (f : Nat) (acc : Nat), gX9_chancesToMeet m (f + 1) (nI k) (nI (tA T k)) (nI (tB T k)) (nI acc) 2 = gX9_chancesToMeet m f (nI k) (nI (tA T k)) (nI (tB T k)) (nI (acc + od2 T d sd k)) 3 := fun f acc => by
    rw [gX9_chancesToMeet, if_neg (by decide), if_pos (by decide), if_neg (by decide), hI0 _ n1, cP_some, hI1, cP_some, nm_eq, pcS_r T d s1, cP_some, gPl_T h.1.1, h.1.1.2.1, rd_ok (by omega) (by omega), e3, cI0 _ n1, cP_some, cI1 _ n2, cP_some, nm_eq, pk_mul, nI_add, od2]
    have := pcS_lt T d (sd (tA T k))
    by_cases c : pcS T d (sd (tA T k)) < tH T k
    · rw [if_pos (nI_lt c (by omega)), if_pos c]; rfl
    · rw [if_neg (nI_nlt (by omega) (by omega)), if_neg c]; rfl
  have t3 : ∀ (f : Nat) (acc : Nat), gX9_chancesToMeet m (f + 2) (nI k) (nI (tA T k)) (nI (tB T k)) (nI acc) 3 = some (nI (acc + tw T (tA T k) * tw T (tB T k))) := fun f acc => by
    rw [gX9_chancesToMeet, if_neg (by decide), if_neg (by decide), if_neg (by decide), hI1, cP_some, hI1, cP_some, nm_eq, show fJ6_bitCount_0f7a4 ((16777215 : Int32) &&& 16777215) = some (nI 24) by decide +kernel, cP_some, gPl_T h.1.1, h.1.1.2.1, rd_ok (by omega) (by omega), e3, if_neg (nI_nlt (by omega) (by omega)), cI1 _ n1, cP_some, cI1 _ n2, cP_some, nm_eq, pk_mul, nI_add, gX9_chancesToMeet, if_pos (by decide)]
  unfold fX9_chancesToMeet
  rw [gPl_T h.1.1, h.1.1.2.1, rd_ok (by omega) (by omega), e1, rd_ok (by omega) (by omega), e2]
  have a0 := t0 4999 0
  rw [t1, t2, t3] at a0
  rw [show gX9_chancesToMeet m 5000 (nI k) (nI (tA T k)) (nI (tB T k)) 0 0 = _ from a0]
  unfold odU
  congr 2
  omega
end
set_option maxHeartbeats 1000000 in
theorem o_odds : Ob_odds Rl := by
  intro mC mM x y z hR
  obtain ⟨T, hX⟩ : ∃ T, RX T mC mM := id hR
  obtain ⟨sd, q, hr, dt, hQ⟩ := hX.cb
  have hT := hX.1
  have h2 := hX.2.1
  have h3 := hX.2.2.1
  have h7 := hT.1
  have h8 := hT.2.2.1
  have h10 := hT.2.1
  unfold fX11_odds fX12_odds
  rcases hX.meet x with ⟨e1, e2⟩ | ⟨k, hk, rfl, e1, e2⟩
  · rw [e1, e2, cP_some, cP_some]
    exact ⟨_, _, _, by rw [if_pos rfl], by rw [if_pos rfl], hR⟩
  rw [e1, e2, cP_some, cP_some, if_neg i10, if_neg i10]
  rcases date_c y with ⟨e1, e2⟩ | ⟨d, hd, rfl, e1, e2⟩
  · rw [e1, e2, cP_some, cP_some]
    exact ⟨_, _, _, by rw [if_pos rfl], by rw [if_pos rfl], hR⟩
  rw [e1, e2, cP_some, cP_some, if_neg i10, if_neg i10]
  rcases two_c z with ⟨e1, e2⟩ | ⟨e0, e1, e3, e2⟩ | ⟨b, hb, rfl, e0, e1, e3, e2⟩
  · rw [if_pos e1, e2, cP_some]
    exact ⟨_, _, _, rfl, by rw [if_pos rfl], hR⟩
  · rw [if_neg e0, if_neg e1, e2, cP_some]
    exact ⟨_, _, _, rfl, by rw [if_pos rfl], hR⟩
  rw [if_neg e0, if_pos e1, e2, cP_some, if_neg i10]
  obtain ⟨c1, a1, a2, a3⟩ := hQ.cb.day hT hd
  obtain ⟨m1, b1, b2, b3, b4⟩ := hX.load hQ d
  obtain ⟨n1, n2, _, n3, n4, _⟩ := hT.2.2.2.2.2.1 k hk
  obtain ⟨t1, t2, t3, t4⟩ := b3.1.2.2.2.2.2.1 k hk
  obtain ⟨s1, s2⟩ := b3.2.2.2.1 _ n1
  obtain ⟨u1, u2⟩ := b3.2.2.2.1 _ n2
  obtain ⟨_, v1⟩ := b3.1.2.2.2.2.1 _ n1
  obtain ⟨_, v2⟩ := b3.1.2.2.2.2.1 _ n2
  have w1 := (hT.2.2.2.2.1 _ n1).2
  have w2 := (hT.2.2.2.2.1 _ n2).2
  have hU := odU_lt hT d sd hk
  have g0 : 0 < Nat.gcd (odU T d sd k) 10000 := Nat.gcd_pos_of_pos_right _ (by decide)
  have gl : Nat.gcd (odU T d sd k) 10000 ≤ 10000 := Nat.gcd_le_right _ (by decide)
  have gC : fX11_greatestDivisor (nI (odU T d sd k)) 10000 = some (nI (Nat.gcd (odU T d sd k) 10000)) := gcdC 14 (odU T d sd k) 10000 0 5000 (by decide) (by omega) (by omega) (by omega) (by omega)
  have tail : ∀ v, v = odU T d sd k → (cP (fX12_divisor (10000 : Int32) (nI v)) fun r38 => (if nI b = 0 then (dv r38 (some ((nI v / r38), m1))) else (dv r38 (some (((10000 : Int32) / r38), m1))))) = some ((if nI b = 0 then nI (odU T d sd k) / nI (Nat.gcd (odU T d sd k) 10000) else (10000 : Int32) / nI (Nat.gcd (odU T d sd k) 10000)), m1) := by
    intro v hv
    subst hv
    rw [show fX12_divisor (10000 : Int32) (nI (odU T d sd k)) = some (nI (Nat.gcd 10000 (odU T d sd k))) from gcdM 16 10000 _ 5000 hU (by omega) (by omega) (by omega), cP_some, Nat.gcd_comm 10000, dv_ok (nI_ne0 g0 (by omega)), dv_ok (nI_ne0 g0 (by omega))]
    split <;> rfl
  have s100A : (100 : Int32) - nI (tw T (tA T k)) = nI (100 - tw T (tA T k)) := pk_sub (a := 100) w1
  have s100B : (100 : Int32) - nI (tw T (tB T k)) = nI (100 - tw T (tB T k)) := pk_sub (a := 100) w2
  have lc := com_lt T d (sd (tA T k)) (sd (tB T k))
  have la := pcS_lt T d (sd (tA T k))
  have lb := pcS_lt T d (sd (tB T k))
  have left : (cP (fX9_chancesToMeet c1 (nI k)) fun r12 => (cP (fX11_greatestDivisor r12 (10000 : Int32)) fun r14 => (if r14 = 0 then (some ((-1 : Int32), c1)) else (if nI b = 0 then (dv r14 (some ((r12 / r14), c1))) else (dv r14 (some (((10000 : Int32) / r14), c1))))))) = some ((if nI b = 0 then nI (odU T d sd k) / nI (Nat.gcd (odU T d sd k) 10000) else (10000 : Int32) / nI (Nat.gcd (odU T d sd k) 10000)), c1) := by
    rw [a3.chance hT hk, cP_some, gC, cP_some, if_neg (nI_ne0 g0 (by omega)), dv_ok (nI_ne0 g0 (by omega)), dv_ok (nI_ne0 g0 (by omega))]
    split <;> rfl
  rw [a1, b1, cR_some, cV_some, gEq_ok, left]
  rw [rd_ok (by omega) (by omega), t1, rd_ok (by omega) (by omega), s2, rd_ok s1 (by omega), b3.2.1 _ s1, rd_ok (by omega) (by omega), t2, rd_ok (by omega) (by omega), u2, rd_ok u1 (by omega), b3.2.1 _ u1, rd_ok (by omega) (by omega), t1, rd_ok (by omega) (by omega), v1, rd_ok (by omega) (by omega), t2, rd_ok (by omega) (by omega), v2, nm_eq, pk_mul, pcS_m T d u1, cP_some, rd_ok (by omega) (by omega), t3, s100A, s100B, pk_mul, pk_mul, pk_mul]
  refine ⟨_, _, m1, rfl, ?_, hX.done a2 a3.1.2.2.1 b2⟩
  have ff : ∀ (a c : Nat), nI a + (0 : Int32) = nI a := fun a _ => add_z _
  by_cases cb : pcS T d (sd (tB T k)) < tH T k
  · rw [if_pos (nI_lt cb (by omega)), nm_eq, pcS_m T d s1, cP_some, rd_ok (by omega) (by omega), t3]
    by_cases ca : pcS T d (sd (tA T k)) < tH T k
    · rw [if_pos (nI_lt ca (by omega)), nm_eq, com_mem T d s1 u1, cP_some, rd_ok (by omega) (by omega), t3]
      by_cases cc : com T d (sd (tA T k)) (sd (tB T k)) < tH T k
      · rw [if_pos (nI_lt cc (by omega)), nm_eq]
        simp only [add_z, nI_add]
        exact tail _ (by unfold odU od0 od1 od2; rw [if_pos ca, if_pos cb, if_pos cc]; omega)
      · rw [if_neg (nI_nlt (by omega) (by omega)), nm_eq]
        simp only [add_z, nI_add]
        exact tail _ (by unfold odU od0 od1 od2; rw [if_pos ca, if_pos cb, if_neg cc]; omega)
    · rw [if_neg (nI_nlt (by omega) (by omega)), nm_eq, com_mem T d s1 u1, cP_some, rd_ok (by omega) (by omega), t3]
      by_cases cc : com T d (sd (tA T k)) (sd (tB T k)) < tH T k
      · rw [if_pos (nI_lt cc (by omega)), nm_eq]
        simp only [add_z, nI_add]
        exact tail _ (by unfold odU od0 od1 od2; rw [if_neg ca, if_pos cb, if_pos cc]; omega)
      · rw [if_neg (nI_nlt (by omega) (by omega)), nm_eq]
        simp only [add_z, nI_add]
        exact tail _ (by unfold odU od0 od1 od2; rw [if_neg ca, if_pos cb, if_neg cc]; omega)
  · rw [if_neg (nI_nlt (by omega) (by omega)), nm_eq, pcS_m T d s1, cP_some, rd_ok (by omega) (by omega), t3]
    by_cases ca : pcS T d (sd (tA T k)) < tH T k
    · rw [if_pos (nI_lt ca (by omega)), nm_eq, com_mem T d s1 u1, cP_some, rd_ok (by omega) (by omega), t3]
      by_cases cc : com T d (sd (tA T k)) (sd (tB T k)) < tH T k
      · rw [if_pos (nI_lt cc (by omega)), nm_eq]
        simp only [add_z, nI_add]
        exact tail _ (by unfold odU od0 od1 od2; rw [if_pos ca, if_neg cb, if_pos cc]; omega)
      · rw [if_neg (nI_nlt (by omega) (by omega)), nm_eq]
        simp only [add_z, nI_add]
        exact tail _ (by unfold odU od0 od1 od2; rw [if_pos ca, if_neg cb, if_neg cc]; omega)
    · rw [if_neg (nI_nlt (by omega) (by omega)), nm_eq, com_mem T d s1 u1, cP_some, rd_ok (by omega) (by omega), t3]
      by_cases cc : com T d (sd (tA T k)) (sd (tB T k)) < tH T k
      · rw [if_pos (nI_lt cc (by omega)), nm_eq]
        simp only [add_z, nI_add]
        exact tail _ (by unfold odU od0 od1 od2; rw [if_neg ca, if_neg cb, if_pos cc]; omega)
      · rw [if_neg (nI_nlt (by omega) (by omega)), nm_eq]
        simp only [add_z, nI_add]
        exact tail _ (by unfold odU od0 od1 od2; rw [if_neg ca, if_neg cb, if_neg cc]; omega)
