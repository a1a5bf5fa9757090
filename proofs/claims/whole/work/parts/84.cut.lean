/-! ===== the sides by which most is met: cut ===== -/
/-- digits by threes -/
def D3 (e v : Nat) : Nat := v / 3 ^ e % 3
theorem D3_lt (e v : Nat) : D3 e v < 3 := Nat.mod_lt _ (by decide)
theorem d3_all {e v : Nat} (h : v % 3 ^ e = 3 ^ e - 1) : (v + 1) / 3 ^ e = v / 3 ^ e + 1 := by
  have hw : 0 < 3 ^ e := Nat.pow_pos (by decide)
  have h1 := Nat.div_add_mod v (3 ^ e)
  have h2 : v + 1 = 3 ^ e * (v / 3 ^ e + 1) := by rw [Nat.mul_succ]; omega
  rw [h2, Nat.mul_div_cancel_left _ hw]
theorem d3_div (e r v : Nat) : v / 3 ^ (e + r) = v / 3 ^ e / 3 ^ r := by rw [Nat.pow_add, Nat.div_div_eq_div_mul]
theorem d3_hi {e v : Nat} (h : v % 3 ^ e = 3 ^ e - 1) (h2 : D3 e v < 2) {e' : Nat} (he : e < e') : D3 e' (v + 1) = D3 e' v := by
  have h1 := d3_all h
  unfold D3 at *
  obtain ⟨r, rfl⟩ : ∃ r, e' = e + (1 + r) := ⟨e' - e - 1, by omega⟩
  rw [d3_div e (1 + r) (v + 1), d3_div e (1 + r) v, h1, d3_div 1 r (v / 3 ^ e + 1), d3_div 1 r (v / 3 ^ e), Nat.pow_one, show (v / 3 ^ e + 1) / 3 = v / 3 ^ e / 3 by omega]
theorem d3_at {e v : Nat} (h : v % 3 ^ e = 3 ^ e - 1) (h2 : D3 e v < 2) : D3 e (v + 1) = D3 e v + 1 := by
  have h1 := d3_all h
  unfold D3 at *
  rw [h1]
  omega
theorem d3_lo {e v : Nat} (h : v % 3 ^ e = 3 ^ e - 1) {e' : Nat} (he : e' < e) : D3 e' (v + 1) = 0 := by
  have h1 := Nat.div_add_mod v (3 ^ e)
  have hw : 0 < 3 ^ e := Nat.pow_pos (by decide)
  have h2 : v + 1 = 3 ^ e * (v / 3 ^ e + 1) := by rw [Nat.mul_succ]; omega
  obtain ⟨r, rfl⟩ : ∃ r, e = e' + (r + 1) := ⟨e - e' - 1, by omega⟩
  unfold D3
  rw [h2, Nat.pow_add, Nat.mul_assoc, Nat.mul_div_cancel_left _ (Nat.pow_pos (by decide)), Nat.pow_succ, Nat.mul_comm (3 ^ r) 3, Nat.mul_assoc, Nat.mul_mod_right]
theorem d3_up {e v : Nat} (h : v % 3 ^ e = 3 ^ e - 1) (h2 : ¬ D3 e v < 2) : v % 3 ^ (e + 1) = 3 ^ (e + 1) - 1 := by
  have hw : 0 < 3 ^ e := Nat.pow_pos (by decide)
  have h3 := D3_lt e v
  have h4 : v / 3 ^ e % 3 = 2 := by unfold D3 at h2 h3; omega
  rw [Nat.pow_succ, Nat.mod_mul, h, h4]
  omega
def dg (n v p : Nat) : Nat := D3 (n - 1 - p) v
theorem dg_lt (n v p : Nat) : dg n v p < 3 := D3_lt _ _
section
variable {m : Mem}
theorem nextG {n v : Nat} (hn : n ≤ 7) (hv : v < 3 ^ n) : ∀ (p : Nat), p ≤ n → ∀ (m : Mem) (f : Nat), p < f → v % 3 ^ (n - p) = 3 ^ (n - p) - 1 → (∀ j, j < p → m.1 62 j = nI (dg n v j)) → (∀ j, p ≤ j → j < n → m.1 62 j = 0) → ∃ r m', gX1_nextTrial f (nI p - 1) m = some (r, m') ∧ keeps [62] m m' ∧ ((v + 1 = 3 ^ n ∧ r = -1) ∨ (v + 1 < 3 ^ n ∧ ∃ c, c < n ∧ r = nI c ∧ (∀ j, j < n → m'.1 62 j = nI (dg n (v + 1) j)) ∧ ∀ j, j < c → dg n (v + 1) j = dg n v j)) := by
  intro p
  induction p with
  | zero =>
    intro hp m f hf hm r1 r2
    obtain ⟨f, rfl⟩ : ∃ g, f = g + 1 := ⟨f - 1, by omega⟩
    refine ⟨-1, m, by rw [gX1_nextTrial, if_pos (by decide)], keeps.rfl', Or.inl ⟨?_, rfl⟩⟩
    rw [Nat.sub_zero, Nat.mod_eq_of_lt hv] at hm
    have : 0 < 3 ^ n := Nat.pow_pos (by decide)
    omega
  | succ p ih =>
    intro hp m f hf hm r1 r2
    obtain ⟨f, rfl⟩ : ∃ g, f = g + 1 := ⟨f - 1, by omega⟩
    have e0 : n - (p + 1) = n - 1 - p := by omega
    rw [e0] at hm
    have hd := dg_lt n v p
    rw [nI_pred, gX1_nextTrial, if_neg (nI_lt0 (by omega)), rd_ok (by omega) (by omega), wr_ok (by omega) (by omega), r1 p (by omega), nI_1, rd_ok (by omega) (by omega), sI_row, upd_at, wr_ok (by omega) (by omega)]
    by_cases c : dg n v p < 2
    · rw [if_neg (show ¬ (3 : Int32) ≤ nI (dg n v p + 1) from nI_ge (b := 3) (by omega) (by omega))]
      refine ⟨_, _, rfl, keeps.rfl'.sI (by simp), Or.inr ⟨?_, p, by omega, rfl, fun j hj => ?_, fun j hj => ?_⟩⟩
      · have h1 := Nat.div_add_mod v (3 ^ (n - 1 - p))
        have h2 : v / 3 ^ (n - 1 - p) < 3 ^ (p + 1) := by
          refine Nat.div_lt_of_lt_mul ?_
          rw [← Nat.pow_add, show n - 1 - p + (p + 1) = n by omega]
          exact hv
        rcases Nat.lt_or_ge (v + 1) (3 ^ n) with z | z
        · exact z
        · exfalso
          have h3 := d3_all hm
          have h4 : v + 1 = 3 ^ n := by omega
          have h5 : (v + 1) / 3 ^ (n - 1 - p) = 3 ^ (p + 1) := by
            rw [h4, show n = (n - 1 - p) + (p + 1) by omega, Nat.pow_add, show n - 1 - p + (p + 1) - 1 - p = n - 1 - p by omega, Nat.mul_div_cancel_left _ (Nat.pow_pos (by decide))]
          have h6 : 3 ^ (p + 1) = 3 * 3 ^ p := by rw [Nat.pow_succ, Nat.mul_comm]
          unfold dg D3 at c
          omega
      · rw [sI_row]
        by_cases y : j = p
        · rw [y, upd_at]
          congr 1
          exact (d3_at hm c).symm
        · rw [upd_ne y]
          by_cases y2 : j < p
          · rw [r1 j (by omega)]
            congr 1
            exact (d3_hi hm c (by omega)).symm
          · rw [r2 j (by omega) hj, ← nI_0]
            congr 1
            exact (d3_lo hm (by omega)).symm
      · exact d3_hi hm c (by omega)
    · rw [if_pos (show (3 : Int32) ≤ nI (dg n v p + 1) from nI_le (a := 3) (by omega) (by omega)), show nI p + (-1 : Int32) = nI p - 1 by rw [Int32.sub_eq_add_neg]]
      obtain ⟨r, m', a1, a2, a3⟩ := ih (by omega) (sI (sI m 62 p (nI (dg n v p + 1))) 62 p 0) f (by omega) (by rw [show n - p = n - 1 - p + 1 by omega]; exact d3_up hm c) (fun j hj => by rw [sI_row, upd_ne (by omega), sI_row, upd_ne (by omega)]; exact r1 j (by omega)) (fun j h1 h2 => by
        rw [sI_row]
        by_cases y : j = p
        · rw [y, upd_at]
        · rw [upd_ne y, sI_row, upd_ne y]; exact r2 j (by omega) h2)
      exact ⟨r, m', a1, ((keeps.rfl'.sI (by simp)).sI (by simp)).trans a2, a3⟩
/-- bliss and changes as far as they are added up -/
def UP (t s : Nat → Nat) (j : Nat) (m : Mem) : Prop := m.1 63 j = phi t (m.1 61) j ∧ m.1 64 j = nI (fb_sm (fun p => if t p = s p then 0 else 1) j)
theorem addIn {n p : Nat} {t : Nat → Nat} (hn : n ≤ 7) (hp : p < n) (ht : ∀ p, p < n → t p < 3) (h62 : ∀ j, j < n → m.1 62 j = nI (t j)) (x : Int32) : ∀ (k o : Nat), o + k = p → ∀ f, k < f → ∃ f', f = f' + k ∧ gX1_addUpFrom f 1 (nI p) (nI (p * 3 + t p)) (x + zs (fun o => m.1 61 ((p * 3 + t p) * 21 + (o * 3 + t o))) o) (nI o) m = gX1_addUpFrom f' 1 (nI p) (nI (p * 3 + t p)) (x + zs (fun o => m.1 61 ((p * 3 + t p) * 21 + (o * 3 + t o))) p) (nI p) m := by
  intro k
  induction k with
  | zero =>
    intro o ho f hf
    have : o = p := by omega
    subst this
    exact ⟨f, rfl, rfl⟩
  | succ k ih =>
    intro o ho f hf
    obtain ⟨f, rfl⟩ : ∃ g, f = g + 1 := ⟨f - 1, by omega⟩
    have h1 := ht p hp
    have h2 := ht o (by omega)
    obtain ⟨f', a0, a1⟩ := ih (o + 1) (by omega) f (by omega)
    refine ⟨f', by omega, ?_⟩
    rw [← a1, gX1_addUpFrom, if_neg (nI_ge (by omega) (by omega)), rd_ok (by omega) (by omega), h62 o (by omega), place_ok, cP_some, i_idx, rd_ok (by omega) (by omega), nm_eq, nI_1, Int32.add_assoc]
    rfl
theorem addG {n : Nat} {t s : Nat → Nat} (hn : n ≤ 7) (ht : ∀ p, p < n → t p < 3) (hs : ∀ p, p < n → s p < 3) : ∀ (k p : Nat), p + k = n → ∀ (m : Mem) (f : Nat), 10 * k < f → m.1 58 0 = nI n → (∀ j, j < n → m.1 59 j = nI (s j)) → (∀ j, j < n → m.1 62 j = nI (t j)) → (∀ j, j ≤ p → UP t s j m) → ∃ m', gX1_addUpFrom f 0 (nI p) 0 0 0 m = some m' ∧ keeps [63, 64] m m' ∧ ∀ j, j ≤ n → UP t s j m' := by
  intro k
  induction k with
  | zero =>
    intro p hp m f hf h58 h59 h62 hU
    obtain ⟨f, rfl⟩ : ∃ g, f = g + 1 := ⟨f - 1, by omega⟩
    have : p = n := by omega
    subst this
    exact ⟨m, by rw [gX1_addUpFrom, h58, if_pos (nI_le (by omega) (by omega))], keeps.rfl', hU⟩
  | succ k ih =>
    intro p hp m f hf h58 h59 h62 hU
    obtain ⟨f, rfl⟩ : ∃ g, f = g + 1 := ⟨f - 1, by omega⟩
    have h1 := ht p (by omega)
    have h2 := hs p (by omega)
    obtain ⟨u1, u2⟩ := hU p (by omega)
    obtain ⟨f1, a0, a1⟩ := addIn hn (show p < n by omega) ht h62 (m.1 63 p) p 0 (by omega) f (by omega)
    obtain ⟨f1, rfl⟩ : ∃ g, f1 = g + 1 := ⟨f1 - 1, by omega⟩
    have a1' : gX1_addUpFrom f 1 (nI p) (nI (p * 3 + t p)) (m.1 63 p) 0 m = gX1_addUpFrom (f1 + 1) 1 (nI p) (nI (p * 3 + t p)) (m.1 63 p + zs (fun o => m.1 61 ((p * 3 + t p) * 21 + (o * 3 + t o))) p) (nI p) m := by
      rw [← a1, show zs (fun o => m.1 61 ((p * 3 + t p) * 21 + (o * 3 + t o))) 0 = 0 from rfl, i_az]
      rfl
    rw [gX1_addUpFrom, h58, if_neg (nI_ge (by omega) (by omega)), rd_ok (by omega) (by omega), h62 p (by omega), place_ok, cP_some, rd_ok (by omega) (by omega), a1', gX1_addUpFrom, if_pos (nI_le (by omega) (by omega)), nI_1, wr_ok (by omega) (by omega), rd_ok (by omega) (by omega), rd_ok (by omega) (by omega), rd_ok (by omega) (by omega), sI_oth (by omega), sI_oth (by omega), sI_oth (by omega), h62 p (by omega), h59 p (by omega), u2, wr_ok (by omega) (by omega), wr_ok (by omega) (by omega)]
    have step : ∀ m1 : Mem, keeps [63, 64] m m1 → m1.1 63 = upd (m.1 63) (p + 1) (m.1 63 p + zs (fun o => m.1 61 ((p * 3 + t p) * 21 + (o * 3 + t o))) p) → m1.1 64 = upd (m.1 64) (p + 1) (nI (fb_sm (fun p => if t p = s p then 0 else 1) (p + 1))) → ∃ m', gX1_addUpFrom f1 0 (nI (p + 1)) 0 0 0 m1 = some m' ∧ keeps [63, 64] m m' ∧ ∀ j, j ≤ n → UP t s j m' := by
      intro m1 kp r63 r64
      obtain ⟨m', b1, b2, b3⟩ := ih (p + 1) (by omega) m1 f1 (by omega) (by rw [kp.2 58 (by simp)]; exact h58) (by rw [kp.2 59 (by simp)]; exact h59) (by rw [kp.2 62 (by simp)]; exact h62) (fun j hj => by
        unfold UP
        rw [r63, r64, kp.2 61 (by simp)]
        by_cases y : j = p + 1
        · rw [y, upd_at, upd_at]
          exact ⟨by rw [u1]; rfl, rfl⟩
        · rw [upd_ne y, upd_ne y]
          exact hU j (by omega))
      exact ⟨m', b1, kp.trans b2, b3⟩
    by_cases c : t p = s p
    · rw [if_pos (by rw [c])]
      refine step _ ((keeps.rfl'.sI (by simp)).sI (by simp)) (by rw [sI_oth (by omega), sI_row]) ?_
      rw [sI_row, sI_oth (by omega), fb_sm_succ, if_pos c, i_az]
      rfl
    · rw [if_neg (fun z => c ((nI_eq (by omega) (by omega)).mp z))]
      refine step _ ((keeps.rfl'.sI (by simp)).sI (by simp)) (by rw [sI_oth (by omega), sI_row]) ?_
      rw [sI_row, sI_oth (by omega), fb_sm_succ, if_neg c, nI_1]
end
def chg (n v : Nat) (s : Nat → Nat) : Nat := fb_sm (fun p => if dg n v p = s p then 0 else 1) n
section
variable {T : Tn} {d : Nat} {sd : Nat → Nat} {q : Nat} {m : Mem}
theorem layG (hT : TOK T) {v : Nat} (hv : v < 3 ^ tnp T) (hs : ∀ p, p < tnp T → sd p < 3) : ∀ (n : Nat), n ≤ tnp T → ∀ (m : Mem) (f a : Nat), n < f → (∀ p, p < tnp T → m.1 33 p = nI (sd p)) → (∀ j, n ≤ j → j < tnp T → m.1 34 j = nI (dg (tnp T) v j)) → ∃ m', gX12_laySides f (nI (v / 3 ^ (tnp T - n))) (nI a) (nI n - 1) m = some (nI (a + fb_sm (fun p => if dg (tnp T) v p = sd p then 0 else 1) n), m') ∧ keeps [34] m m' ∧ (∀ j, 7 ≤ j → m'.1 34 j = m.1 34 j) ∧ ∀ j, j < tnp T → m'.1 34 j = nI (dg (tnp T) v j) := by
  have h7 := hT.1
  have hN : 3 ^ tnp T ≤ 2187 := Nat.pow_le_pow_right (n := 3) (by decide) h7
  intro n
  induction n with
  | zero =>
    intro hn m f a hf h33 h34
    obtain ⟨f, rfl⟩ : ∃ g, f = g + 1 := ⟨f - 1, by omega⟩
    exact ⟨m, by rw [gX12_laySides, if_pos (by decide)]; rfl, keeps.rfl', fun _ _ => rfl, fun j hj => h34 j (by omega) hj⟩
  | succ n ih =>
    intro hn m f a hf h33 h34
    obtain ⟨f, rfl⟩ : ∃ g, f = g + 1 := ⟨f - 1, by omega⟩
    have hle : v / 3 ^ (tnp T - (n + 1)) ≤ v := Nat.div_le_self _ _
    have e1 : nI (v / 3 ^ (tnp T - (n + 1))) / (3 : Int32) = nI (v / 3 ^ (tnp T - (n + 1)) / 3) := pk_div (d := 3) (by omega) (by omega) (by omega)
    have e2 : nI (v / 3 ^ (tnp T - (n + 1))) - nI (v / 3 ^ (tnp T - (n + 1))) / (3 : Int32) * (3 : Int32) = nI (v / 3 ^ (tnp T - (n + 1)) % 3) := pk_rem (d := 3) (by omega) (by omega) (by omega)
    have e3 : v / 3 ^ (tnp T - (n + 1)) % 3 = dg (tnp T) v n := by unfold dg D3; rw [show tnp T - 1 - n = tnp T - (n + 1) by omega]
    have e4 : v / 3 ^ (tnp T - (n + 1)) / 3 = v / 3 ^ (tnp T - n) := by rw [show tnp T - n = tnp T - (n + 1) + 1 by omega, Nat.pow_succ, Nat.div_div_eq_div_mul]
    have hd := dg_lt (tnp T) v n
    have hsn := hs n (by omega)
    rw [nI_pred, gX12_laySides, if_neg (nI_lt0 (by omega)), e2, wr_ok (by omega) (by omega), nm_eq, e1, rd_ok (by omega) (by omega), sI_row, upd_at, rd_ok (by omega) (by omega), sI_oth (by omega), h33 n (by omega), e3, e4, show nI n + (-1 : Int32) = nI n - 1 by rw [Int32.sub_eq_add_neg], show fX12_truth 0 = some (nI 0) from truth_b 0 (by omega), show fX12_truth 1 = some (nI 1) from truth_b 1 (by omega), cP_some, cP_some, nm_eq, nm_eq, nI_add, nI_add]
    have kp : keeps [34] m (sI m 34 n (nI (dg (tnp T) v n))) := keeps.rfl'.sI (by simp)
    have step : ∀ b, b = (if dg (tnp T) v n = sd n then 0 else 1) → ∃ m', gX12_laySides f (nI (v / 3 ^ (tnp T - n))) (nI (a + b)) (nI n - 1) (sI m 34 n (nI (dg (tnp T) v n))) = some (nI (a + fb_sm (fun p => if dg (tnp T) v p = sd p then 0 else 1) (n + 1)), m') ∧ keeps [34] m m' ∧ (∀ j, 7 ≤ j → m'.1 34 j = m.1 34 j) ∧ ∀ j, j < tnp T → m'.1 34 j = nI (dg (tnp T) v j) := fun b hb => by
      obtain ⟨m', a1, a2, a3, a4⟩ := ih (by omega) (sI m 34 n (nI (dg (tnp T) v n))) f (a + b) (by omega) (by rw [kp.2 33 (by simp)]; exact h33) (fun j x y => by
        rw [sI_row]
        by_cases z : j = n
        · rw [z, upd_at]
        · rw [upd_ne z]; exact h34 j (by omega) y)
      refine ⟨m', ?_, kp.trans a2, fun j hj => by rw [a3 j hj, sI_row, upd_ne (by omega)], a4⟩
      rw [a1, fb_sm_succ, ← hb]
      congr 3
      omega
    by_cases c : dg (tnp T) v n = sd n
    · rw [if_pos (by rw [c])]
      exact step 0 (by rw [if_pos c])
    · rw [if_neg (fun z => c ((nI_eq (by omega) (by omega)).mp z))]
      exact step 1 (by rw [if_neg c])
theorem MD.lay3 (hT : TOK T) {v : Nat} (hv : v < 3 ^ tnp T) {t : Nat → Nat} (hs : ∀ p, p < tnp T → sd p < 3 ∧ m.1 33 p = nI (sd p)) (h : MD T d t q m) : ∃ m', fX12_laySides m (nI v) = some (nI (chg (tnp T) v sd), m') ∧ keeps [34] m m' ∧ MD T d (dg (tnp T) v) q m' := by
  have h7 := hT.1
  obtain ⟨m', a1, a2, a3, a4⟩ := layG hT hv (fun p hp => (hs p hp).1) (tnp T) (Nat.le_refl _) m 5000 0 (by omega) (fun p hp => (hs p hp).2) (fun j x y => by omega)
  refine ⟨m', ?_, a2, h.1.kp a2 (by simp <;> omega), by rw [a2.2 35 (by simp)]; exact h.2.1, by rw [a2.2 36 (by simp)]; exact h.2.2.1, fun p hp => ⟨dg_lt _ _ _, a4 p hp⟩, by rw [a3 34 (by omega)]; exact h.2.2.2.2⟩
  unfold fX12_laySides
  rw [h.1.1, nm_eq]
  rw [Nat.sub_self, Nat.pow_zero, Nat.div_one, Nat.zero_add] at a1
  exact a1
theorem putG (hT : TOK T) {t : Nat → Nat} : ∀ (k i : Nat), i + k = tnp T → ∀ (m : Mem) (f : Nat), k < f → MD T d t q m → (∀ j, j < i → m.1 38 j = nI (t j)) → ∃ m', gX12_putSides f (nI i) m = some m' ∧ m'.2 = m.2 ∧ (∀ r, r ≠ 0 → r ≠ 38 → m'.1 r = m.1 r) ∧ (∀ s, s ≠ 63 → m'.1 0 s = m.1 0 s) ∧ m'.1 0 63 = nI (tnp T) ∧ ∀ j, j < tnp T → m'.1 38 j = nI (t j) := by
  have h7 := hT.1
  intro k
  induction k with
  | zero =>
    intro i hi m f hf h h38
    obtain ⟨f, rfl⟩ : ∃ g, f = g + 1 := ⟨f - 1, by omega⟩
    refine ⟨sI m 0 63 (nI (tnp T)), by rw [gX12_putSides, h.1.1, if_pos (nI_le (by omega) (by omega)), pt_eq], rfl, fun r x y => sI_oth x, fun s hs => by rw [sI_row, upd_ne hs], by rw [sI_row, upd_at], fun j hj => by rw [sI_oth (by omega)]; exact h38 j (by omega)⟩
  | succ k ih =>
    intro i hi m f hf h h38
    obtain ⟨f, rfl⟩ : ∃ g, f = g + 1 := ⟨f - 1, by omega⟩
    rw [gX12_putSides, h.1.1, if_neg (nI_ge (by omega) (by omega)), rd_ok (by omega) (by omega), (h.2.2.2.1 i (by omega)).2, wr_ok (by omega) (by omega), nI_1]
    have kp : keeps [38] m (sI m 38 i (nI (t i))) := keeps.rfl'.sI (by simp)
    obtain ⟨m', a1, a2, a3, a4, a5, a6⟩ := ih (i + 1) (by omega) _ f (by omega) (show MD T d t q (sI m 38 i (nI (t i))) from ⟨h.1.kp kp (by simp <;> omega), by rw [kp.2 35 (by simp)]; exact h.2.1, by rw [kp.2 36 (by simp)]; exact h.2.2.1, by rw [kp.2 34 (by simp)]; exact h.2.2.2.1, by rw [kp.2 34 (by simp)]; exact h.2.2.2.2⟩) (fun j hj => by
      rw [sI_row]
      by_cases z : j = i
      · rw [z, upd_at]
      · rw [upd_ne z]; exact h38 j (by omega))
    exact ⟨m', a1, a2, fun r x y => by rw [a3 r x y, sI_oth y], fun s hs => by rw [a4 s hs, sI_oth (by omega)], a5, a6⟩
theorem put_ok (hT : TOK T) {t : Nat → Nat} (h : MD T d t q m) : ∃ m', fX12_putSides m = some m' ∧ m'.2 = m.2 ∧ (∀ r, r ≠ 0 → r ≠ 38 → m'.1 r = m.1 r) ∧ (∀ s, s ≠ 63 → m'.1 0 s = m.1 0 s) ∧ m'.1 0 63 = nI (tnp T) ∧ ∀ j, j < tnp T → m'.1 38 j = nI (t j) := putG hT (tnp T) 0 (by omega) m 5000 (by have := hT.1; omega) h (fun j hj => by omega)
end
section
variable {T : Tn} {d : Nat} {sd : Nat → Nat} {q : Nat}
theorem bl_big (hT : TOK T) (d : Nat) (t : Nat → Nat) (q : Nat) : ¬ blI T d t q < (-1000000 : Int32) ∧ ¬ blI T d t q = (-1000000 : Int32) := by
  have h7 := hT.1
  have h8 := hT.2.2.1
  have h10 := hT.2.1
  have h1 : mw T d t (tnm T) ≤ tnm T * 99 := fb_sm_bound (fun k hk => by
    have := (hT.2.2.2.2.2.1 k hk).2.2.2.2.2.2
    split <;> omega)
  have h2 : hAll T d t q (tnp T) ≤ tnp T * 792 := fb_sm_bound (fun p hp => by
    have h3 : hOn T d t q p (tnn T) ≤ tnn T * 99 := fb_sm_bound (fun k hk => harm_le _ _ _ _ _ _)
    have : tnn T * 99 ≤ 8 * 99 := Nat.mul_le_mul_right _ h8
    omega)
  have h3 : tnm T * 99 ≤ 10 * 99 := Nat.mul_le_mul_right _ h10
  have h4 : tnp T * 792 ≤ 7 * 792 := Nat.mul_le_mul_right _ h7
  have e : (blI T d t q).toInt = (mw T d t (tnm T) : Int) - hAll T d t q (tnp T) := by unfold blI; exact pk_sub_toInt (by omega) (by omega)
  have e2 : (-1000000 : Int32).toInt = -1000000 := by decide
  rw [fa_lt, fa_eq, e, e2]
  omega
/-- the class's search stands at v, the best so far is b -/
def CC (T : Tn) (d : Nat) (sd : Nat → Nat) (q : Nat) (c : Mem) : Prop := CD T d sd q c ∧ c.1 58 0 = nI (tnp T) ∧ (∀ p, p < tnp T → c.1 59 p = nI (sd p)) ∧ WS T (fun t => blI T d t q) (fun p t => joI T d t q p) c
theorem CC.kp {c c' : Mem} (h : CC T d sd q c) (hk : keeps [62, 63, 64, 73] c c') : CC T d sd q c' := by
  refine ⟨h.1.kp hk (by simp <;> omega), by rw [hk.2 58 (by simp)]; exact h.2.1, by rw [hk.2 59 (by simp)]; exact h.2.2.1, ?_⟩
  unfold WS
  rw [hk.2 60 (by simp), hk.2 61 (by simp)]
  exact h.2.2.2
theorem UP.cong {t t' s : Nat → Nat} {c : Nat} (h : ∀ j, j < c → t' j = t j) {m : Mem} : ∀ j, j ≤ c → UP t s j m → UP t' s j m := by
  intro j hj hU
  refine ⟨?_, ?_⟩
  · rw [hU.1]
    unfold phi
    refine zs_cong (fun p hp => ?_)
    rw [h p (by omega)]
    refine zs_cong (fun o ho => ?_)
    rw [h o (by omega)]
  · rw [hU.2]
    congr 1
    refine fb_sm_cong (fun p hp => ?_)
    rw [h p (by omega)]
theorem trial_ok (hT : TOK T) (hs : ∀ p, p < tnp T → sd p < 3) {c : Mem} (h : CC T d sd q c) {v fr : Nat} (hf : fr ≤ tnp T) (h62 : ∀ j, j < tnp T → c.1 62 j = nI (dg (tnp T) v j)) (hU : ∀ j, j ≤ fr → UP (dg (tnp T) v) sd j c) : ∃ c', fX1_addUpFrom c (nI fr) = some c' ∧ keeps [63, 64] c c' ∧ CC T d sd q c' ∧ (∀ j, j ≤ tnp T → UP (dg (tnp T) v) sd j c') ∧ c'.1 63 (tnp T) = blI T d (dg (tnp T) v) q ∧ c'.1 64 (tnp T) = nI (chg (tnp T) v sd) := by
  have h7 := hT.1
  obtain ⟨c', a1, a2, a3⟩ := addG (t := dg (tnp T) v) (s := sd) h7 (fun p _ => dg_lt _ _ _) hs (tnp T - fr) fr (by omega) c 5000 (by omega) h.2.1 h.2.2.1 h62 hU
  have hc' := h.kp (a2.mono (by simp))
  refine ⟨c', a1, a2, hc', a3, ?_, (a3 (tnp T) (Nat.le_refl _)).2⟩
  rw [(a3 (tnp T) (Nat.le_refl _)).1]
  exact (hc'.2.2.2 (dg (tnp T) v) (fun p _ => dg_lt _ _ _)).1
theorem next_ok (hT : TOK T) {c : Mem} (h : CC T d sd q c) {v : Nat} (hv : v < 3 ^ tnp T) (h62 : ∀ j, j < tnp T → c.1 62 j = nI (dg (tnp T) v j)) (hU : ∀ j, j ≤ tnp T → UP (dg (tnp T) v) sd j c) : ∃ r c', fX1_nextTrial c = some (r, c') ∧ keeps [62] c c' ∧ CC T d sd q c' ∧ ((v + 1 = 3 ^ tnp T ∧ r = -1) ∨ (v + 1 < 3 ^ tnp T ∧ ∃ fr, fr ≤ tnp T ∧ r = nI fr ∧ (∀ j, j < tnp T → c'.1 62 j = nI (dg (tnp T) (v + 1) j)) ∧ ∀ j, j ≤ fr → UP (dg (tnp T) (v + 1)) sd j c')) := by
  have h7 := hT.1
  obtain ⟨r, c', a1, a2, a3⟩ := nextG h7 hv (tnp T) (Nat.le_refl _) c 5000 (by omega) (by rw [Nat.sub_self, Nat.pow_zero, Nat.mod_one]) h62 (fun j x y => by omega)
  have hU' : ∀ j, j ≤ tnp T → UP (dg (tnp T) v) sd j c' := fun j hj => by
    have := hU j hj
    unfold UP at this ⊢
    rw [a2.2 61 (by simp), a2.2 63 (by simp), a2.2 64 (by simp)]
    exact this
  refine ⟨r, c', ?_, a2, h.kp (a2.mono (by simp)), ?_⟩
  · unfold fX1_nextTrial
    rw [h.2.1, nm_eq]
    exact a1
  · rcases a3 with z | ⟨z1, fr, z2, z3, z4, z5⟩
    · exact Or.inl z
    · exact Or.inr ⟨z1, fr, by omega, z3, z4, fun j hj => UP.cong z5 j hj (hU' j (by omega))⟩
def cutEnd (T : Tn) (c c' m m' : Mem) : Prop := keeps [62, 63, 64, 73] c c' ∧ c'.1 63 0 = 0 ∧ c'.1 64 0 = 0 ∧ m'.2 = m.2 ∧ (∀ r, r ∉ [0, 34, 38] → m'.1 r = m.1 r) ∧ (∀ s, s ≠ 63 → m'.1 0 s = m.1 0 s) ∧ m'.1 0 63 = nI (tnp T) ∧ ∀ j, j < tnp T → c'.1 73 j = m'.1 38 j
theorem cutEnd.pre {c c1 c' m m1 m' : Mem} (h : cutEnd T c1 c' m1 m') (hc : keeps [62, 63, 64, 73] c c1) (hm : keeps [34] m m1) : cutEnd T c c' m m' := by
  obtain ⟨a1, a2, a3, a4, a5, a6, a7, a8⟩ := h
  refine ⟨hc.trans a1, a2, a3, by rw [a4, hm.1], fun r hr => ?_, fun s hs => by rw [a6 s hs, hm.2 0 (by simp)], a7, a8⟩
  rw [a5 r hr]
  refine hm.2 r (fun z => hr ?_)
  simp at z ⊢
  omega
theorem cutG (hT : TOK T) (hs : ∀ p, p < tnp T → sd p < 3) (hq : q < 128) : ∀ (k v : Nat), v + k = 3 ^ tnp T → ∀ (c m : Mem) (f g b few : Nat) (most most' x4 : Int32) (t : Nat → Nat), k < f → k < g → CC T d sd q c → MD T d t q m → (∀ p, p < tnp T → m.1 33 p = nI (sd p)) → b < 3 ^ tnp T → few ≤ 7 → c.1 63 0 = 0 → c.1 64 0 = 0 → ((v = 3 ^ tnp T ∧ x4 = -1) ∨ (v < 3 ^ tnp T ∧ ∃ fr, fr ≤ tnp T ∧ x4 = nI fr ∧ (∀ j, j < tnp T → c.1 62 j = nI (dg (tnp T) v j)) ∧ ∀ j, j ≤ fr → UP (dg (tnp T) v) sd j c)) → ((v = 0 ∧ most' = -1000000) ∨ (¬ v = 0 ∧ most' = most ∧ ∀ j, j < tnp T → c.1 73 j = nI (dg (tnp T) b j))) → ∃ r c' m', gX1_bestForAll f most (nI few) x4 (nI v) c = some (r, c') ∧ gX12_cut g 1 (nI (3 ^ tnp T)) (nI b) most' (nI few) (nI v) m = some (r, m') ∧ cutEnd T c c' m m' := by
  have h7 := hT.1
  have hN : 3 ^ tnp T ≤ 2187 := Nat.pow_le_pow_right (n := 3) (by decide) h7
  have hN0 : 0 < 3 ^ tnp T := Nat.pow_pos (by decide)
  intro k
  induction k with
  | zero =>
    intro v hv c m f g b few most most' x4 t hf hg hc hm h33 hb hfew h63 h64 hx hbest
    obtain ⟨f, rfl⟩ : ∃ g, f = g + 1 := ⟨f - 1, by omega⟩
    obtain ⟨g, rfl⟩ : ∃ h, g = h + 1 := ⟨g - 1, by omega⟩
    have ev : v = 3 ^ tnp T := by omega
    obtain ⟨-, rfl⟩ : v = 3 ^ tnp T ∧ x4 = -1 := by
      rcases hx with z | z
      · exact z
      · omega
    obtain ⟨-, rfl, h73⟩ : ¬ v = 0 ∧ most' = most ∧ ∀ j, j < tnp T → c.1 73 j = nI (dg (tnp T) b j) := by
      rcases hbest with z | z
      · omega
      · exact z
    obtain ⟨m1, a1, a2, a3⟩ := hm.lay3 hT hb (fun p hp => ⟨hs p hp, h33 p hp⟩)
    obtain ⟨m', b1, b2, b3, b4, b5, b6⟩ := put_ok hT a3
    refine ⟨most', c, m', ?_, ?_, keeps.rfl', h63, h64, by rw [b2, a2.1], fun r hr => ?_, fun s hs => by rw [b4 s hs, a2.2 0 (by simp)], b5, fun j hj => by rw [h73 j hj, b6 j hj]⟩
    · rw [gX1_bestForAll, if_pos (show (-1 : Int32) = -1 from rfl)]
      split <;> rfl
    · rw [gX12_cut, ev, if_pos (nI_le (by omega) (by omega)), a1, cI_some, b1, cV_some]
    · simp only [List.mem_cons, List.not_mem_nil, or_false, not_or] at hr
      rw [b3 r hr.1 hr.2.2]
      exact a2.2 r (by simp; omega)
  | succ k ih =>
    intro v hv c m f g b few most most' x4 t hf hg hc hm h33 hb hfew h63 h64 hx hbest
    obtain ⟨f, rfl⟩ : ∃ g, f = g + 1 := ⟨f - 1, by omega⟩
    obtain ⟨g, rfl⟩ : ∃ h, g = h + 1 := ⟨g - 1, by omega⟩
    have hvN : v < 3 ^ tnp T := by omega
    obtain ⟨-, fr, hfr, rfl, h62, hU⟩ : v < 3 ^ tnp T ∧ ∃ fr, fr ≤ tnp T ∧ x4 = nI fr ∧ (∀ j, j < tnp T → c.1 62 j = nI (dg (tnp T) v j)) ∧ ∀ j, j ≤ fr → UP (dg (tnp T) v) sd j c := by
      rcases hx with z | z
      · omega
      · exact z
    obtain ⟨c1, a1, a2, a3, a4, a5, a6⟩ := trial_ok hT hs hc hfr h62 hU
    obtain ⟨m1, b1, b2, b3⟩ := hm.lay3 hT hvN (fun p hp => ⟨hs p hp, h33 p hp⟩)
    have hchg : chg (tnp T) v sd ≤ 7 := by
      have : chg (tnp T) v sd ≤ tnp T * 1 := fb_sm_bound (fun p _ => by split <;> omega)
      omega
    have h33' : ∀ p, p < tnp T → m1.1 33 p = nI (sd p) := fun p hp => by rw [b2.2 33 (by simp)]; exact h33 p hp
    have e63 : c1.1 63 0 = 0 := (a4 0 (by omega)).1
    have e64 : c1.1 64 0 = 0 := (a4 0 (by omega)).2
    have h62' : ∀ j, j < tnp T → c1.1 62 j = nI (dg (tnp T) v j) := fun j hj => by rw [a2.2 62 (by simp)]; exact h62 j hj
    have k1 : keeps [62, 63, 64, 73] c c1 := a2.mono (by simp)
    have take : ∃ r c' m', (cpy c1 62 7 73 7 (0 : Int32) (0 : Int32) (nI (tnp T)) fun m12 => (cI (fX1_nextTrial m12) fun r13 m14 => (gX1_bestForAll f (blI T d (dg (tnp T) v) q) (nI (chg (tnp T) v sd)) r13 (nI (v + 1)) m14))) = some (r, c') ∧ gX12_cut g 1 (nI (3 ^ tnp T)) (nI v) (blI T d (dg (tnp T) v) q) (nI (chg (tnp T) v sd)) (nI (v + 1)) m1 = some (r, m') ∧ cutEnd T c c' m m' := by
      rw [show ∀ (K : Mem → Option (Int32 × Mem)), cpy c1 62 7 73 7 (0 : Int32) (0 : Int32) (nI (tnp T)) K = K (sW c1 73 (va_cpy (c1.1 62) (c1.1 73) 0 0 (tnp T))) from fun K => cpy_ok (sp := 0) (dp := 0) (by omega) (by omega) (by omega) (by omega)]
      have step : ∀ c2 : Mem, keeps [73] c1 c2 → (∀ j, j < tnp T → c2.1 73 j = nI (dg (tnp T) v j)) → ∃ r c' m', (cI (fX1_nextTrial c2) fun r13 m14 => (gX1_bestForAll f (blI T d (dg (tnp T) v) q) (nI (chg (tnp T) v sd)) r13 (nI (v + 1)) m14)) = some (r, c') ∧ gX12_cut g 1 (nI (3 ^ tnp T)) (nI v) (blI T d (dg (tnp T) v) q) (nI (chg (tnp T) v sd)) (nI (v + 1)) m1 = some (r, m') ∧ cutEnd T c c' m m' := by
        intro c2 k2 h73
        obtain ⟨r, c3, z1, z2, z3, z4⟩ := next_ok hT (a3.kp (k2.mono (by simp))) hvN (fun j hj => by rw [k2.2 62 (by simp)]; exact h62' j hj) (fun j hj => by
          have := a4 j hj
          unfold UP at this ⊢
          rw [k2.2 61 (by simp), k2.2 63 (by simp), k2.2 64 (by simp)]
          exact this)
        rw [z1, cI_some]
        obtain ⟨r', c', m', w1, w2, w3⟩ := ih (v + 1) (by omega) c3 m1 f g v (chg (tnp T) v sd) (blI T d (dg (tnp T) v) q) (blI T d (dg (tnp T) v) q) r (dg (tnp T) v) (by omega) (by omega) z3 b3 h33' hvN hchg (by rw [z2.2 63 (by simp), k2.2 63 (by simp)]; exact e63) (by rw [z2.2 64 (by simp), k2.2 64 (by simp)]; exact e64) z4 (Or.inr ⟨by omega, rfl, fun j hj => by rw [z2.2 73 (by simp)]; exact h73 j hj⟩)
        exact ⟨r', c', m', w1, w2, w3.pre (k1.trans ((k2.mono (by simp)).trans (z2.mono (by simp)))) b2⟩
      refine step _ (keeps.rfl'.sW (by simp)) (fun j hj => ?_)
      rw [sW_row]
      unfold va_cpy
      rw [if_pos (by omega), Nat.zero_add, Nat.sub_zero]
      exact h62' j hj
    have skip : ¬ v = 0 → most' = most → (∀ j, j < tnp T → c.1 73 j = nI (dg (tnp T) b j)) → ∃ r c' m', (cI (fX1_nextTrial c1) fun r13 m14 => (gX1_bestForAll f most (nI few) r13 (nI (v + 1)) m14)) = some (r, c') ∧ gX12_cut g 1 (nI (3 ^ tnp T)) (nI b) most' (nI few) (nI (v + 1)) m1 = some (r, m') ∧ cutEnd T c c' m m' := by
      intro hv0 hmm h73
      obtain ⟨r, c3, z1, z2, z3, z4⟩ := next_ok hT a3 hvN h62' a4
      rw [z1, cI_some]
      obtain ⟨r', c', m', w1, w2, w3⟩ := ih (v + 1) (by omega) c3 m1 f g b few most most' r (dg (tnp T) v) (by omega) (by omega) z3 b3 h33' hb hfew (by rw [z2.2 63 (by simp)]; exact e63) (by rw [z2.2 64 (by simp)]; exact e64) z4 (Or.inr ⟨by omega, hmm, fun j hj => by rw [z2.2 73 (by simp), a2.2 73 (by simp)]; exact h73 j hj⟩)
      exact ⟨r', c', m', w1, w2, w3.pre (k1.trans (z2.mono (by simp))) b2⟩
    obtain ⟨bl1, bl2⟩ := bl_big hT d (dg (tnp T) v) q
    rw [gX1_bestForAll, gX12_cut, if_neg (show ¬ (2187 : Int32) ≤ nI v from nI_ge (b := 2187) (by omega) (by omega)), if_neg (show ¬ nI fr = (-1 : Int32) from fun z => nI_lt0 (k := fr) (by omega) (by rw [z]; decide)), a1, cV_some, a3.2.1, rd_ok (by omega) (by omega), rd_ok (by omega) (by omega), a5, a6, if_neg (nI_ge hvN (by omega)), b1, cI_some, b3.bliss hT hq, cP_some, nI_1]
    rcases hbest with ⟨rfl, rfl⟩ | ⟨hv0, rfl, h73⟩
    · rw [if_pos (show nI 0 = 0 from rfl), if_neg bl1, if_neg bl2]
      exact take
    · rw [if_neg (show ¬ nI v = 0 from fun z => hv0 ((nI_eq0 (by omega)).mp z))]
      by_cases y1 : most' < blI T d (dg (tnp T) v) q
      · obtain ⟨-, -, y2, -, y3⟩ := fa_of_lt y1
        rw [if_pos y1, if_neg y2, if_neg y3]
        exact take
      · rw [if_neg y1]
        by_cases y2 : blI T d (dg (tnp T) v) q = most'
        · rw [if_pos y2, if_neg (show ¬ blI T d (dg (tnp T) v) q < most' from fun z => (fa_of_lt z).2.2.2.1 y2), if_pos y2]
          by_cases y3 : few ≤ chg (tnp T) v sd
          · rw [if_pos (nI_le y3 (by omega)), if_neg (nI_nlt y3 (by omega))]
            exact skip hv0 rfl h73
          · rw [if_neg (nI_ge (by omega) (by omega)), if_pos (nI_lt (by omega) (by omega))]
            exact take
        · rw [if_neg y2, if_pos (fa_le_ne (fa_of_nlt y1) y2)]
          exact skip hv0 rfl h73
theorem rowsG : ∀ (k i : Nat), i + k = tnp T → ∀ (m : Mem) (f : Nat), tnp T ≤ 7 → TM T m → ∃ f', f + k + 1 = f' + (k + 1) ∧ gX12_cut (f + k + 1) 0 (nI (3 ^ i)) (nI i) 0 0 0 m = gX12_cut f' 1 (nI (3 ^ tnp T)) 0 (-1000000) 0 0 m := by
  intro k
  induction k with
  | zero =>
    intro i hi m f h7 h
    have ei : i = tnp T := by omega
    subst ei
    exact ⟨f, rfl, by rw [gX12_cut, h.1, if_pos (nI_le (by omega) (by omega))]⟩
  | succ k ih =>
    intro i hi m f h7 h
    obtain ⟨f', a0, a1⟩ := ih (i + 1) (by omega) m f h7 h
    refine ⟨f', by omega, ?_⟩
    rw [← a1, show f + (k + 1) + 1 = (f + k + 1) + 1 by omega, gX12_cut, h.1, if_neg (nI_ge (by omega) (by omega)), nm_eq, show (3 : Int32) = nI 3 from rfl, pk_mul, nI_1, Nat.pow_succ]
end
/-- back to the relation behind cut and rest: sides lie there -/
theorem RX.lain {T : Tn} {c c' m m' : Mem} {n : Nat} (h : RX T c m) (hn : n ≤ 7) (hc2 : c'.2 = c.2) (hc : ∀ r, r ∉ [0, tP T + 14, tP T + 17, tP T + 20, 53, 54, 55, 58, 59, 60, 61, 62, 63, 64, 73] → c'.1 r = c.1 r) (hc0 : ∀ s, s ≠ 9 → c'.1 0 s = c.1 0 s) (h63 : c'.1 63 0 = 0) (h64 : c'.1 64 0 = 0) (hD : DC T c') (hm2 : m'.2 = m.2) (hm : ∀ r, r ∉ [0, 10, 13, 34, 35, 36, 38] → m'.1 r = m.1 r) (hm0 : ∀ s, s ≠ 63 → m'.1 0 s = m.1 0 s) (h9 : c'.1 0 9 = nI n) (hm63 : m'.1 0 63 = nI n) (hl : ∀ j, j < n → c'.1 73 j = m'.1 38 j) : Rl c' m' := by
  obtain ⟨h1, h2, h3, h4, h5, h6, h7, h8, h9', h10, h11, h12, h13, h14⟩ := h
  have hP := h2.pl
  have cr : ∀ r, (1 ≤ r ∧ r < 5 ∨ 26 ≤ r ∧ r < 32 ∨ r = 56 ∨ r = 57 ∨ 65 ≤ r ∧ r ≤ 72) → c'.1 r = c.1 r := by
    intro r hr
    refine hc r ?_
    simp only [List.mem_cons, List.not_mem_nil, or_false]
    rcases hP with p | p <;> rw [p] <;> omega
  have mr : ∀ r, (1 ≤ r ∧ r < 10 ∨ 11 ≤ r ∧ r ≤ 12 ∨ 14 ≤ r ∧ r ≤ 33 ∨ r = 37 ∨ 39 ≤ r) → m'.1 r = m.1 r := by
    intro r hr
    refine hm r ?_
    simp only [List.mem_cons, List.not_mem_nil, or_false]
    omega
  have hp : ∀ k, k < 14 → c'.1 (tP T + k) = c.1 (tP T + k) := fun k hk => hc _ (by simp only [List.mem_cons, List.not_mem_nil, or_false]; rcases hP with p | p <;> rw [p] <;> omega)
  refine ⟨T, h1, h2.kp (by rw [hc2]) hp, h3.keep (fun k hk => hm0 k (by omega)) (fun r hr => mr r (by omega)), ?_, h5.keep (fun r hr => mr r (by omega)), hD, h7.keep (fun r hr => cr r (by omega)) (mr 33 (by omega)), h8.keep ⟨cr 56 (by omega), cr 57 (by omega)⟩ ⟨hm0 60 (by omega), hm0 61 (by omega)⟩ ⟨mr 33 (by omega), mr 37 (by omega)⟩, h9'.keep ⟨by rw [cr 65 (by omega)], by rw [cr 65 (by omega)]⟩ (fun r hr => cr r (by omega)) ⟨hm0 69 (by omega), hm0 70 (by omega)⟩ (fun r hr => mr r (by omega)), ⟨n, hn, h9, hm63, hl⟩, h11.keep ⟨hc0 7 (by omega), cr 72 (by omega)⟩ ⟨mr 46 (by omega), mr 47 (by omega)⟩, h12.keep ⟨by rw [cr 1 (by omega)], cr 2 (by omega)⟩ ⟨hm0 1 (by omega), mr 1 (by omega)⟩, h13.keep ⟨by rw [cr 4 (by omega)], by rw [cr 4 (by omega)]⟩ ⟨hm0 2 (by omega), hm0 3 (by omega)⟩, by rw [hc2]; exact h14.1, h63, h64⟩
  refine h4.keep h2 (fun w hw => ⟨hc _ ?_, hc _ ?_⟩) <;> simp only [List.mem_cons, List.not_mem_nil, or_false] <;> rcases hP with p | p <;> rw [p] <;> omega
theorem o_cut : Ob_cut Rl := by
  intro mC mM hR
  obtain ⟨T, hX⟩ : ∃ T, RX T mC mM := id hR
  obtain ⟨sd, q, hr, dt, hQ⟩ := hX.cb
  have hT := hX.1
  have h7 := hT.1
  have hP := hX.2.1.pl
  have hN : 3 ^ tnp T ≤ 2187 := Nat.pow_le_pow_right (n := 3) (by decide) h7
  have hN0 : 0 < 3 ^ tnp T := Nat.pow_pos (by decide)
  have hW := hX.2.2.2.2.2.2.2.2.2.2.2.2.2
  obtain ⟨c1, a1, a2, a3, a4, a5, a6⟩ := c_weigh hT hQ.cb hQ.cd hQ.dlt
  obtain ⟨m1, b1, b2, b3, b4⟩ := hX.load hQ dt
  have e63 : c1.1 63 0 = 0 := by rw [a2.2 63 (by simp <;> omega)]; exact hW.2.1
  have e64 : c1.1 64 0 = 0 := by rw [a2.2 64 (by simp <;> omega)]; exact hW.2.2
  have hCC : CC T dt sd q (fil c1 62 7 0) := by
    have k0 : keeps [62, 63, 64, 73] c1 (fil c1 62 7 0) := keeps.rfl'.sW (by simp)
    exact CC.kp ⟨a3, a4, a5, a6⟩ k0
  obtain ⟨f', y0, y1⟩ := rowsG (T := T) (tnp T) 0 (by omega) m1 (5000 - tnp T - 1) h7 b3.1
  rw [show 5000 - tnp T - 1 + tnp T + 1 = 5000 by omega] at y0 y1
  obtain ⟨r, c2, m2, z1, z2, z3⟩ := cutG hT (fun p hp => (hQ.side p hp).1) hQ.q128 (3 ^ tnp T) 0 (by omega) (fil c1 62 7 0) m1 5000 f' 0 0 0 (-1000000) 0 sd (by omega) (by omega) hCC b3 (fun p hp => by rw [b2.2 33 (by simp)]; exact (hQ.side p hp).2) hN0 (by omega) (by rw [fil, sW_oth (by omega)]; exact e63) (by rw [fil, sW_oth (by omega)]; exact e64) (Or.inr ⟨hN0, 0, by omega, rfl, fun j hj => by
    rw [fil, sW_row, if_pos (by omega)]
    unfold dg D3
    rw [Nat.zero_div]
    rfl, fun j hj => by
    have : j = 0 := by omega
    subst this
    exact ⟨by rw [fil, sW_oth (by omega)]; exact e63, by rw [fil, sW_oth (by omega)]; exact e64⟩⟩) (Or.inl ⟨rfl, rfl⟩)
  obtain ⟨p1, p2, p3, p4, p5, p6, p7, p8⟩ := z3
  have k1 : keeps [62, 63, 64, 73] c1 c2 := (show keeps [62, 63, 64, 73] c1 (fil c1 62 7 0) from keeps.rfl'.sW (by simp)).trans p1
  have hc2 : CD T dt sd q c2 := a3.kp k1 (by simp <;> omega)
  unfold fX11_cut fX12_cut fX1_bestForAll
  rw [a1, cV_some, pt_eq, show gX1_bestForAll 5000 0 0 0 0 (fil c1 62 7 0) = _ from z1, cI_some, gPl_T hc2.1.1, hc2.1.1.2.1, hc2.1.1.2.2.2.1, pt_eq, (rd_now _ _).2.2, hQ.md, b1, cV_some, show gX12_cut 5000 0 1 0 0 0 0 m1 = _ from y1, show gX12_cut f' 1 (nI (3 ^ tnp T)) 0 (-1000000) 0 0 m1 = _ from z2]
  refine ⟨_, _, _, rfl, rfl, hX.lain (n := tnp T) h7 ?_ ?_ ?_ ?_ ?_ ?_ ?_ ?_ ?_ ?_ p7 ?_⟩
  · rw [sI_2, k1.1, a2.1]
  · intro r hr
    simp only [List.mem_cons, List.not_mem_nil, or_false, not_or] at hr
    rw [sI_oth (by omega), k1.2 r (by simp; omega), a2.2 r (by simp; omega)]
  · intro s hs
    rw [sI_row, upd_ne hs, k1.2 0 (by simp), a2.2 0 (by simp <;> omega)]
  · rw [sI_oth (by omega)]; exact p2
  · rw [sI_oth (by omega)]; exact p3
  · exact hc2.1.2.2.1.keep (fun r hr => sI_oth (by omega))
  · rw [p4, b2.1]
  · intro r hr
    simp only [List.mem_cons, List.not_mem_nil, or_false, not_or] at hr
    rw [p5 r (by simp; omega), b2.2 r (by simp; omega)]
  · intro s hs
    rw [p6 s hs, b2.2 0 (by simp)]
  · rw [sI_row, upd_at]
  · intro j hj
    rw [sI_oth (by omega)]
    exact p8 j hj
