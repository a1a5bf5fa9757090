/-! ===== an hour passes ===== -/
theorem tb_dm (x i : Nat) : x.testBit i = decide (x / 2 ^ i % 2 = 1) := Nat.testBit_eq_decide_div_mod_eq
theorem orB_bit (f : Nat → Nat) : ∀ n p, (orB f n).testBit p = (decide (p < n) && decide (¬ f p = 0))
  | 0, p => by simp [orB]
  | n + 1, p => by
    rw [orB, Nat.testBit_or, orB_bit f n p]
    by_cases e : p = n
    · subst e
      by_cases c : f p = 0
      · simp [c]
      · simp [c, Nat.testBit_two_pow_self]
    · have h2 : (if f n = 0 then 0 else 2 ^ n).testBit p = false := by
        split
        · exact Nat.zero_testBit p
        · exact Nat.testBit_two_pow_of_ne (fun z => e z.symm)
      rw [h2, Bool.or_false]
      congr 1
      simp only [decide_eq_decide]
      omega
theorem orB_dm (f : Nat → Nat) {n p : Nat} (hp : p < n) : (orB f n / 2 ^ p % 2 = 1 ↔ ¬ f p = 0) := by
  have h := orB_bit f n p
  rw [tb_dm, decide_eq_true hp, Bool.true_and] at h
  exact decide_eq_decide.mp h
theorem two_aw : ∀ a, a < 7 → ∀ b, b < 7 → ∀ w, w < 128 → (nI (2 ^ a ||| 2 ^ b) &&& (nI w ^^^ (-1 : Int32)) = 0 ↔ w / 2 ^ a % 2 = 1 ∧ w / 2 ^ b % 2 = 1) := by decide +kernel
/-- are both of a meet awake? -/
def bw (T : Tn) (d : Nat) (sd : Nat → Nat) (hh k : Nat) : Nat := if awN T d (sd (tA T k)) hh = 0 then 0 else if awN T d (sd (tB T k)) hh = 0 then 0 else 1
theorem bw_c {T : Tn} (hT : TOK T) (d : Nat) (sd : Nat → Nat) (hh : Nat) {k : Nat} (hk : k < tnm T) : (nI (both T k) &&& (nI (orB (fun p => awN T d (sd p) hh) (tnp T)) ^^^ (-1 : Int32)) = 0 ↔ bw T d sd hh k = 1) := by
  have h7 := hT.1
  obtain ⟨n1, n2, _⟩ := hT.2.2.2.2.2.1 k hk
  have hlt : orB (fun p => awN T d (sd p) hh) (tnp T) < 128 := Nat.lt_of_lt_of_le (orB_lt _ _) (pow_np h7)
  unfold both bw
  rw [two_aw _ (by omega) _ (by omega) _ hlt, orB_dm _ n1, orB_dm _ n2]
  by_cases c1 : awN T d (sd (tA T k)) hh = 0
  · simp [c1]
  · by_cases c2 : awN T d (sd (tB T k)) hh = 0
    · simp [c1, c2]
    · simp [c1, c2]
theorem bw_lt (T : Tn) (d : Nat) (sd : Nat → Nat) (hh k : Nat) : bw T d sd hh k < 2 := by
  unfold bw
  repeat' split
  all_goals omega
section
variable {T : Tn} {d : Nat} {sd : Nat → Nat} {q : Nat} {m : Mem}
theorem passA (hT : TOK T) {hh : Nat} (h24 : hh < 24) (r : Nat → Int32) : ∀ (k i : Nat), i + k = tnp T → ∀ (m : Mem) (f : Nat), k < f → CD T d sd q m → m.1 27 5 = nI hh → m.1 29 = cpN (fun j => r j + nI (hAt T d sd q j hh (tnn T))) r i → ∃ m' f', f = f' + (k + 1) ∧ gX9_passHour f 0 (nI (fb_sm (fun p => hAt T d sd q p hh (tnn T)) i)) (nI i) 0 m = gX9_passHour f' 1 (nI (fb_sm (fun p => hAt T d sd q p hh (tnn T)) (tnp T))) (nI (orB (fun p => awN T d (sd p) hh) (tnp T)) ^^^ (-1 : Int32)) 0 m' ∧ keeps [tP T + 20, 29] m m' ∧ CD T d sd q m' ∧ m'.1 29 = cpN (fun j => r j + nI (hAt T d sd q j hh (tnn T))) r (tnp T) := by
  have h7 := hT.1
  intro k
  induction k with
  | zero =>
    intro i hi m f hf h h5 hr
    obtain ⟨f, rfl⟩ : ∃ g, f = g + 1 := ⟨f - 1, by omega⟩
    have ei : i = tnp T := by omega
    subst ei
    exact ⟨m, f, rfl, by rw [gX9_passHour, gPl_T h.1.1, h.1.1.2.1, h.1.1.2.2.2.1, if_pos (nI_le (by omega) (by omega)), h5, h.who hT h24, cP_some, nm_eq], keeps.rfl', h, hr⟩
  | succ k ih =>
    intro i hi m f hf h h5 hr
    obtain ⟨f, rfl⟩ : ∃ g, f = g + 1 := ⟨f - 1, by omega⟩
    have hP := h.1.1.pl
    obtain ⟨m1, a1, a2, a3⟩ := h.harmAt hT (show i < tnp T by omega) h24
    have e29 : m1.1 29 = m.1 29 := a2.2 29 (by simp <;> omega)
    rw [gX9_passHour, gPl_T h.1.1, h.1.1.2.1, h.1.1.2.2.2.1, if_neg (nI_ge (by omega) (by omega)), h5, a1, cI_some, rd_ok (by omega) (by omega), e29, hr, cpN_out (Nat.le_refl _), wr_ok (by omega) (by omega), nm_eq, nI_add, nI_1]
    have kp : keeps [tP T + 20, 29] m (sI m1 29 i (r i + nI (hAt T d sd q i hh (tnn T)))) := (a2.mono (by simp)).sI (by simp)
    obtain ⟨m', f', q0, q1, q2, q3, q4⟩ := ih (i + 1) (by omega) (sI m1 29 i (r i + nI (hAt T d sd q i hh (tnn T)))) f (by omega) (h.kp kp (by simp <;> omega)) (by rw [kp.2 27 (by simp <;> omega)]; exact h5) (by rw [sI_row, e29, hr, cpN_s (fun j => r j + nI (hAt T d sd q j hh (tnn T)))])
    exact ⟨m', f', by omega, q1, kp.trans q2, q3, q4⟩
theorem passB (hT : TOK T) {hh : Nat} (x w : Int32) (hw : w = nI (orB (fun p => awN T d (sd p) hh) (tnp T)) ^^^ (-1 : Int32)) (r : Nat → Int32) : ∀ (k i : Nat), i + k = tnm T → ∀ (m : Mem) (f : Nat), k < f → TC T m → m.1 30 = cpN (fun j => r j + nI (bw T d sd hh j)) r i → ∃ m', gX9_passHour f 1 x w (nI i) m = (pt (sI m' 27 5 ((m'.1 27 5) + (1 : Int32))) fun m3 => (if (m3.1 27 5) = (24 : Int32) then (cV (fX9_endDay m3) fun m6 => (some (x, m6))) else (some (x, m3)))) ∧ keeps [30] m m' ∧ m'.1 30 = cpN (fun j => r j + nI (bw T d sd hh j)) r (tnm T) := by
  have h10 := hT.2.1
  intro k
  induction k with
  | zero =>
    intro i hi m f hf h hr
    obtain ⟨f, rfl⟩ : ∃ g, f = g + 1 := ⟨f - 1, by omega⟩
    have ei : i = tnm T := by omega
    subst ei
    exact ⟨m, by rw [gX9_passHour, gPl_T h, h.2.1, h.2.2.2.2.1, if_pos (nI_le (by omega) (by omega))], keeps.rfl', hr⟩
  | succ k ih =>
    intro i hi m f hf h hr
    obtain ⟨f, rfl⟩ : ∃ g, f = g + 1 := ⟨f - 1, by omega⟩
    have hP := h.pl
    have hb := bw_c hT d sd hh (show i < tnm T by omega)
    rw [← hw] at hb
    have hlt := bw_lt T d sd hh i
    have next : ∀ v, v = r i + nI (bw T d sd hh i) → ∃ m', gX9_passHour f 1 x w (nI (i + 1)) (sI m 30 i v) = (pt (sI m' 27 5 ((m'.1 27 5) + (1 : Int32))) fun m3 => (if (m3.1 27 5) = (24 : Int32) then (cV (fX9_endDay m3) fun m6 => (some (x, m6))) else (some (x, m3)))) ∧ keeps [30] m m' ∧ m'.1 30 = cpN (fun j => r j + nI (bw T d sd hh j)) r (tnm T) := by
      intro v hv
      subst hv
      have kp : keeps [30] m (sI m 30 i (r i + nI (bw T d sd hh i))) := keeps.rfl'.sI (by simp)
      obtain ⟨m', q1, q2, q3⟩ := ih (i + 1) (by omega) _ f (by omega) (h.kp (by rw [kp.1]) (fun k hk => kp.2 _ (by simp <;> omega))) (by rw [sI_row, hr, cpN_s (fun j => r j + nI (bw T d sd hh j))])
      exact ⟨m', q1, kp.trans q2, q3⟩
    rw [gX9_passHour, gPl_T h, h.2.1, h.2.2.2.2.1, if_neg (nI_ge (by omega) (by omega)), rd_ok (by omega) (by omega), hr, cpN_out (Nat.le_refl _), h.both hT (by omega), cP_some, wr_ok (by omega) (by omega), wr_ok (by omega) (by omega), nI_1]
    by_cases c : bw T d sd hh i = 1
    · rw [if_pos (hb.mpr c)]
      exact next _ (by rw [c]; rfl)
    · rw [if_neg (fun z => c (hb.mp z))]
      exact next _ (by rw [show bw T d sd hh i = 0 by omega]; rfl)
def metI (T : Tn) (f30 : Nat → Int32) (k : Nat) : Int32 := if f30 k < nI (tH T k) then 0 else 1
theorem metI_cong {T : Tn} {f g : Nat → Int32} {k : Nat} (h : f k = g k) : metI T f k = metI T g k := by unfold metI; rw [h]
theorem c_endG (hT : TOK T) (f30 f31 : Nat → Int32) : ∀ (k i : Nat), i + k = tnm T → ∀ (m : Mem) (f : Nat), k < f → TC T m → m.1 30 = cpN (fun _ => 0) f30 i → m.1 31 = cpN (fun j => f31 j + metI T f30 j) f31 i → ∃ m', gX9_endDay f (nI i) m = some m' ∧ keeps [30, 31] m m' ∧ m'.1 30 = cpN (fun _ => 0) f30 (tnm T) ∧ m'.1 31 = cpN (fun j => f31 j + metI T f30 j) f31 (tnm T) := by
  have h10 := hT.2.1
  intro k
  induction k with
  | zero =>
    intro i hi m f hf h hr hr2
    obtain ⟨f, rfl⟩ : ∃ g, f = g + 1 := ⟨f - 1, by omega⟩
    have ei : i = tnm T := by omega
    subst ei
    exact ⟨m, by rw [gX9_endDay, gPl_T h, h.2.1, h.2.2.2.2.1, if_pos (nI_le (by omega) (by omega))], keeps.rfl', hr, hr2⟩
  | succ k ih =>
    intro i hi m f hf h hr hr2
    obtain ⟨f, rfl⟩ : ∃ g, f = g + 1 := ⟨f - 1, by omega⟩
    have hP := h.pl
    obtain ⟨_, _, e3, _⟩ := h.2.2.2.2.2.2.2.2.1 i (by omega)
    have next : ∀ v, v = f31 i + metI T f30 i → ∃ m', (wr m 31 10 (nI i) v fun m7 => (wr m7 30 10 (nI i) (0 : Int32) fun m8 => (gX9_endDay f (nI (i + 1)) m8))) = some m' ∧ keeps [30, 31] m m' ∧ m'.1 30 = cpN (fun _ => 0) f30 (tnm T) ∧ m'.1 31 = cpN (fun j => f31 j + metI T f30 j) f31 (tnm T) := by
      intro v hv
      subst hv
      have kp : keeps [30, 31] m (sI (sI m 31 i (f31 i + metI T f30 i)) 30 i 0) := (keeps.rfl'.sI (by simp)).sI (by simp)
      obtain ⟨m', q1, q2, q3⟩ := ih (i + 1) (by omega) _ f (by omega) (h.kp (by rw [kp.1]) (fun k hk => kp.2 _ (by simp <;> omega))) (by rw [sI_row, sI_oth (by omega), hr]; exact cpN_s (fun _ => 0) f30 i) (by rw [sI_oth (by omega), sI_row, hr2]; exact cpN_s (fun j => f31 j + metI T f30 j) f31 i)
      rw [wr_ok (by omega) (by omega), wr_ok (by omega) (by omega)]
      exact ⟨m', q1, kp.trans q2, q3⟩
    rw [gX9_endDay, gPl_T h, h.2.1, h.2.2.2.2.1, if_neg (nI_ge (by omega) (by omega)), rd_ok (by omega) (by omega), hr2, cpN_out (Nat.le_refl _), rd_ok (by omega) (by omega), hr, cpN_out (Nat.le_refl _), rd_ok (by omega) (by omega), e3, nI_1]
    by_cases c : f30 i < nI (tH T i)
    · rw [if_pos c]
      exact next _ (by rw [metI, if_pos c])
    · rw [if_neg c]
      exact next _ (by rw [metI, if_neg c])
theorem MD.air2 (hT : TOK T) {m' : Mem} (h : MD T d sd q m) (hk : keeps [34] m m') (h34 : ∀ i, (i < 7 ∨ i = 34) → m'.1 34 i = m.1 34 i) : MD T d sd q m' := by
  have h7 := hT.1
  refine ⟨h.1.kp hk (by simp <;> omega), ?_, ?_, fun p hp => ⟨(h.2.2.2.1 p hp).1, ?_⟩, ?_⟩
  · rw [hk.2 35 (by simp)]; exact h.2.1
  · rw [hk.2 36 (by simp)]; exact h.2.2.1
  · rw [h34 p (by omega)]; exact (h.2.2.2.1 p hp).2
  · rw [h34 34 (by omega)]; exact h.2.2.2.2
theorem m_hourA (hT : TOK T) (hq : q < 128) {hh : Nat} (h24 : hh < 24) (r : Nat → Int32) : ∀ (k i : Nat), i + k = tnp T → ∀ (m : Mem) (f : Nat), k < f → MD T d sd q m → m.1 34 = fb_put r (fun j => r (7 + j) + nI (hAt T d sd q j hh (tnn T))) 7 i → ∃ m' f', f = f' + (k + 1) ∧ gX12_hour f 0 (nI hh) (nI (fb_sm (fun p => hAt T d sd q p hh (tnn T)) i)) (nI i) m = gX12_hour f' 1 (nI hh) (nI (fb_sm (fun p => hAt T d sd q p hh (tnn T)) (tnp T))) 0 m' ∧ keeps [34] m m' ∧ MD T d sd q m' ∧ m'.1 34 = fb_put r (fun j => r (7 + j) + nI (hAt T d sd q j hh (tnn T))) 7 (tnp T) := by
  have h7 := hT.1
  intro k
  induction k with
  | zero =>
    intro i hi m f hf h hr
    obtain ⟨f, rfl⟩ : ∃ g, f = g + 1 := ⟨f - 1, by omega⟩
    have ei : i = tnp T := by omega
    subst ei
    exact ⟨m, f, rfl, by rw [gX12_hour, h.1.1, if_pos (nI_le (by omega) (by omega))], keeps.rfl', h, hr⟩
  | succ k ih =>
    intro i hi m f hf h hr
    obtain ⟨f, rfl⟩ : ∃ g, f = g + 1 := ⟨f - 1, by omega⟩
    have e7 : (7 : Int32) + nI i = nI (7 + i) := nI_add 7 i
    have kp : ∀ v, keeps [34] m (sI m 34 (7 + i) v) := fun v => keeps.rfl'.sI (by simp)
    have hm' : ∀ v, MD T d sd q (sI m 34 (7 + i) v) := fun v => h.air2 hT (kp v) (fun j hj => by rw [sI_row, upd_ne (by omega)])
    rw [gX12_hour, h.1.1, if_neg (nI_ge (by omega) (by omega)), nm_eq, e7, rd_ok (by omega) (by omega), h.harmAt hT hq (by omega) h24, cP_some, wr_ok (by omega) (by omega), (hm' _).harmAt hT hq (by omega) h24, cP_some, nm_eq, nI_add, nI_1]
    have e34 : m.1 34 (7 + i) = r (7 + i) := by rw [hr, fb_put_out (by omega)]
    obtain ⟨m', f', q0, q1, q2, q3, q4⟩ := ih (i + 1) (by omega) (sI m 34 (7 + i) (m.1 34 (7 + i) + nI (hAt T d sd q i hh (tnn T)))) f (by omega) (hm' _) (by rw [sI_row, e34, hr]; exact fb_put_succ r (fun j => r (7 + j) + nI (hAt T d sd q j hh (tnn T))) 7 i)
    exact ⟨m', f', by omega, q1, (kp _).trans q2, q3, q4⟩
theorem m_hourB (hT : TOK T) {hh : Nat} (h24 : hh < 24) (x : Int32) (r : Nat → Int32) : ∀ (k i : Nat), i + k = tnm T → ∀ (m : Mem) (f : Nat), k < f → MD T d sd q m → m.1 34 = fb_put r (fun j => r (14 + j) + nI (bw T d sd hh j)) 14 i → ∃ m' f', f = f' + (k + 1) ∧ gX12_hour f 1 (nI hh) x (nI i) m = (rd (m'.1 34) 37 (35 : Int32) fun v2 => (wr m' 34 37 (35 : Int32) (v2 + (1 : Int32)) fun m3 => (rd (m3.1 34) 37 (35 : Int32) fun v4 => (if v4 = (24 : Int32) then (cV (fX12_goDate m3) fun m7 => (gX12_hour f' 2 0 x (0 : Int32) m7)) else (gX12_hour f' 2 0 x (0 : Int32) m3))))) ∧ keeps [34] m m' ∧ MD T d sd q m' ∧ m'.1 34 = fb_put r (fun j => r (14 + j) + nI (bw T d sd hh j)) 14 (tnm T) := by
  have h10 := hT.2.1
  intro k
  induction k with
  | zero =>
    intro i hi m f hf h hr
    obtain ⟨f, rfl⟩ : ∃ g, f = g + 1 := ⟨f - 1, by omega⟩
    have ei : i = tnm T := by omega
    subst ei
    exact ⟨m, f, rfl, by rw [gX12_hour, h.1.2.1, if_pos (nI_le (by omega) (by omega))], keeps.rfl', h, hr⟩
  | succ k ih =>
    intro i hi m f hf h hr
    obtain ⟨f, rfl⟩ : ∃ g, f = g + 1 := ⟨f - 1, by omega⟩
    have e7 : (14 : Int32) + nI i = nI (14 + i) := nI_add 14 i
    have kp : ∀ v, keeps [34] m (sI m 34 (14 + i) v) := fun v => keeps.rfl'.sI (by simp)
    have hm' : ∀ v, MD T d sd q (sI m 34 (14 + i) v) := fun v => h.air2 hT (kp v) (fun j hj => by rw [sI_row, upd_ne (by omega)])
    obtain ⟨e1, e2, _⟩ := h.1.2.2.2.2.2.1 i (by omega)
    obtain ⟨n1, n2, _⟩ := hT.2.2.2.2.2.1 i (by omega)
    have e34 : m.1 34 (14 + i) = r (14 + i) := by rw [hr, fb_put_out (by omega)]
    have next : ∀ v, v = r (14 + i) + nI (bw T d sd hh i) → ∃ m' f', f + 1 = f' + (k + 1 + 1) ∧ gX12_hour f 1 (nI hh) x (nI (i + 1)) (sI m 34 (14 + i) v) = (rd (m'.1 34) 37 (35 : Int32) fun v2 => (wr m' 34 37 (35 : Int32) (v2 + (1 : Int32)) fun m3 => (rd (m3.1 34) 37 (35 : Int32) fun v4 => (if v4 = (24 : Int32) then (cV (fX12_goDate m3) fun m7 => (gX12_hour f' 2 0 x (0 : Int32) m7)) else (gX12_hour f' 2 0 x (0 : Int32) m3))))) ∧ keeps [34] m m' ∧ MD T d sd q m' ∧ m'.1 34 = fb_put r (fun j => r (14 + j) + nI (bw T d sd hh j)) 14 (tnm T) := by
      intro v hv
      subst hv
      obtain ⟨m', f', q0, q1, q2, q3, q4⟩ := ih (i + 1) (by omega) _ f (by omega) (hm' (r (14 + i) + nI (bw T d sd hh i))) (by rw [sI_row, hr]; exact fb_put_succ r (fun j => r (14 + j) + nI (bw T d sd hh j)) 14 i)
      exact ⟨m', f', by omega, q1, (kp _).trans q2, q3, q4⟩
    rw [gX12_hour, h.1.2.1, if_neg (nI_ge (by omega) (by omega)), nm_eq, e7, rd_ok (by omega) (by omega), e34, rd_ok (by omega) (by omega), e1, h.awake hT n1 h24, cP_some, rd_ok (by omega) (by omega), e2, h.awake hT n2 h24, cP_some, show fX12_truth 0 = some 0 from rfl, show fX12_truth 1 = some 1 from rfl, cP_some, cP_some, wr_ok (by omega) (by omega), wr_ok (by omega) (by omega), nI_1]
    by_cases c1 : awN T d (sd (tA T i)) hh = 0
    · rw [if_pos (by rw [c1]; rfl)]
      exact next _ (by rw [bw, if_pos c1]; rfl)
    · rw [if_neg (fun e => c1 ((nI_b0 (awN_lt _ _ _ _)).mp e))]
      by_cases c2 : awN T d (sd (tB T i)) hh = 0
      · rw [if_pos (by rw [c2]; rfl)]
        exact next _ (by rw [bw, if_neg c1, if_pos c2]; rfl)
      · rw [if_neg (fun e => c2 ((nI_b0 (awN_lt _ _ _ _)).mp e))]
        exact next _ (by rw [bw, if_neg c1, if_neg c2]; rfl)
theorem m_goG (hT : TOK T) (r : Nat → Int32) : ∀ (k i : Nat), i + k = tnm T → ∀ (m : Mem) (f : Nat), k < f → TM T m → m.1 34 = fb_put (fb_put r (fun j => r (24 + j) + metI T (fun k => r (14 + k)) j) 24 i) (fun _ => 0) 14 i → ∃ m', gX12_goDate f (nI i) m = some m' ∧ keeps [34] m m' ∧ m'.1 34 = fb_put (fb_put r (fun j => r (24 + j) + metI T (fun k => r (14 + k)) j) 24 (tnm T)) (fun _ => 0) 14 (tnm T) := by
  have h10 := hT.2.1
  intro k
  induction k with
  | zero =>
    intro i hi m f hf h hr
    obtain ⟨f, rfl⟩ : ∃ g, f = g + 1 := ⟨f - 1, by omega⟩
    have ei : i = tnm T := by omega
    subst ei
    exact ⟨m, by rw [gX12_goDate, h.2.1, if_pos (nI_le (by omega) (by omega))], keeps.rfl', hr⟩
  | succ k ih =>
    intro i hi m f hf h hr
    obtain ⟨f, rfl⟩ : ∃ g, f = g + 1 := ⟨f - 1, by omega⟩
    have e24 : (24 : Int32) + nI i = nI (24 + i) := nI_add 24 i
    have e14 : (14 : Int32) + nI i = nI (14 + i) := nI_add 14 i
    obtain ⟨_, _, e3, _⟩ := h.2.2.2.2.2.1 i (by omega)
    have v24 : m.1 34 (24 + i) = r (24 + i) := by rw [hr, fb_put_out (by omega), fb_put_out (by omega)]
    have v14 : m.1 34 (14 + i) = r (14 + i) := by rw [hr, fb_put_out (by omega), fb_put_out (by omega)]
    have next : ∀ v, v = r (24 + i) + metI T (fun k => r (14 + k)) i → ∃ m', (wr m 34 37 (nI (24 + i)) v fun m9 => (wr m9 34 37 (nI (14 + i)) (0 : Int32) fun m10 => (gX12_goDate f (nI (i + 1)) m10))) = some m' ∧ keeps [34] m m' ∧ m'.1 34 = fb_put (fb_put r (fun j => r (24 + j) + metI T (fun k => r (14 + k)) j) 24 (tnm T)) (fun _ => 0) 14 (tnm T) := by
      intro v hv
      subst hv
      have kp : keeps [34] m (sI (sI m 34 (24 + i) (r (24 + i) + metI T (fun k => r (14 + k)) i)) 34 (14 + i) 0) := (keeps.rfl'.sI (by simp)).sI (by simp)
      have hrow : (sI (sI m 34 (24 + i) (r (24 + i) + metI T (fun k => r (14 + k)) i)) 34 (14 + i) 0).1 34 = fb_put (fb_put r (fun j => r (24 + j) + metI T (fun k => r (14 + k)) j) 24 (i + 1)) (fun _ => 0) 14 (i + 1) := by
        rw [sI_row, sI_row, hr]
        have s1 := fb_put_succ r (fun j => r (24 + j) + metI T (fun k => r (14 + k)) j) 24 i
        have s2 := fb_put_succ (fb_put r (fun j => r (24 + j) + metI T (fun k => r (14 + k)) j) 24 (i + 1)) (fun _ => 0) 14 i
        rw [← s2]
        congr 1
        rw [← s1]
        funext j
        unfold fb_put upd
        by_cases x1 : j = 24 + i
        · subst x1
          simp
        · simp [x1]
      obtain ⟨m', q1, q2, q3⟩ := ih (i + 1) (by omega) _ f (by omega) (h.kp kp (by simp <;> omega)) hrow
      rw [wr_ok (by omega) (by omega), wr_ok (by omega) (by omega)]
      exact ⟨m', q1, kp.trans q2, q3⟩
    rw [gX12_goDate, h.2.1, if_neg (nI_ge (by omega) (by omega)), nm_eq, e24, e14, rd_ok (by omega) (by omega), v24, rd_ok (by omega) (by omega), v14, rd_ok (by omega) (by omega), e3, show fX12_truth 0 = some 0 from rfl, show fX12_truth 1 = some 1 from rfl, cP_some, cP_some, nI_1]
    by_cases c : r (14 + i) < nI (tH T i)
    · rw [if_pos c]
      exact next _ (by rw [metI, if_pos c])
    · rw [if_neg c]
      exact next _ (by rw [metI, if_neg c])
theorem m_hourC (x : Int32) {m : Mem} : ∀ (k i : Nat), i + k = 37 → ∀ f, k < f → gX12_hour f 2 0 x (nI i) (sW m 33 (cpN (m.1 34) (m.1 33) i)) = some (x, sW m 33 (cpN (m.1 34) (m.1 33) 37)) := by
  intro k
  induction k with
  | zero =>
    intro i hi f hf
    obtain ⟨f, rfl⟩ : ∃ g, f = g + 1 := ⟨f - 1, by omega⟩
    have : i = 37 := by omega
    subst this
    rw [gX12_hour, if_pos (show (37 : Int32) ≤ nI 37 from nI_le (a := 37) (by omega) (by omega))]
  | succ k ih =>
    intro i hi f hf
    obtain ⟨f, rfl⟩ : ∃ g, f = g + 1 := ⟨f - 1, by omega⟩
    rw [gX12_hour, if_neg (show ¬ (37 : Int32) ≤ nI i from nI_ge (b := 37) (by omega) (by omega)), rd_ok (by omega) (by omega), sW_oth (by omega), wr_ok (by omega) (by omega), sW_sI, cpN_s, nI_1]
    exact ih (i + 1) (by omega) f (by omega)
end
/-- the state an hour later -/
def nst (T : Tn) (d : Nat) (sd : Nat → Nat) (q hh : Nat) (r : Nat → Int32) (i : Nat) : Int32 :=
  if i < 7 then r i
  else if i < 14 then (if i - 7 < tnp T then r i + nI (hAt T d sd q (i - 7) hh (tnn T)) else r i)
  else if i < 24 then (if i - 14 < tnm T then (if hh + 1 = 24 then 0 else r i + nI (bw T d sd hh (i - 14))) else r i)
  else if i < 34 then (if i - 24 < tnm T ∧ hh + 1 = 24 then r i + metI T (fun k => r (14 + k) + nI (bw T d sd hh k)) (i - 24) else r i)
  else if i = 34 then r 34
  else if i = 35 then (if hh + 1 = 24 then 0 else nI (hh + 1))
  else (if hh + 1 = 24 then nI ((d + 1) % 365) else r 36)
theorem nst_eq {T : Tn} {d : Nat} {sd : Nat → Nat} {q hh : Nat} {r r' : Nat → Int32} (h10 : tnm T ≤ 10) (h : stEq (tnp T) r r') : stEq (tnp T) (nst T d sd q hh r) (nst T d sd q hh r') := by
  intro i hi hc
  unfold nst
  have e : 14 ≤ i → i < 34 → ∀ k, k < 10 → r (14 + k) = r' (14 + k) := fun _ _ k hk => h _ (by omega) (by omega)
  have em : ∀ k, k < 10 → metI T (fun k => r (14 + k) + nI (bw T d sd hh k)) k = metI T (fun k => r' (14 + k) + nI (bw T d sd hh k)) k := fun k hk => metI_cong (by
    show r (14 + k) + _ = r' (14 + k) + _
    rw [h (14 + k) (by omega) (by omega)])
  by_cases c1 : i < 7
  · rw [if_pos c1, if_pos c1]; exact h i hi hc
  rw [if_neg c1, if_neg c1]
  by_cases c2 : i < 14
  · rw [if_pos c2, if_pos c2, h i hi hc]
  rw [if_neg c2, if_neg c2]
  by_cases c3 : i < 24
  · rw [if_pos c3, if_pos c3, h i hi hc]
  rw [if_neg c3, if_neg c3]
  by_cases c4 : i < 34
  · rw [if_pos c4, if_pos c4, h i hi hc, em (i - 24) (by omega)]
  rw [if_neg c4, if_neg c4, h 34 (by omega) (by omega), h 36 (by omega) (by omega)]
theorem nst_ok {T : Tn} {d : Nat} {sd : Nat → Nat} {q hh : Nat} {r : Nat → Int32} (h7 : tnp T ≤ 7) (h24 : hh < 24) (hd : d < 365) (h36 : r 36 = nI d) (h : stOK (tnp T) r) : stOK (tnp T) (nst T d sd q hh r) := by
  obtain ⟨a1, a2, a3, a4⟩ := h
  refine ⟨fun p hp => ?_, ?_, ?_, ?_⟩
  · unfold nst; rw [if_pos (by omega)]; exact a1 p hp
  · unfold nst; rw [if_neg (by omega), if_neg (by omega), if_neg (by omega), if_neg (by omega), if_pos rfl]; exact a2
  · unfold nst; rw [if_neg (by omega), if_neg (by omega), if_neg (by omega), if_neg (by omega), if_neg (by omega), if_pos rfl]
    split
    · exact ⟨0, by omega, rfl⟩
    · exact ⟨hh + 1, by omega, rfl⟩
  · unfold nst; rw [if_neg (by omega), if_neg (by omega), if_neg (by omega), if_neg (by omega), if_neg (by omega), if_neg (by omega)]
    split
    · exact ⟨(d + 1) % 365, Nat.mod_lt _ (by decide), rfl⟩
    · exact ⟨d, hd, h36⟩
theorem i_365 (x : Nat) (h : x < 365) : (nI x + (1 : Int32)) - (nI x + (1 : Int32)) / (365 : Int32) * (365 : Int32) = nI ((x + 1) % 365) := by
  rw [nI_1]
  exact pk_rem (d := 365) (by omega) (by omega) (by omega)
theorem c_hour {T : Tn} {c : Mem} {sd : Nat → Nat} {q hh dt : Nat} (hT : TOK T) (h : CB T sd q c) (h24 : hh < 24) (h5 : c.1 27 5 = nI hh) (hdt : dt < 365) (h6 : c.1 27 6 = nI dt) : ∃ c', fX9_passHour c = some (nI (fb_sm (fun p => hAt T dt sd q p hh (tnn T)) (tnp T)), c') ∧ keeps [27, 29, 30, 31, tP T + 14, tP T + 17, tP T + 20, 53, 54, 55] c c' ∧ DC T c' ∧ ∀ i, i < 37 → cSt c' i = nst T dt sd q hh (cSt c) i := by
  have hP := h.1.pl
  have h7 := hT.1
  have h10 := hT.2.1
  obtain ⟨c1, a1, a2, a3⟩ := today_ok hT h h6 hdt
  have r1 : ∀ r, r = 27 ∨ r = 28 ∨ r = 29 ∨ r = 30 ∨ r = 31 → c1.1 r = c.1 r := fun r hr => a2.2 r (by simp <;> omega)
  obtain ⟨c2, f2, b0, b1, b2, b3, b4⟩ := passA hT h24 (c.1 29) (tnp T) 0 (by omega) c1 5000 (by omega) a3 (by rw [r1 27 (by omega)]; exact h5) (by rw [cpN_0, r1 29 (by omega)])
  have r2 : ∀ r, r = 27 ∨ r = 28 ∨ r = 30 ∨ r = 31 → c2.1 r = c.1 r := fun r hr => by rw [b2.2 r (by simp <;> omega), r1 r (by omega)]
  obtain ⟨c3, e1, e2, e3⟩ := passB (d := dt) (sd := sd) (hh := hh) hT (nI (fb_sm (fun p => hAt T dt sd q p hh (tnn T)) (tnp T))) _ rfl (c.1 30) (tnm T) 0 (by omega) c2 f2 (by omega) b3.1.1 (by rw [cpN_0, r2 30 (by omega)])
  have r3 : ∀ r, r = 27 ∨ r = 28 ∨ r = 31 → c3.1 r = c.1 r := fun r hr => by rw [e2.2 r (by simp <;> omega), r2 r (by omega)]
  have e29 : c3.1 29 = cpN (fun j => c.1 29 j + nI (hAt T dt sd q j hh (tnn T))) (c.1 29) (tnp T) := by rw [e2.2 29 (by simp), b4]
  have hgo : fX9_passHour c = (pt (sI c3 27 5 (nI (hh + 1))) fun m3 => (if (m3.1 27 5) = (24 : Int32) then (cV (fX9_endDay m3) fun m6 => (some (nI (fb_sm (fun p => hAt T dt sd q p hh (tnn T)) (tnp T)), m6))) else (some (nI (fb_sm (fun p => hAt T dt sd q p hh (tnn T)) (tnp T)), m3)))) := by
    unfold fX9_passHour
    rw [a1, cR_some, gEq_ok, show gX9_passHour 5000 0 0 0 0 c1 = _ from b1, show gX9_passHour f2 1 _ _ 0 c2 = _ from e1, r3 27 (by omega), h5, nI_1]
  have k3 : keeps [29, 30, tP T + 14, tP T + 17, tP T + 20, 53, 54, 55] c c3 := ((a2.mono (by simp <;> omega)).trans (b2.mono (by simp <;> omega))).trans (e2.mono (by simp))
  have hcb3 : CB T sd q c3 := (b3.kp e2 (by simp)).1
  rw [hgo, pt_eq, sI_row, upd_at]
  generalize hc4 : sI c3 27 5 (nI (hh + 1)) = c4
  have k4 : keeps [27, 29, 30, tP T + 14, tP T + 17, tP T + 20, 53, 54, 55] c c4 := by rw [← hc4]; exact (k3.mono (by simp <;> omega)).sI (by simp)
  have r4 : ∀ r, r ≠ 27 → c4.1 r = c3.1 r := fun r hr => by rw [← hc4, sI_oth hr]
  have d4 : DC T c4 := hcb3.2.2.1.keep (fun r hr => r4 r (by omega))
  have c427 : ∀ k, k ≠ 5 → c4.1 27 k = c.1 27 k := fun k hk => by rw [← hc4, sI_row, upd_ne hk, r3 27 (by omega)]
  have c4275 : c4.1 27 5 = nI (hh + 1) := by rw [← hc4, sI_row, upd_at]
  have t4 : TC T c4 := hcb3.1.kp (by rw [← hc4]; rfl) (fun k hk => r4 _ (by omega))
  by_cases cl : hh + 1 = 24
  · rw [if_pos (by rw [cl]; rfl)]
    unfold fX9_endDay
    rw [pt_eq, pt_eq, sI_row, upd_ne (by omega), c427 6 (by omega), h6, i_365 dt hdt]
    generalize hc5 : sI (sI c4 27 5 0) 27 6 (nI ((dt + 1) % 365)) = c5
    have r5 : ∀ r, r ≠ 27 → c5.1 r = c4.1 r := fun r hr => by rw [← hc5, sI_oth hr, sI_oth hr]
    have t5 : TC T c5 := t4.kp (by rw [← hc5]; rfl) (fun k hk => r5 _ (by omega))
    obtain ⟨c6, z1, z2, z3, z4⟩ := c_endG hT (c5.1 30) (c5.1 31) (tnm T) 0 (by omega) c5 5000 (by omega) t5 (by rw [cpN_0]) (by rw [cpN_0])
    rw [show gX9_endDay 5000 0 c5 = _ from z1, cV_some]
    have k5 : keeps [27, 29, 30, tP T + 14, tP T + 17, tP T + 20, 53, 54, 55] c c5 := by rw [← hc5]; exact (k4.sI (by simp)).sI (by simp)
    refine ⟨c6, rfl, (k5.mono (by simp <;> omega)).trans (z2.mono (by simp)), ?_, fun i hi => ?_⟩
    · exact d4.keep (fun r hr => by rw [z2.2 r (by simp <;> omega), r5 r (by omega)])
    · have e30 : c5.1 30 = cpN (fun j => c.1 30 j + nI (bw T dt sd hh j)) (c.1 30) (tnm T) := by rw [r5 30 (by omega), r4 30 (by omega), e3]
      have e31 : c5.1 31 = c.1 31 := by rw [r5 31 (by omega), r4 31 (by omega), r3 31 (by omega)]
      unfold nst
      by_cases i1 : i < 7
      · unfold cSt; rw [if_pos i1, if_pos i1, if_pos i1, z2.2 28 (by simp), r5 28 (by omega), r4 28 (by omega), r3 28 (by omega)]
      rw [if_neg i1]
      by_cases i2 : i < 14
      · unfold cSt; rw [if_pos i2, if_neg i1, if_pos i2, if_neg i1, if_pos i2, z2.2 29 (by simp), r5 29 (by omega), r4 29 (by omega), e29]
        unfold cpN
        rfl
      rw [if_neg i2]
      by_cases i3 : i < 24
      · unfold cSt; rw [if_pos i3, if_neg i1, if_neg i2, if_pos i3, if_neg i1, if_neg i2, if_pos i3, z3, e30]
        by_cases ck : i - 14 < tnm T
        · rw [cpN_in ck, if_pos ck, if_pos cl]
        · rw [cpN_out (by omega), cpN_out (by omega), if_neg ck]
      rw [if_neg i3]
      by_cases i4 : i < 34
      · unfold cSt; rw [if_pos i4, if_neg i1, if_neg i2, if_neg i3, if_pos i4, if_neg i1, if_neg i2, if_neg i3, if_pos i4, z4, e31]
        by_cases ck : i - 24 < tnm T
        · rw [cpN_in ck, if_pos ⟨ck, cl⟩, e30]
          congr 1
          refine metI_cong ?_
          rw [cpN_in ck]
          have g1 : ¬ 14 + (i - 24) < 7 := by omega
          have g2 : ¬ 14 + (i - 24) < 14 := by omega
          have g3 : 14 + (i - 24) < 24 := by omega
          rw [if_neg g1, if_neg g2, if_pos g3, show 14 + (i - 24) - 14 = i - 24 by omega]
        · rw [cpN_out (by omega), if_neg (fun z => ck z.1)]
      rw [if_neg i4]
      have e27 : c6.1 27 = c5.1 27 := z2.2 27 (by simp)
      have u4 : c5.1 27 4 = c.1 27 4 := by rw [← hc5, sI_row, upd_ne (by omega), sI_row, upd_ne (by omega), c427 4 (by omega)]
      have u5 : c5.1 27 5 = 0 := by rw [← hc5, sI_row, upd_ne (by omega), sI_row, upd_at]
      have u6 : c5.1 27 6 = nI ((dt + 1) % 365) := by rw [← hc5, sI_row, upd_at]
      rcases (show i = 34 ∨ i = 35 ∨ i = 36 by omega) with rfl | rfl | rfl
      · rw [if_pos rfl]; show c6.1 27 4 = c.1 27 4; rw [e27, u4]
      · rw [if_neg (by omega), if_pos rfl, if_pos cl]; show c6.1 27 5 = 0; rw [e27, u5]
      · rw [if_neg (by omega), if_neg (by omega), if_pos cl]; show c6.1 27 6 = _; rw [e27, u6]
  · rw [if_neg (show ¬ nI (hh + 1) = (24 : Int32) from fun z => cl ((nI_eq (b := 24) (by omega) (by omega)).mp z))]
    refine ⟨c4, rfl, k4.mono (by simp <;> omega), d4, fun i hi => ?_⟩
    unfold nst
    by_cases i1 : i < 7
    · unfold cSt; rw [if_pos i1, if_pos i1, if_pos i1, r4 28 (by omega), r3 28 (by omega)]
    rw [if_neg i1]
    by_cases i2 : i < 14
    · unfold cSt; rw [if_pos i2, if_neg i1, if_pos i2, if_neg i1, if_pos i2, r4 29 (by omega), e29]
      unfold cpN
      rfl
    rw [if_neg i2]
    by_cases i3 : i < 24
    · unfold cSt; rw [if_pos i3, if_neg i1, if_neg i2, if_pos i3, if_neg i1, if_neg i2, if_pos i3, r4 30 (by omega), e3, if_neg cl]
      unfold cpN
      rfl
    rw [if_neg i3]
    by_cases i4 : i < 34
    · unfold cSt; rw [if_pos i4, if_neg i1, if_neg i2, if_neg i3, if_pos i4, if_neg i1, if_neg i2, if_neg i3, if_pos i4, r4 31 (by omega), r3 31 (by omega), if_neg (fun z => cl z.2)]
    rw [if_neg i4]
    rcases (show i = 34 ∨ i = 35 ∨ i = 36 by omega) with rfl | rfl | rfl
    · rw [if_pos rfl]; show c4.1 27 4 = c.1 27 4; rw [c427 4 (by omega)]
    · rw [if_neg (by omega), if_pos rfl, if_neg cl]; exact c4275
    · rw [if_neg (by omega), if_neg (by omega), if_neg cl]; show c4.1 27 6 = c.1 27 6; rw [c427 6 (by omega)]
theorem m_hour {T : Tn} {m : Mem} {sd : Nat → Nat} {q hh dt : Nat} (hT : TOK T) (hM : TM T m) (hF : FM T m) (hs : ∀ p, p < tnp T → sd p < 3 ∧ m.1 33 p = nI (sd p)) (hq : m.1 33 34 = nI q) (hq2 : q < 128) (h24 : hh < 24) (h5 : m.1 33 35 = nI hh) (hdt : dt < 365) (h6 : m.1 33 36 = nI dt) : ∃ m', (rd (m.1 33) 37 (36 : Int32) fun v3 => (cV (fX12_loadDate m v3) fun m5 => (rd (m5.1 34) 37 (35 : Int32) fun v6 => (gX12_hour 5000 0 v6 (0 : Int32) (0 : Int32) m5)))) = some (nI (fb_sm (fun p => hAt T dt sd q p hh (tnn T)) (tnp T)), m') ∧ keeps [10, 13, 33, 34, 35, 36] m m' ∧ ∀ i, i < 37 → m'.1 33 i = nst T dt sd q hh (m.1 33) i := by
  have h7 := hT.1
  have h10 := hT.2.1
  obtain ⟨m1, a1, a2, a3, a4⟩ := m_loadDate hT hM hF dt hs hq
  obtain ⟨m2, f2, b0, b1, b2, b3, b4⟩ := m_hourA hT hq2 h24 (m1.1 34) (tnp T) 0 (by omega) m1 5000 (by omega) a3 (by rw [fb_put_0])
  obtain ⟨m3, f3, e0, e1, e2, e3, e4⟩ := m_hourB hT h24 (nI (fb_sm (fun p => hAt T dt sd q p hh (tnn T)) (tnp T))) (m2.1 34) (tnm T) 0 (by omega) m2 f2 (by omega) b3 (by rw [fb_put_0])
  have v35 : m3.1 34 35 = nI hh := by rw [e4, fb_put_out (by omega), b4, fb_put_out (by omega), a4 35 (by omega)]; exact h5
  have hwr : ∀ (m : Mem) (v : Int32) (K : Mem → Option (Int32 × Mem)), wr m 34 37 (35 : Int32) v K = K (sI m 34 35 v) := fun m v K => wr_ok (k := 35) (by omega) (by omega)
  rw [(rd_now _ _).2.2, h6, a1, cV_some, (rd_now _ _).2.1, a4 35 (by omega), h5, show gX12_hour 5000 0 (nI hh) 0 0 m1 = _ from b1, show gX12_hour f2 1 (nI hh) _ 0 m2 = _ from e1, (rd_now _ _).2.1, v35, nI_1, hwr, (rd_now _ _).2.1, sI_row, upd_at]
  generalize hm4 : sI m3 34 35 (nI (hh + 1)) = m4
  have k4 : keeps [10, 13, 34, 35, 36] m m4 := by rw [← hm4]; exact ((a2.trans (b2.mono (by simp))).trans (e2.mono (by simp))).sI (by simp)
  have r34 : m4.1 34 = upd (fb_put (fb_put (m1.1 34) (fun j => m1.1 34 (7 + j) + nI (hAt T dt sd q j hh (tnn T))) 7 (tnp T)) (fun j => m2.1 34 (14 + j) + nI (bw T dt sd hh j)) 14 (tnm T)) 35 (nI (hh + 1)) := by rw [← hm4, sI_row, e4, b4]
  have m214 : ∀ j, j < 10 → m2.1 34 (14 + j) = m.1 33 (14 + j) := fun j hj => by rw [b4, fb_put_out (by omega), a4 _ (by omega)]
  have fin : ∀ m5 : Mem, keeps [10, 13, 34, 35, 36] m m5 → (∀ i, i < 37 → m5.1 34 i = nst T dt sd q hh (m.1 33) i) → ∃ m', gX12_hour f3 2 0 (nI (fb_sm (fun p => hAt T dt sd q p hh (tnn T)) (tnp T))) 0 m5 = some (nI (fb_sm (fun p => hAt T dt sd q p hh (tnn T)) (tnp T)), m') ∧ keeps [10, 13, 33, 34, 35, 36] m m' ∧ ∀ i, i < 37 → m'.1 33 i = nst T dt sd q hh (m.1 33) i := by
    intro m5 k5 h5'
    have z := m_hourC (nI (fb_sm (fun p => hAt T dt sd q p hh (tnn T)) (tnp T))) (m := m5) 37 0 (by omega) f3 (by omega)
    rw [cpN_0, sW_self] at z
    exact ⟨_, z, (k5.mono (by simp <;> omega)).sW (by simp), fun i hi => by rw [sW_row, cpN_in hi]; exact h5' i hi⟩
  by_cases cl : hh + 1 = 24
  · rw [if_pos (by rw [cl]; rfl)]
    unfold fX12_goDate
    have v36 : (sI m4 34 35 0).1 34 36 = nI dt := by rw [sI_row, upd_ne (by omega), r34, upd_ne (by omega), fb_put_out (by omega), fb_put_out (by omega), a4 36 (by omega)]; exact h6
    have hwr35 : ∀ (m : Mem) (v : Int32) (K : Mem → Option Mem), wr m 34 37 (35 : Int32) v K = K (sI m 34 35 v) := fun m v K => wr_ok (k := 35) (by omega) (by omega)
    have hwr36 : ∀ (m : Mem) (v : Int32) (K : Mem → Option Mem), wr m 34 37 (36 : Int32) v K = K (sI m 34 36 v) := fun m v K => wr_ok (k := 36) (by omega) (by omega)
    rw [hwr35, (rd_now _ _).2.2, v36, i_365 dt hdt, hwr36]
    generalize hm5 : sI (sI m4 34 35 0) 34 36 (nI ((dt + 1) % 365)) = m5
    have k5 : keeps [10, 13, 34, 35, 36] m m5 := by rw [← hm5]; exact (k4.sI (by simp)).sI (by simp)
    obtain ⟨m6, z1, z2, z3⟩ := m_goG hT (m5.1 34) (tnm T) 0 (by omega) m5 5000 (by omega) (hM.kp k5 (by simp <;> omega)) (by rw [fb_put_0, fb_put_0])
    rw [show gX12_goDate 5000 0 m5 = _ from z1, cV_some]
    refine fin m6 (k5.trans (z2.mono (by simp))) (fun i hi => ?_)
    have g5 : ∀ j, j ≠ 35 → j ≠ 36 → m5.1 34 j = m4.1 34 j := fun j x1 x2 => by rw [← hm5, sI_row, upd_ne x2, sI_row, upd_ne x1]
    rw [z3]
    unfold nst
    by_cases i1 : i < 7
    · rw [if_pos i1, fb_put_out (by omega), fb_put_out (by omega), g5 i (by omega) (by omega), r34, upd_ne (by omega), fb_put_out (by omega), fb_put_out (by omega), a4 i hi]
    rw [if_neg i1]
    by_cases i2 : i < 14
    · rw [if_pos i2, fb_put_out (by omega), fb_put_out (by omega), g5 i (by omega) (by omega), r34, upd_ne (by omega), fb_put_out (by omega)]
      by_cases ck : i - 7 < tnp T
      · rw [fb_put_in (by omega) (by omega), if_pos ck, show 7 + (i - 7) = i by omega, a4 i hi]
      · rw [fb_put_out (by omega), if_neg ck, a4 i hi]
    rw [if_neg i2]
    by_cases i3 : i < 24
    · rw [if_pos i3]
      by_cases ck : i - 14 < tnm T
      · rw [fb_put_in (by omega) (by omega), if_pos ck, if_pos cl]
      · rw [fb_put_out (by omega), fb_put_out (by omega), if_neg ck, g5 i (by omega) (by omega), r34, upd_ne (by omega), fb_put_out (by omega), fb_put_out (by omega), a4 i hi]
    rw [if_neg i3]
    by_cases i4 : i < 34
    · rw [if_pos i4, fb_put_out (by omega)]
      have eo : m5.1 34 i = m.1 33 i := by rw [g5 i (by omega) (by omega), r34, upd_ne (by omega), fb_put_out (by omega), fb_put_out (by omega), a4 i hi]
      by_cases ck : i - 24 < tnm T
      · rw [fb_put_in (by omega) (by omega), if_pos ⟨ck, cl⟩, show 24 + (i - 24) = i by omega, eo]
        congr 1
        refine metI_cong ?_
        rw [g5 _ (by omega) (by omega), r34, upd_ne (by omega), fb_put_in (by omega) (by omega), show 14 + (i - 24) - 14 = i - 24 by omega, m214 _ (by omega)]
      · rw [fb_put_out (by omega), if_neg (fun z => ck z.1), eo]
    rw [if_neg i4, fb_put_out (by omega), fb_put_out (by omega)]
    rcases (show i = 34 ∨ i = 35 ∨ i = 36 by omega) with rfl | rfl | rfl
    · rw [if_pos rfl, g5 34 (by omega) (by omega), r34, upd_ne (by omega), fb_put_out (by omega), fb_put_out (by omega), a4 34 hi]
    · rw [if_neg (by omega), if_pos rfl, if_pos cl, ← hm5, sI_row, upd_ne (by omega), sI_row, upd_at]
    · rw [if_neg (by omega), if_neg (by omega), if_pos cl, ← hm5, sI_row, upd_at]
  · rw [if_neg (show ¬ nI (hh + 1) = (24 : Int32) from fun z => cl ((nI_eq (b := 24) (by omega) (by omega)).mp z))]
    refine fin m4 k4 (fun i hi => ?_)
    rw [r34]
    unfold nst
    by_cases i1 : i < 7
    · rw [if_pos i1, upd_ne (by omega), fb_put_out (by omega), fb_put_out (by omega), a4 i hi]
    rw [if_neg i1]
    by_cases i2 : i < 14
    · rw [if_pos i2, upd_ne (by omega), fb_put_out (by omega)]
      by_cases ck : i - 7 < tnp T
      · rw [fb_put_in (by omega) (by omega), if_pos ck, show 7 + (i - 7) = i by omega, a4 i hi]
      · rw [fb_put_out (by omega), if_neg ck, a4 i hi]
    rw [if_neg i2]
    by_cases i3 : i < 24
    · rw [if_pos i3, upd_ne (by omega), if_neg cl]
      by_cases ck : i - 14 < tnm T
      · rw [fb_put_in (by omega) (by omega), if_pos ck, m214 _ (by omega), show 14 + (i - 14) = i by omega]
      · rw [fb_put_out (by omega), if_neg ck, fb_put_out (by omega), a4 i hi]
    rw [if_neg i3]
    by_cases i4 : i < 34
    · rw [if_pos i4, upd_ne (by omega), fb_put_out (by omega), fb_put_out (by omega), a4 i hi, if_neg (fun z => cl z.2)]
    rw [if_neg i4]
    rcases (show i = 34 ∨ i = 35 ∨ i = 36 by omega) with rfl | rfl | rfl
    · rw [if_pos rfl, upd_ne (by omega), fb_put_out (by omega), fb_put_out (by omega), a4 34 hi]
    · rw [if_neg (by omega), if_pos rfl, if_neg cl, upd_at]
    · rw [if_neg (by omega), if_neg (by omega), if_neg cl, upd_ne (by omega), fb_put_out (by omega), fb_put_out (by omega), a4 36 hi]
theorem o_hour : Ob_hour Rl := by
  intro mC mM hR
  obtain ⟨T, hX⟩ : ∃ T, RX T mC mM := id hR
  obtain ⟨sd, q, hr, dt, hQ⟩ := hX.cb
  obtain ⟨h1, h2, h3, h4, h5, h6, h7, h8, h9, h10, h11, h12, h13, h14⟩ := id hX
  have hP := h2.pl
  have hnp := h1.1
  obtain ⟨rw_, a, u, a1, a2, a3, a4, a5, a6, a7, a8⟩ := id h8
  obtain ⟨c1, p1, p2, p3, p4⟩ := c_hour h1 hQ.cb hQ.hlt hQ.ch hQ.dlt hQ.cd
  obtain ⟨c2, k1, k2, k3, k4, k5, k6⟩ := c_keep (m := c1) (a := a) a1 (by omega) (by rw [p2.2 56 (by simp <;> omega)]; exact a3) (by rw [p2.2 56 (by simp <;> omega)]; exact a4)
  obtain ⟨m1, q1, q2, q3, q4, q5, q6, q7⟩ := m_act (m := mM) (a := a) (by omega) a6
  have e33 : m1.1 33 = mM.1 33 := q3 33 (by omega) (by omega)
  obtain ⟨m2, z1, z2, z3⟩ := m_hour (m := m1) (hh := hr) (dt := dt) h1 (h3.keep (fun k hk => q4 k (by omega) (by omega)) (fun r hr => q3 r (by omega) (by omega))) (h5.keep (fun r hr => q3 r (by omega) (by omega))) (by rw [e33]; exact hQ.side) (by rw [e33]; exact hQ.quiet) hQ.q128 hQ.hlt (by rw [e33]; exact hQ.mh) hQ.dlt (by rw [e33]; exact hQ.md)
  rw [e33] at z3
  refine ⟨_, c2, m2, by unfold fX11_hour; rw [p1, cI_some, k1, cV_some], by unfold fX12_hour; rw [q1, cV_some, z1], ?_⟩
  have hq : stEq (tnp T) (cSt c1) (m2.1 33) := (nst_eq h1.2.1 h7.1).of p4 z3
  have hok : stOK (tnp T) (m2.1 33) := (nst_ok hnp hQ.hlt hQ.dlt hQ.md h7.2).of hnp z3
  have hcs : cSt c2 = cSt c1 := cSt.keep (fun r hr => k2.2 r (by simp <;> omega))
  refine Rl.like2 hX (by rw [k2.1, p2.1]) (fun r hr => ?_) ⟨by rw [k2.2 65 (by simp), p2.2 65 (by simp <;> omega)], by rw [k2.2 65 (by simp), p2.2 65 (by simp <;> omega)]⟩ (p3.keep (fun r hr => k2.2 r (by simp <;> omega))) ⟨by rw [z2.1, q2], fun k x1 x2 => by rw [z2.2 0 (by simp), q4 k x1 x2], fun r hr => ?_⟩ ⟨by rw [hcs]; exact hq, hok⟩ ?_
  · simp only [List.mem_cons, List.not_mem_nil, or_false] at hr
    rw [k2.2 r (by simp <;> omega), p2.2 r (by simp <;> omega)]
  · simp only [List.mem_cons, List.not_mem_nil, or_false] at hr
    rw [z2.2 r (by simp <;> omega), q3 r (by omega) (by omega)]
  · refine RA.act (newC := cSt c1) h1 h8 h7.2 hq (fun rw' a' e1 e2 e3 e4 => ?_) (fun a' e1 e2 => ?_)
    · have x1 : rw' = rw_ := (nI_eq (by omega) (by omega)).mp (e1.symm.trans a3)
      have x2 : a' = a := (nI_eq (by omega) (by omega)).mp (e2.symm.trans a4)
      subst x1; subst x2
      refine ⟨k3, k4, k5, ?_⟩
      rw [k6, p2.2 57 (by simp <;> omega)]
    · have x2 : a' = a := (nI_eq (by omega) (by omega)).mp (e1.symm.trans a6)
      subst x2
      exact ⟨by rw [z2.2 0 (by simp)]; exact q5, by rw [z2.2 0 (by simp)]; exact q6, by rw [z2.2 37 (by simp)]; exact q7⟩
