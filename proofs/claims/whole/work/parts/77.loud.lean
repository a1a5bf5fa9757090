/-! ===== loudest, shop, odds ===== -/
theorem fub (g : Nat → Nat → Nat) (a : Nat) : ∀ b, fb_sm (fun p => fb_sm (fun k => g k p) a) b = fb_sm (fun k => fb_sm (fun p => g k p) b) a
  | 0 => by
    rw [show (fun k => fb_sm (fun p => g k p) 0) = (fun _ => 0) from rfl, fb_sm_const]
    rfl
  | b + 1 => by
    rw [fb_sm_succ, fub g a b, ← fb_sm_add]
    rfl
def hBy (T : Tn) (d : Nat) (sd : Nat → Nat) (q x : Nat) : Nat → Nat := fb_sm (fun k => if tO T k = x then fb_sm (fun p => harmN T d sd q k p) (tnp T) else 0)
theorem q_or : ∀ q, q < 128 → ∀ p, p < 7 → ∀ o, o < 7 → (q ||| 2 ^ p) / 2 ^ o % 2 = if o = p then 1 else q / 2 ^ o % 2 := by decide +kernel
theorem q_orlt : ∀ q, q < 128 → ∀ p, p < 7 → q ||| 2 ^ p < 128 := by decide +kernel
theorem harm_or {T : Tn} (hT : TOK T) {d : Nat} {sd : Nat → Nat} {q x k : Nat} (hq : q < 128) (hx : x < 7) (hk : k < tnn T) (p : Nat) : harmN T d sd (q ||| 2 ^ x) k p = if tO T k = x then 0 else harmN T d sd q k p := by
  have h7 := hT.1
  have n1 := (hT.2.2.2.2.2.2.1 k hk).1
  unfold harmN
  rw [q_or q hq x hx (tO T k) (by omega)]
  by_cases c : tO T k = x
  · rw [if_pos c, if_pos c, if_pos rfl]
    split <;> rfl
  · rw [if_neg c, if_neg c]
theorem hAll_split {T : Tn} (hT : TOK T) {d : Nat} {sd : Nat → Nat} {q x : Nat} (hq : q < 128) (hx : x < 7) : hAll T d sd q (tnp T) = hBy T d sd q x (tnn T) + hAll T d sd (q ||| 2 ^ x) (tnp T) := by
  unfold hAll hOn hBy
  rw [fub (fun k p => harmN T d sd q k p) (tnn T) (tnp T), fub (fun k p => harmN T d sd (q ||| 2 ^ x) k p) (tnn T) (tnp T), ← fb_sm_add]
  refine fb_sm_cong (fun k hk => ?_)
  by_cases c : tO T k = x
  · rw [if_pos c, show fb_sm (fun p => harmN T d sd (q ||| 2 ^ x) k p) (tnp T) = fb_sm (fun _ => 0) (tnp T) from fb_sm_cong (fun p _ => by rw [harm_or hT hq hx hk, if_pos c]), fb_sm_const]
    omega
  · rw [if_neg c, show fb_sm (fun p => harmN T d sd (q ||| 2 ^ x) k p) (tnp T) = fb_sm (fun p => harmN T d sd q k p) (tnp T) from fb_sm_cong (fun p _ => by rw [harm_or hT hq hx hk, if_neg c])]
    omega
theorem hBy_lt {T : Tn} (hT : TOK T) (d : Nat) (sd : Nat → Nat) (q x : Nat) : hBy T d sd q x (tnn T) < 2 ^ 20 := by
  have h7 := hT.1
  have h8 := hT.2.2.1
  have : hBy T d sd q x (tnn T) ≤ tnn T * (7 * 99) := fb_sm_bound (fun k _ => by
    split
    · have h : fb_sm (fun p => harmN T d sd q k p) (tnp T) ≤ tnp T * 99 := fb_sm_bound (fun p _ => harm_le _ _ _ _ _ _)
      have : tnp T * 99 ≤ 7 * 99 := Nat.mul_le_mul_right _ h7
      omega
    · omega)
  have : tnn T * (7 * 99) ≤ 8 * (7 * 99) := Nat.mul_le_mul_right _ h8
  omega
section
variable {T : Tn} {d : Nat} {sd : Nat → Nat} {q : Nat} {m : Mem}
theorem CD.byIn (hT : TOK T) {x k S : Nat} (hk : k < tnn T) (hx : tO T k = x) : ∀ (j p : Nat), p + j = tnp T → ∀ (m : Mem) (f : Nat), j < f → CD T d sd q m → ∃ m' f', f = f' + (j + 1) ∧ gX9_harmBy f 1 (nI x) (nI (S + fb_sm (fun p => harmN T d sd q k p) p)) (nI k) (nI p) m = gX9_harmBy f' 0 (nI x) (nI (S + fb_sm (fun p => harmN T d sd q k p) (tnp T))) (nI (k + 1)) 0 m' ∧ keeps [tP T + 20] m m' ∧ CD T d sd q m' := by
  have h7 := hT.1
  have h8 := hT.2.2.1
  intro j
  induction j with
  | zero =>
    intro p hp m f hf h
    obtain ⟨f, rfl⟩ : ∃ g, f = g + 1 := ⟨f - 1, by omega⟩
    have ei : p = tnp T := by omega
    subst ei
    exact ⟨m, f, rfl, by rw [gX9_harmBy, gPl_T h.1.1, h.1.1.2.1, h.1.1.2.2.2.1, if_pos (nI_le (by omega) (by omega)), nI_1], keeps.rfl', h⟩
  | succ j ih =>
    intro p hp m f hf h
    obtain ⟨f, rfl⟩ : ∃ g, f = g + 1 := ⟨f - 1, by omega⟩
    obtain ⟨e1, e2, e3⟩ := h.1.1.2.2.2.2.2.2.2.2.2 k hk
    obtain ⟨m1, a1, a2, a3⟩ := h.harm hT hk (show p < tnp T by omega)
    rw [gX9_harmBy, gPl_T h.1.1, h.1.1.2.1, h.1.1.2.2.2.1, if_neg (nI_ge (by omega) (by omega)), rd_ok (by omega) (by omega), e1, if_pos (by rw [hx]), a1, cI_some, nm_eq, nI_add, nI_1, show S + fb_sm (fun p => harmN T d sd q k p) p + harmN T d sd q k p = S + fb_sm (fun p => harmN T d sd q k p) (p + 1) by rw [fb_sm_succ]; omega]
    obtain ⟨m', f', q0, q1, q2, q3⟩ := ih (p + 1) (by omega) m1 f (by omega) a3
    exact ⟨m', f', by omega, q1, a2.trans q2, q3⟩
theorem CD.byG (hT : TOK T) {x : Nat} (hx : x < tnp T) : ∀ (j k : Nat), k + j = tnn T → ∀ (m : Mem) (f : Nat), 10 * j < f → CD T d sd q m → ∃ m', gX9_harmBy f 0 (nI x) (nI (hBy T d sd q x k)) (nI k) 0 m = some (nI (hBy T d sd q x (tnn T)), m') ∧ keeps [tP T + 20] m m' ∧ CD T d sd q m' := by
  have h7 := hT.1
  have h8 := hT.2.2.1
  intro j
  induction j with
  | zero =>
    intro k hk m f hf h
    obtain ⟨f, rfl⟩ : ∃ g, f = g + 1 := ⟨f - 1, by omega⟩
    have ei : k = tnn T := by omega
    subst ei
    exact ⟨m, by rw [gX9_harmBy, gPl_T h.1.1, h.1.1.2.1, h.1.1.2.2.2.2.2.1, if_pos (nI_le (by omega) (by omega))], keeps.rfl', h⟩
  | succ j ih =>
    intro k hk m f hf h
    obtain ⟨f, rfl⟩ : ∃ g, f = g + 1 := ⟨f - 1, by omega⟩
    rw [gX9_harmBy, gPl_T h.1.1, h.1.1.2.1, h.1.1.2.2.2.2.2.1, if_neg (nI_ge (by omega) (by omega))]
    by_cases c : tO T k = x
    · obtain ⟨m1, f1, a0, a1, a2, a3⟩ := CD.byIn (S := hBy T d sd q x k) hT (show k < tnn T by omega) c (tnp T) 0 (by omega) m f (by omega) h
      have e : hBy T d sd q x (k + 1) = hBy T d sd q x k + fb_sm (fun p => harmN T d sd q k p) (tnp T) := by unfold hBy; rw [fb_sm_succ, if_pos c]
      rw [← e] at a1
      rw [show gX9_harmBy f 1 (nI x) (nI (hBy T d sd q x k)) (nI k) 0 m = _ from a1]
      obtain ⟨m', q1, q2, q3⟩ := ih (k + 1) (by omega) m1 f1 (by omega) a3
      exact ⟨m', q1, a2.trans q2, q3⟩
    · obtain ⟨e1, e2, e3⟩ := h.1.1.2.2.2.2.2.2.2.2.2 k (by omega)
      have n1 := (hT.2.2.2.2.2.2.1 k (by omega)).1
      obtain ⟨f, rfl⟩ : ∃ g, f = g + 1 := ⟨f - 1, by omega⟩
      have e : hBy T d sd q x (k + 1) = hBy T d sd q x k := by unfold hBy; rw [fb_sm_succ, if_neg c]; rfl
      rw [gX9_harmBy, gPl_T h.1.1, h.1.1.2.1, h.1.1.2.2.2.1, if_neg (show ¬ nI (tnp T) ≤ (0 : Int32) from nI_ge (a := 0) (by omega) (by omega)), rd_ok (by omega) (by omega), e1, if_neg (fun z => c ((nI_eq (by omega) (by omega)).mp z)), nI_1, ← e]
      exact ih (k + 1) (by omega) m f (by omega) h
theorem CD.by (hT : TOK T) (h : CD T d sd q m) {x : Nat} (hx : x < tnp T) : ∃ m', fX9_harmBy m (nI x) = some (nI (hBy T d sd q x (tnn T)), m') ∧ keeps [tP T + 20] m m' ∧ CD T d sd q m' := CD.byG hT hx (tnn T) 0 (by omega) m 5000 (by have := hT.2.2.1; omega) h
theorem MD.air {q2 : Nat} (hT : TOK T) (h : MD T d sd q m) : MD T d sd q2 (sI m 34 34 (nI q2)) := by
  have h7 := hT.1
  have kp : keeps [34] m (sI m 34 34 (nI q2)) := keeps.rfl'.sI (by simp)
  refine ⟨h.1.kp kp (by simp <;> omega), ?_, ?_, fun p hp => ⟨(h.2.2.2.1 p hp).1, ?_⟩, ?_⟩
  · rw [sI_oth (by omega)]; exact h.2.1
  · rw [sI_oth (by omega)]; exact h.2.2.1
  · rw [sI_row, upd_ne (by omega)]; exact (h.2.2.2.1 p hp).2
  · rw [sI_row, upd_at]
def ldOK (who most : Int32) : Prop := (who = -1 ∧ most = -1) ∨ ∃ a b : Nat, a < 2 ^ 30 ∧ b < 2 ^ 30 ∧ who = nI a ∧ most = nI b
theorem loudG (hT : TOK T) (hd : d < 365) (y : Int32) : ∀ (k i : Nat), i + k = tnp T → ∀ (c m : Mem) (f : Nat) (who most : Int32) (q' : Nat), k < f → CB T sd q c → MD T d sd q' m → m.1 33 34 = nI q → ldOK who most → ∃ r c' m', gX11_loudest f (nI d) y who most (nI i) c = some (r, c') ∧ gX12_loudest f y (nI (hAll T d sd q (tnp T))) who most (nI i) m = some (r, m') ∧ keeps (SC T) c c' ∧ CB T sd q c' ∧ keeps [34] m m' := by
  have h7 := hT.1
  intro k
  induction k with
  | zero =>
    intro i hi c m f who most q' hf h hm hm2 hl
    obtain ⟨f, rfl⟩ : ∃ g, f = g + 1 := ⟨f - 1, by omega⟩
    have ei : i = tnp T := by omega
    subst ei
    rw [gX11_loudest, gX12_loudest, gPl_T h.1, h.1.2.1, h.1.2.2.2.1, hm.1.1, if_pos (nI_le (by omega) (by omega)), if_pos (nI_le (by omega) (by omega))]
    rcases hl with ⟨rfl, rfl⟩ | ⟨a, b, ha, hb, rfl, rfl⟩
    · rw [if_neg (show ¬ (0 : Int32) ≤ -1 by decide)]
      refine ⟨-1, c, m, ?_, rfl, keeps.rfl', h, keeps.rfl'⟩
      split <;> rfl
    · rw [if_pos (nI_pos' (by omega))]
      by_cases c0 : y = 0
      · rw [if_pos c0]
        exact ⟨_, c, m, rfl, by rw [if_pos c0], keeps.rfl', h, keeps.rfl'⟩
      · rw [if_neg c0]
        exact ⟨_, c, m, rfl, by rw [if_neg c0], keeps.rfl', h, keeps.rfl'⟩
  | succ k ih =>
    intro i hi c m f who most q' hf h hm hm2 hl
    obtain ⟨f, rfl⟩ : ∃ g, f = g + 1 := ⟨f - 1, by omega⟩
    have hq := h.2.2.2.2.2
    have hi7 : i < 7 := by omega
    have hm1 : (-1 : Int32) ≤ most := by
      rcases hl with ⟨rfl, rfl⟩ | ⟨a, b, ha, hb, rfl, rfl⟩
      · decide
      · exact Int32.le_trans (show (-1 : Int32) ≤ 0 by decide) (nI_pos' (by omega))
    rw [gX11_loudest, gX12_loudest, gPl_T h.1, h.1.2.1, h.1.2.2.2.1, hm.1.1, if_neg (nI_ge (by omega) (by omega)), if_neg (nI_ge (by omega) (by omega)), h.quiet hi7, cP_some, (rd_now _ _).1, hm2, bitN (by omega) (by omega), nI_1]
    by_cases c0 : q / 2 ^ i % 2 = 1
    · rw [c0, if_neg i1n, if_pos hm1, if_pos (show nI 1 = (1 : Int32) from rfl)]
      exact ih (i + 1) (by omega) c m f who most q' (by omega) h hm hm2 hl
    · rw [show q / 2 ^ i % 2 = 0 by omega, if_pos (show nI 0 = 0 from rfl), if_neg (show ¬ nI 0 = (1 : Int32) by decide)]
      obtain ⟨c1, a1, a2, a3⟩ := h.day hT hd
      obtain ⟨c2, e1, e2, e3⟩ := a3.by hT (show i < tnp T by omega)
      have hm' : MD T d sd (q ||| 2 ^ i) (sI m 34 34 (nI (q ||| 2 ^ i))) := hm.air hT
      have hwr : ∀ (v : Int32) (K : Mem → Option (Int32 × Mem)), wr m 34 37 (34 : Int32) v K = K (sI m 34 34 v) := fun v K => wr_ok (k := 34) (by omega) (by omega)
      have hs : nI (hAll T d sd q (tnp T)) - nI (hAll T d sd (q ||| 2 ^ i) (tnp T)) = nI (hBy T d sd q i (tnn T)) := by
        rw [hAll_split hT hq hi7, pk_sub (by omega)]
        congr 1
        omega
      rw [a1, cR_some, gEq_ok, e1, cI_some, (rd_now _ _).1, hm2, sh_pow i (by omega), fa_or, hwr, hm'.allHarm hT (q_orlt q hq i hi7), cP_some, nm_eq, hs]
      have hlt := hBy_lt hT d sd q i
      have k2 : keeps (SC T) c c2 := a2.trans (e2.mono (by simp))
      have m33 : (sI m 34 34 (nI (q ||| 2 ^ i))).1 33 34 = nI q := by rw [sI_oth (by omega)]; exact hm2
      by_cases c2' : most < nI (hBy T d sd q i (tnn T))
      · rw [if_neg (Int32.not_le.mpr c2'), if_pos c2']
        obtain ⟨r, c', m', z1, z2, z3, z4, z5⟩ := ih (i + 1) (by omega) c2 _ f (nI i) (nI (hBy T d sd q i (tnn T))) _ (by omega) e3.1 hm' m33 (Or.inr ⟨i, hBy T d sd q i (tnn T), by omega, by omega, rfl, rfl⟩)
        exact ⟨r, c', m', z1, z2, k2.trans z3, z4, (keeps.rfl'.sI (by simp)).trans z5⟩
      · rw [if_pos (Int32.not_lt.mp c2'), if_neg c2']
        obtain ⟨r, c', m', z1, z2, z3, z4, z5⟩ := ih (i + 1) (by omega) c2 _ f who most _ (by omega) e3.1 hm' m33 hl
        exact ⟨r, c', m', z1, z2, k2.trans z3, z4, (keeps.rfl'.sI (by simp)).trans z5⟩
end
theorem o_loudest : Ob_loudest Rl := by
  intro mC mM x y hR
  obtain ⟨T, hX⟩ : ∃ T, RX T mC mM := id hR
  obtain ⟨sd, q, hr, dt, hQ⟩ := hX.cb
  have hT := hX.1
  have h2 := hX.2.1
  have h3 := hX.2.2.1
  have h7 := hT.1
  have h8 := hT.2.2.1
  have h10 := hT.2.1
  unfold fX11_loudest fX12_loudest
  rcases date_c x with ⟨e1, e2⟩ | ⟨d, hd, rfl, e1, e2⟩
  · rw [e1, e2, cP_some, cP_some]
    exact ⟨_, _, _, by rw [if_pos rfl], by rw [if_pos rfl], hR⟩
  rw [e1, e2, cP_some, cP_some, if_neg i10, if_neg i10]
  rcases two_c y with ⟨e1, e2⟩ | ⟨e0, e1, e3, e2⟩ | ⟨b, hb, rfl, e0, e1, e3, e2⟩
  · rw [if_pos e1, e2, cP_some]
    exact ⟨_, _, _, rfl, by rw [if_pos rfl], hR⟩
  · rw [if_neg e0, if_neg e1, e2, cP_some]
    exact ⟨_, _, _, rfl, by rw [if_pos rfl], hR⟩
  rw [if_neg e0, if_pos e1, e2, cP_some, if_neg i10]
  obtain ⟨m1, b1, b2, b3, b4⟩ := hX.load hQ d
  rw [b1, cV_some, b3.allHarm hT hQ.q128, cP_some]
  obtain ⟨r, c', m', z1, z2, z3, z4, z5⟩ := loudG hT hd (nI b) (tnp T) 0 (by omega) mC m1 5000 (-1) (-1) q (by omega) hQ.cb b3 (by rw [b2.2 33 (by simp)]; exact hQ.quiet) (Or.inl ⟨rfl, rfl⟩)
  exact ⟨r, c', m', z1, z2, hX.done z3 z4.2.2.1 (b2.trans (z5.mono (by simp)))⟩
/-- are the first n served by these hours? -/
def srv (T : Tn) (d : Nat) (sd : Nat → Nat) (M : Int32) : Nat → Nat
  | 0 => 1
  | p + 1 => if (hrs T d (sd p) &&& M) = 0 then 0 else srv T d sd M p
theorem srv_lt (T : Tn) (d : Nat) (sd : Nat → Nat) (M : Int32) : ∀ n, srv T d sd M n < 2
  | 0 => by unfold srv; omega
  | p + 1 => by
    unfold srv
    split
    · omega
    · exact srv_lt T d sd M p
theorem srv_0 {T : Tn} {d : Nat} {sd : Nat → Nat} {M : Int32} {i : Nat} (h : srv T d sd M i = 0) : ∀ k, srv T d sd M (i + k) = 0
  | 0 => h
  | k + 1 => by
    rw [show i + (k + 1) = i + k + 1 by omega, srv]
    split
    · rfl
    · exact srv_0 h k
theorem sh_mask : ∀ n, n < 25 → ∀ h, h < 25 → h + n ≤ 24 → ((1 : Int32) <<< (nI (h + n) &&& 31)) - ((1 : Int32) <<< (nI h &&& 31)) = (((1 : Int32) <<< (nI n &&& 31)) - (1 : Int32)) <<< (nI h &&& 31) := by decide +kernel
section
variable {T : Tn} {d : Nat} {sd : Nat → Nat} {q : Nat} {m : Mem}
theorem CB.servG (hT : TOK T) (hd : d < 365) (M : Int32) : ∀ (k i : Nat), i + k = tnp T → ∀ (m : Mem) (f : Nat), k < f → CB T sd q m → m.1 27 6 = nI d → srv T d sd M i = 1 → ∃ m', gX9_allServed f M (nI i) m = some (nI (srv T d sd M (tnp T)), m') ∧ keeps (SC T) m m' ∧ CB T sd q m' := by
  have h7 := hT.1
  intro k
  induction k with
  | zero =>
    intro i hi m f hf h hd6 hs
    obtain ⟨f, rfl⟩ : ∃ g, f = g + 1 := ⟨f - 1, by omega⟩
    have ei : i = tnp T := by omega
    subst ei
    exact ⟨m, by rw [gX9_allServed, gPl_T h.1, h.1.2.1, h.1.2.2.2.1, if_pos (nI_le (by omega) (by omega)), hs]; rfl, keeps.rfl', h⟩
  | succ k ih =>
    intro i hi m f hf h hd6 hs
    obtain ⟨f, rfl⟩ : ∃ g, f = g + 1 := ⟨f - 1, by omega⟩
    have hP := h.1.pl
    obtain ⟨m1, a1, a2, a3⟩ := today_ok hT h hd6 hd
    rw [gX9_allServed, gPl_T h.1, h.1.2.1, h.1.2.2.2.1, if_neg (nI_ge (by omega) (by omega)), a1, cR_some, gEq_ok, a3.hours hT (by omega), cP_some, nI_1]
    by_cases c : (hrs T d (sd i) &&& M) = 0
    · have e : srv T d sd M (i + 1) = 0 := by rw [srv, if_pos c]
      have e2 := srv_0 e k
      rw [show i + 1 + k = tnp T by omega] at e2
      rw [if_pos c, e2]
      exact ⟨m1, rfl, a2, a3.1⟩
    · rw [if_neg c]
      obtain ⟨m', q1, q2, q3⟩ := ih (i + 1) (by omega) m1 f (by omega) a3.1 (by rw [a2.2 27 (by simp <;> omega)]; exact hd6) (by rw [srv, if_neg c]; exact hs)
      exact ⟨m', q1, a2.trans q2, q3⟩
theorem CB.serv (hT : TOK T) (h : CB T sd q m) (hd : d < 365) (hd6 : m.1 27 6 = nI d) {hh n : Nat} (hn : hh + n ≤ 24) : ∃ m', fX9_allServed m (nI hh) (nI n) = some (nI (srv T d sd ((((1 : Int32) <<< (nI n &&& 31)) - (1 : Int32)) <<< (nI hh &&& 31)) (tnp T)), m') ∧ keeps (SC T) m m' ∧ CB T sd q m' := by
  unfold fX9_allServed
  rw [nI_add, sh_mask n (by omega) hh (by omega) hn, nm_eq]
  exact CB.servG hT hd _ (tnp T) 0 (by omega) m 5000 (by have := hT.1; omega) h hd6 rfl
theorem MD.servG (hT : TOK T) (h : MD T d sd q m) (M : Int32) : ∀ (k i : Nat), i + k = tnp T → ∀ (f : Nat), k < f → gX12_areServed m f M (nI (srv T d sd M i)) (nI i) = some (nI (srv T d sd M (tnp T))) := by
  have h7 := hT.1
  intro k
  induction k with
  | zero =>
    intro i hi f hf
    obtain ⟨f, rfl⟩ : ∃ g, f = g + 1 := ⟨f - 1, by omega⟩
    have ei : i = tnp T := by omega
    subst ei
    rw [gX12_areServed, h.1.1, if_pos (nI_le (by omega) (by omega)), tz_b (srv_lt _ _ _ _ _)]
  | succ k ih =>
    intro i hi f hf
    obtain ⟨f, rfl⟩ : ∃ g, f = g + 1 := ⟨f - 1, by omega⟩
    obtain ⟨s1, s2⟩ := h.2.2.2.1 i (by omega)
    rw [gX12_areServed, h.1.1, if_neg (nI_ge (by omega) (by omega)), rd_ok (by omega) (by omega), s2, rd_ok s1 (by omega), h.2.1 _ s1, nI_1]
    by_cases c0 : srv T d sd M i = 0
    · rw [if_pos (by rw [c0]; rfl)]
      have e : srv T d sd M (i + 1) = 0 := srv_0 c0 1
      have := ih (i + 1) (by omega) f (by omega)
      rw [e] at this
      exact this
    · have c1 : srv T d sd M i = 1 := by have := srv_lt T d sd M i; omega
      rw [if_neg (by rw [c1]; decide)]
      have := ih (i + 1) (by omega) f (by omega)
      rw [srv, c1] at this
      by_cases c : (hrs T d (sd i) &&& M) = 0
      · rw [if_pos c] at this ⊢
        exact this
      · rw [if_neg c] at this ⊢
        exact this
theorem MD.serv (hT : TOK T) (h : MD T d sd q m) (h0 : 0 < tnp T) (M : Int32) : fX12_areServed m M = some (nI (srv T d sd M (tnp T))) := by
  have h7 := hT.1
  unfold fX12_areServed
  rw [h.1.1, if_neg (show ¬ nI (tnp T) ≤ (0 : Int32) from nI_ge (a := 0) h0 (by omega))]
  exact MD.servG hT h M (tnp T) 0 (by omega) 5000 (by omega)
theorem shopIn (hT : TOK T) (hd : d < 365) (h0 : 0 < tnp T) (y : Int32) (hm : MD T d sd q m) {n : Nat} (hn : n ≤ 24) : ∀ (j hh : Nat), hh + j + n = 25 → ∀ (c : Mem) (f : Nat), j < f → CB T sd q c → c.1 27 6 = nI d → (∃ r c', gX11_shop f 1 y (nI n) (nI hh) c = some (r, c') ∧ gX12_shop f 1 y (nI n) (nI hh) m = some (r, m) ∧ keeps (SC T) c c' ∧ CB T sd q c') ∨ (∃ c' f', f = f' + (j + 1) ∧ gX11_shop f 1 y (nI n) (nI hh) c = gX11_shop f' 0 y (nI (n + 1)) 0 c' ∧ gX12_shop f 1 y (nI n) (nI hh) m = gX12_shop f' 0 y (nI (n + 1)) 0 m ∧ keeps (SC T) c c' ∧ CB T sd q c') := by
  intro j
  induction j with
  | zero =>
    intro hh hj c f hf h hd6
    obtain ⟨f, rfl⟩ : ∃ g, f = g + 1 := ⟨f - 1, by omega⟩
    refine Or.inr ⟨c, f, rfl, ?_, ?_, keeps.rfl', h⟩
    · rw [gX11_shop, nI_add, if_pos (show (24 : Int32) < nI (hh + n) from nI_lt (a := 24) (by omega) (by omega)), nI_1]
    · rw [gX12_shop, nI_add, if_pos (show (24 : Int32) < nI (hh + n) from nI_lt (a := 24) (by omega) (by omega)), nI_1]
  | succ j ih =>
    intro hh hj c f hf h hd6
    obtain ⟨f, rfl⟩ : ∃ g, f = g + 1 := ⟨f - 1, by omega⟩
    have hP := h.1.pl
    obtain ⟨c1, a1, a2, a3⟩ := h.serv hT hd hd6 (show hh + n ≤ 24 by omega)
    have e1 : gX11_shop (f + 1) 1 y (nI n) (nI hh) c = (if nI (srv T d sd ((((1 : Int32) <<< (nI n &&& 31)) - (1 : Int32)) <<< (nI hh &&& 31)) (tnp T)) = 0 then gX11_shop f 1 y (nI n) (nI (hh + 1)) c1 else if y = 0 then some (nI hh, c1) else some (nI n, c1)) := by
      rw [gX11_shop, nI_add, if_neg (show ¬ (24 : Int32) < nI (hh + n) from nI_nlt (a := 24) (by omega) (by omega)), a1, cI_some, nI_1]
    have e2 : gX12_shop (f + 1) 1 y (nI n) (nI hh) m = (if nI (srv T d sd ((((1 : Int32) <<< (nI n &&& 31)) - (1 : Int32)) <<< (nI hh &&& 31)) (tnp T)) = 0 then gX12_shop f 1 y (nI n) (nI (hh + 1)) m else if y = 0 then some (nI hh, m) else some (nI n, m)) := by
      rw [gX12_shop, nI_add, if_neg (show ¬ (24 : Int32) < nI (hh + n) from nI_nlt (a := 24) (by omega) (by omega)), hm.serv hT h0, cP_some, nI_1]
    rw [e1, e2]
    by_cases c0 : nI (srv T d sd ((((1 : Int32) <<< (nI n &&& 31)) - (1 : Int32)) <<< (nI hh &&& 31)) (tnp T)) = 0
    · rw [if_pos c0, if_pos c0]
      rcases ih (hh + 1) (by omega) c1 f (by omega) a3 (by rw [a2.2 27 (by simp <;> omega)]; exact hd6) with ⟨r, c', z1, z2, z3, z4⟩ | ⟨c', f', z0, z1, z2, z3, z4⟩
      · exact Or.inl ⟨r, c', z1, z2, a2.trans z3, z4⟩
      · exact Or.inr ⟨c', f', by omega, z1, z2, a2.trans z3, z4⟩
    · rw [if_neg c0, if_neg c0]
      refine Or.inl ?_
      by_cases cy : y = 0
      · rw [if_pos cy]
        exact ⟨_, c1, rfl, by rw [if_pos cy], a2, a3⟩
      · rw [if_neg cy]
        exact ⟨_, c1, rfl, by rw [if_neg cy], a2, a3⟩
theorem shopOut (hT : TOK T) (hd : d < 365) (h0 : 0 < tnp T) (y : Int32) (hm : MD T d sd q m) : ∀ (j n : Nat), n + j = 25 → ∀ (c : Mem) (f : Nat), 30 * j < f → CB T sd q c → c.1 27 6 = nI d → ∃ r c', gX11_shop f 0 y (nI n) 0 c = some (r, c') ∧ gX12_shop f 0 y (nI n) 0 m = some (r, m) ∧ keeps (SC T) c c' ∧ CB T sd q c' := by
  intro j
  induction j with
  | zero =>
    intro n hj c f hf h hd6
    obtain ⟨f, rfl⟩ : ∃ g, f = g + 1 := ⟨f - 1, by omega⟩
    refine ⟨-1, c, ?_, ?_, keeps.rfl', h⟩
    · rw [gX11_shop, if_pos (show (24 : Int32) < nI n from nI_lt (a := 24) (by omega) (by omega))]
    · rw [gX12_shop, if_pos (show (24 : Int32) < nI n from nI_lt (a := 24) (by omega) (by omega))]
  | succ j ih =>
    intro n hj c f hf h hd6
    obtain ⟨f, rfl⟩ : ∃ g, f = g + 1 := ⟨f - 1, by omega⟩
    have hP := h.1.pl
    rw [gX11_shop, gX12_shop, if_neg (show ¬ (24 : Int32) < nI n from nI_nlt (a := 24) (by omega) (by omega)), if_neg (show ¬ (24 : Int32) < nI n from nI_nlt (a := 24) (by omega) (by omega))]
    rcases shopIn hT hd h0 y hm (n := n) (by omega) (25 - n) 0 (by omega) c f (by omega) h hd6 with ⟨r, c', z1, z2, z3, z4⟩ | ⟨c', f', z0, z1, z2, z3, z4⟩
    · exact ⟨r, c', z1, z2, z3, z4⟩
    · rw [show gX11_shop f 1 y (nI n) 0 c = _ from z1, show gX12_shop f 1 y (nI n) 0 m = _ from z2]
      obtain ⟨r, c2, y1, y2, y3, y4⟩ := ih (n + 1) (by omega) c' f' (by omega) z4 (by rw [z3.2 27 (by simp <;> omega)]; exact hd6)
      exact ⟨r, c2, y1, y2, z3.trans y3, y4⟩
theorem shop0In (y : Int32) (hm : TM T m) (h0 : tnp T = 0) {n : Nat} (hn : n ≤ 24) : ∀ (j hh : Nat), hh + j + n = 25 → ∀ (f : Nat), j < f → ∃ f', f = f' + (j + 1) ∧ gX12_shop f 1 y (nI n) (nI hh) m = gX12_shop f' 0 y (nI (n + 1)) 0 m := by
  intro j
  induction j with
  | zero =>
    intro hh hj f hf
    obtain ⟨f, rfl⟩ : ∃ g, f = g + 1 := ⟨f - 1, by omega⟩
    refine ⟨f, rfl, ?_⟩
    rw [gX12_shop, nI_add, if_pos (show (24 : Int32) < nI (hh + n) from nI_lt (a := 24) (by omega) (by omega)), nI_1]
  | succ j ih =>
    intro hh hj f hf
    obtain ⟨f, rfl⟩ : ∃ g, f = g + 1 := ⟨f - 1, by omega⟩
    obtain ⟨f', z0, z1⟩ := ih (hh + 1) (by omega) f (by omega)
    refine ⟨f', by omega, ?_⟩
    have e : ∀ M, fX12_areServed m M = some 0 := fun M => by
      unfold fX12_areServed
      rw [hm.1, h0, if_pos (by decide), gX12_areServed, hm.1, h0, if_pos (by decide), tz_0]
    rw [gX12_shop, nI_add, if_neg (show ¬ (24 : Int32) < nI (hh + n) from nI_nlt (a := 24) (by omega) (by omega)), e, cP_some, if_pos rfl, nI_1]
    exact z1
theorem shop0 (y : Int32) (hm : TM T m) (h0 : tnp T = 0) : ∀ (j n : Nat), n + j = 25 → ∀ (f : Nat), 30 * j < f → gX12_shop f 0 y (nI n) 0 m = some (-1, m) := by
  intro j
  induction j with
  | zero =>
    intro n hj f hf
    obtain ⟨f, rfl⟩ : ∃ g, f = g + 1 := ⟨f - 1, by omega⟩
    rw [gX12_shop, if_pos (show (24 : Int32) < nI n from nI_lt (a := 24) (by omega) (by omega))]
  | succ j ih =>
    intro n hj f hf
    obtain ⟨f, rfl⟩ : ∃ g, f = g + 1 := ⟨f - 1, by omega⟩
    obtain ⟨f', z0, z1⟩ := shop0In y hm h0 (n := n) (by omega) (25 - n) 0 (by omega) f (by omega)
    rw [gX12_shop, if_neg (show ¬ (24 : Int32) < nI n from nI_nlt (a := 24) (by omega) (by omega)), show gX12_shop f 1 y (nI n) 0 m = _ from z1]
    exact ih (n + 1) (by omega) f' (by omega)
end
theorem o_shop : Ob_shop Rl := by
  intro mC mM y hR
  obtain ⟨T, hX⟩ : ∃ T, RX T mC mM := id hR
  obtain ⟨sd, q, hr, dt, hQ⟩ := hX.cb
  have hT := hX.1
  have h2 := hX.2.1
  have h3 := hX.2.2.1
  have h7 := hT.1
  have h8 := hT.2.2.1
  have h10 := hT.2.1
  unfold fX11_shop fX12_shop
  rcases two_c y with ⟨e1, e2⟩ | ⟨e0, e1, e3, e2⟩ | ⟨b, hb, rfl, e0, e1, e3, e2⟩
  · rw [if_pos e1, e2, cP_some]
    exact ⟨_, _, _, rfl, by rw [if_pos rfl], hR⟩
  · rw [if_neg e0, if_pos e3, e2, cP_some]
    exact ⟨_, _, _, rfl, by rw [if_pos rfl], hR⟩
  obtain ⟨m1, b1, b2, b3, b4⟩ := hX.load hQ dt
  rw [if_neg e0, if_neg e3, e2, cP_some, if_neg i10, gPl_T h2, h2.2.1, h2.2.2.2.1, (rd_now _ _).2.2, hQ.md, b1, cV_some]
  by_cases c0 : tnp T = 0
  · rw [if_pos (by rw [c0]; rfl), show gX12_shop 5000 0 (nI b) 1 0 m1 = _ from shop0 (nI b) b3.1 c0 24 1 (by omega) 5000 (by omega)]
    exact ⟨_, _, _, rfl, rfl, hX.done keeps.rfl' hX.2.2.2.2.2.1 b2⟩
  · rw [if_neg (fun z => c0 ((nI_eq0 (by omega)).mp z))]
    obtain ⟨r, c', z1, z2, z3, z4⟩ := shopOut hT hQ.dlt (by omega) (nI b) b3 24 1 (by omega) mC 5000 (by omega) hQ.cb hQ.cd
    exact ⟨r, c', m1, z1, z2, hX.done z3 z4.2.2.1 b2⟩
