/-! ===== how each comes to rest ===== -/
def setF (t : Nat → Nat) (p s : Nat) : Nat → Nat := fun o => if o = p then s else t o
theorem setF_at (t : Nat → Nat) (p s : Nat) : setF t p s p = s := if_pos rfl
theorem setF_ne {t : Nat → Nat} {p s o : Nat} (h : o ≠ p) : setF t p s o = t o := if_neg h
theorem setF_same (t : Nat → Nat) (p : Nat) : setF t p (t p) = t := by
  funext o
  by_cases c : o = p
  · rw [c, setF_at]
  · rw [setF_ne c]
theorem setF_twice (t : Nat → Nat) (p a b : Nat) : setF (setF t p a) p b = setF t p b := by
  funext o
  by_cases c : o = p
  · rw [c, setF_at, setF_at]
  · rw [setF_ne c, setF_ne c, setF_ne c]
section
variable {T : Tn} {d : Nat} {sd : Nat → Nat} {q : Nat}
theorem joyG (hT : TOK T) {c : Mem} {t : Nat → Nat} {p s : Nat} (hp : p < tnp T) (hs : s < 3) (h58 : c.1 58 0 = nI (tnp T)) (ht : ∀ o, o < tnp T → t o < 3 ∧ c.1 73 o = nI (t o)) : ∀ (k i : Nat), i + k = tnp T → ∀ f, k < f → gX1_joyWith c f (nI p) (nI s) (zs (fun o => if o = p then 0 else c.1 60 ((p * 3 + setF t p s p) * 21 + (o * 3 + setF t p s o))) i) (nI i) = some (psi p (setF t p s) (c.1 60) (tnp T)) := by
  have h7 := hT.1
  intro k
  induction k with
  | zero =>
    intro i hi f hf
    obtain ⟨f, rfl⟩ : ∃ g, f = g + 1 := ⟨f - 1, by omega⟩
    have ei : i = tnp T := by omega
    subst ei
    rw [gX1_joyWith, h58, if_pos (nI_le (by omega) (by omega))]
    rfl
  | succ k ih =>
    intro i hi f hf
    obtain ⟨f, rfl⟩ : ∃ g, f = g + 1 := ⟨f - 1, by omega⟩
    have hstep := ih (i + 1) (by omega) f (by omega)
    rw [zs] at hstep
    obtain ⟨t1, t2⟩ := ht i (by omega)
    rw [gX1_joyWith, h58, if_neg (nI_ge (by omega) (by omega)), nI_1]
    by_cases c0 : i = p
    · rw [if_pos c0, i_az] at hstep
      rw [if_pos (by rw [c0])]
      exact hstep
    · rw [if_neg c0, show (p * 3 + setF t p s p) * 21 + (i * 3 + setF t p s i) = (p * 3 + s) * 21 + (i * 3 + t i) by rw [setF_at, setF_ne c0]] at hstep
      rw [if_neg (fun z => c0 ((nI_eq (by omega) (by omega)).mp z)), place_ok, cP_some, rd_ok (by omega) (by omega), t2, place_ok, cP_some, i_idx, rd_ok (by omega) (by omega), nm_eq]
      exact hstep
theorem c_joy (hT : TOK T) {c : Mem} (h : CC T d sd q c) {t : Nat → Nat} {p s : Nat} (hp : p < tnp T) (hs : s < 3) (ht : ∀ o, o < tnp T → t o < 3 ∧ c.1 73 o = nI (t o)) : fX1_joyWith c (nI p) (nI s) = some (joI T d (setF t p s) q p) := by
  have h7 := hT.1
  have := joyG hT hp hs h.2.1 ht (tnp T) 0 (by omega) 5000 (by omega)
  rw [(h.2.2.2 (setF t p s) (fun o ho => by
    by_cases c0 : o = p
    · rw [c0, setF_at]; exact hs
    · rw [setF_ne c0]; exact (ht o ho).1)).2 p hp] at this
  exact this
theorem MD.set {m : Mem} (hT : TOK T) {t : Nat → Nat} {p s : Nat} (hp : p < tnp T) (hs : s < 3) (h : MD T d t q m) : MD T d (setF t p s) q (sI m 34 p (nI s)) := by
  have h7 := hT.1
  have kp : keeps [34] m (sI m 34 p (nI s)) := keeps.rfl'.sI (by simp)
  refine ⟨h.1.kp kp (by simp <;> omega), by rw [kp.2 35 (by simp)]; exact h.2.1, by rw [kp.2 36 (by simp)]; exact h.2.2.1, fun o ho => ?_, by rw [sI_row, upd_ne (by omega)]; exact h.2.2.2.2⟩
  by_cases c : o = p
  · rw [c, setF_at, sI_row, upd_at]; exact ⟨hs, rfl⟩
  · rw [setF_ne c, sI_row, upd_ne c]; exact h.2.2.2.1 o ho
/-- one person's turn: both find the same side -/
theorem sideG2 (hT : TOK T) (hq : q < 128) {c : Mem} (hc : CC T d sd q c) {t : Nat → Nat} {p : Nat} (hp : p < tnp T) (ht : ∀ o, o < tnp T → t o < 3 ∧ c.1 73 o = nI (t o)) (x2 : Int32) : ∀ (k s : Nat), s + k = 3 → ∀ (f g b a : Nat) (m : Mem), k < f → k < g → b < 3 → a < 3 → MD T d (setF t p a) q m → ∃ f' b' m', f = f' + k ∧ b' < 3 ∧ gX1_goRound f 1 x2 (nI p) (nI b) (nI s) c = gX1_goRound f' 1 x2 (nI p) (nI b') (nI 3) c ∧ gX12_bestSide g (nI p) (nI (t p)) (nI b) (joI T d (setF t p b) q p) (nI s) m = some (nI b', m') ∧ keeps [34] m m' ∧ MD T d t q m' := by
  have h7 := hT.1
  have htp := (ht p hp).1
  intro k
  induction k with
  | zero =>
    intro s hs f g b a m hf hg hb ha hm
    obtain ⟨g, rfl⟩ : ∃ h, g = h + 1 := ⟨g - 1, by omega⟩
    have es : s = 3 := by omega
    subst es
    refine ⟨f, b, sI m 34 p (nI (t p)), rfl, hb, rfl, ?_, keeps.rfl'.sI (by simp), ?_⟩
    · rw [gX12_bestSide, if_pos (by decide), wr_ok (by omega) (by omega)]
    · have := hm.set hT hp htp
      rw [setF_twice, setF_same] at this
      exact this
  | succ k ih =>
    intro s hs f g b a m hf hg hb ha hm
    obtain ⟨f, rfl⟩ : ∃ h, f = h + 1 := ⟨f - 1, by omega⟩
    obtain ⟨g, rfl⟩ : ∃ h, g = h + 1 := ⟨g - 1, by omega⟩
    have hm1 : MD T d (setF t p s) q (sI m 34 p (nI s)) := by
      have := hm.set hT hp (show s < 3 by omega)
      rw [setF_twice] at this
      exact this
    rw [gX1_goRound, gX12_bestSide, if_neg (show ¬ (3 : Int32) ≤ nI s from nI_ge (b := 3) (by omega) (by omega)), if_neg (show ¬ (3 : Int32) ≤ nI s from nI_ge (b := 3) (by omega) (by omega)), c_joy hT hc hp (by omega) ht, cP_some, c_joy hT hc hp hb ht, cP_some, wr_ok (by omega) (by omega), hm1.joy hT hq hp, cP_some, cP_some, nI_1]
    by_cases c0 : joI T d (setF t p b) q p < joI T d (setF t p s) q p
    · rw [if_neg (fa_of_lt c0).2.1, if_pos c0]
      obtain ⟨f', b', m', z0, z1, z2, z3, z4, z5⟩ := ih (s + 1) (by omega) f g s s _ (by omega) (by omega) (by omega) (by omega) hm1
      exact ⟨f', b', m', by omega, z1, z2, z3, (keeps.rfl'.sI (by simp)).trans z4, z5⟩
    · rw [if_pos (fa_of_nlt c0), if_neg c0]
      obtain ⟨f', b', m', z0, z1, z2, z3, z4, z5⟩ := ih (s + 1) (by omega) f g b s _ (by omega) (by omega) hb (by omega) hm1
      exact ⟨f', b', m', by omega, z1, z2, z3, (keeps.rfl'.sI (by simp)).trans z4, z5⟩
/-- a round: both come to the same sides, and know alike whether one changed -/
theorem roundG (hT : TOK T) (hq : q < 128) (x1 : Int32) : ∀ (k p : Nat), p + k = tnp T → ∀ (c m : Mem) (f g : Nat) (t : Nat → Nat) (b : Nat), 10 * k < f → k < g → CC T d sd q c → MD T d t q m → (∀ o, o < tnp T → t o < 3 ∧ c.1 73 o = nI (t o)) → b < 2 → ∃ r t' c' m' g', g = g' + (k + 1) ∧ gX1_goRound f 0 (nI b) (nI p) 0 0 c = some (nI r, c') ∧ r < 2 ∧ gX12_rest g 1 x1 (nI b) (nI p) m = (if nI r = 0 then (cV (fX12_putSides m') fun m4 => (some (x1, m4))) else (gX12_rest g' 0 (x1 + (1 : Int32)) 0 0 m')) ∧ keeps [73] c c' ∧ keeps [34] m m' ∧ CC T d sd q c' ∧ MD T d t' q m' ∧ ∀ o, o < tnp T → t' o < 3 ∧ c'.1 73 o = nI (t' o) := by
  have h7 := hT.1
  intro k
  induction k with
  | zero =>
    intro p hp c m f g t b hf hg hc hm ht hb
    obtain ⟨f, rfl⟩ : ∃ h, f = h + 1 := ⟨f - 1, by omega⟩
    obtain ⟨g, rfl⟩ : ∃ h, g = h + 1 := ⟨g - 1, by omega⟩
    refine ⟨b, t, c, m, g, rfl, ?_, hb, ?_, keeps.rfl', keeps.rfl', hc, hm, ht⟩
    · rw [gX1_goRound, hc.2.1, if_pos (nI_le (by omega) (by omega)), tz_b hb]
    · rw [gX12_rest, hm.1.1, if_pos (nI_le (by omega) (by omega))]
  | succ k ih =>
    intro p hp c m f g t b hf hg hc hm ht hb
    obtain ⟨f, rfl⟩ : ∃ h, f = h + 1 := ⟨f - 1, by omega⟩
    obtain ⟨g, rfl⟩ : ∃ h, g = h + 1 := ⟨g - 1, by omega⟩
    have hpn : p < tnp T := by omega
    obtain ⟨t1, t2⟩ := ht p hpn
    obtain ⟨f1, b', m1, z0, z1, z2, z3, z4, z5⟩ := sideG2 hT hq hc hpn ht (nI b) 3 0 (by omega) f 5000 (t p) (t p) m (by omega) (by omega) t1 t1 (by rw [setF_same]; exact hm)
    rw [setF_same] at z3
    have hbs : fX12_bestSide m (nI p) = some (nI b', m1) := by
      unfold fX12_bestSide
      rw [rd_ok (by omega) (by omega), (hm.2.2.2.1 p hpn).2, hm.joy hT hq hpn, cP_some]
      exact z3
    obtain ⟨f1, rfl⟩ : ∃ h, f1 = h + 1 := ⟨f1 - 1, by omega⟩
    rw [gX1_goRound, gX12_rest, hc.2.1, hm.1.1, if_neg (nI_ge (by omega) (by omega)), if_neg (nI_ge (by omega) (by omega)), rd_ok (by omega) (by omega), t2, show gX1_goRound f 1 (nI b) (nI p) (nI (t p)) 0 c = _ from z2, hbs, cI_some, gX1_goRound, if_pos (by decide), rd_ok (by omega) (by omega), t2, rd_ok (by omega) (by omega), (z5.2.2.2.1 p hpn).2, nm_eq, nm_eq, nI_1]
    simp only [show ∀ (K : Mem → Option (Int32 × Mem)), wr c 73 7 (nI p) (nI b') K = K (sI c 73 p (nI b')) from fun K => wr_ok (by omega) (by omega), show ∀ (K : Mem → Option (Int32 × Mem)), wr m1 34 37 (nI p) (nI b') K = K (sI m1 34 p (nI b')) from fun K => wr_ok (by omega) (by omega)]
    have kc : keeps [73] c (sI c 73 p (nI b')) := keeps.rfl'.sI (by simp)
    have km : keeps [34] m (sI m1 34 p (nI b')) := z4.sI (by simp)
    have hset : ∀ o, o < tnp T → setF t p b' o < 3 ∧ (sI c 73 p (nI b')).1 73 o = nI (setF t p b' o) := fun o ho => by
      by_cases y : o = p
      · rw [y, setF_at, sI_row, upd_at]; exact ⟨z1, rfl⟩
      · rw [setF_ne y, sI_row, upd_ne y]; exact ht o ho
    have step : ∀ e, e < 2 → ∃ r t' c' m' g', g + 1 = g' + (k + 1 + 1) ∧ gX1_goRound f1 0 (nI e) (nI (p + 1)) 0 0 (sI c 73 p (nI b')) = some (nI r, c') ∧ r < 2 ∧ gX12_rest g 1 x1 (nI e) (nI (p + 1)) (sI m1 34 p (nI b')) = (if nI r = 0 then (cV (fX12_putSides m') fun m4 => (some (x1, m4))) else (gX12_rest g' 0 (x1 + (1 : Int32)) 0 0 m')) ∧ keeps [73] c c' ∧ keeps [34] m m' ∧ CC T d sd q c' ∧ MD T d t' q m' ∧ ∀ o, o < tnp T → t' o < 3 ∧ c'.1 73 o = nI (t' o) := fun e he => by
      obtain ⟨r, t', c', m', g', w0, w1, w2, w3, w4, w5, w6, w7, w8⟩ := ih (p + 1) (by omega) (sI c 73 p (nI b')) (sI m1 34 p (nI b')) f1 g (setF t p b') e (by omega) (by omega) (hc.kp (kc.mono (by simp))) (z5.set hT hpn z1) hset he
      exact ⟨r, t', c', m', g', by omega, w1, w2, w3, kc.trans w4, km.trans w5, w6, w7, w8⟩
    by_cases c0 : b' = t p
    · rw [if_pos (show nI b' = nI (t p) by rw [c0]), if_pos (show nI b' = nI (t p) by rw [c0]), or_z]
      rcases (show b = 0 ∨ b = 1 by omega) with rfl | rfl
      · rw [if_pos (show nI 0 = 0 from rfl)]
        exact step 0 (by omega)
      · rw [if_neg (show ¬ nI 1 = 0 by decide)]
        exact step 1 (by omega)
    · have n0 : ¬ nI b' = nI (t p) := fun z => c0 ((nI_eq (by omega) (by omega)).mp z)
      rw [if_neg n0, if_neg n0]
      rcases (show b = 0 ∨ b = 1 by omega) with rfl | rfl
      · rw [if_pos (show nI 0 = 0 from rfl), show nI 0 ||| (1 : Int32) = nI 1 by decide]
        exact step 1 (by omega)
      · rw [if_neg (show ¬ nI 1 = 0 by decide), show nI 1 ||| (1 : Int32) = nI 1 by decide]
        exact step 1 (by omega)
theorem restG (hT : TOK T) (hq : q < 128) : ∀ (k n : Nat), n + k = 21 → ∀ (c m : Mem) (f g : Nat) (t : Nat → Nat), k < f → 10 * k + 1 < g → CC T d sd q c → MD T d t q m → m.1 0 63 = 0 → (∀ o, o < tnp T → t o < 3 ∧ c.1 73 o = nI (t o)) → ∃ r l c' m', gX1_comeToRest f (nI n) c = some (r, c') ∧ gX12_rest g 0 (nI n) 0 0 m = some (r, m') ∧ ((r = -1 ∧ l = 0) ∨ (¬ r = -1 ∧ l = tnp T)) ∧ keeps [73] c c' ∧ CC T d sd q c' ∧ m'.2 = m.2 ∧ (∀ r, r ∉ [0, 34, 38] → m'.1 r = m.1 r) ∧ (∀ s, s ≠ 63 → m'.1 0 s = m.1 0 s) ∧ m'.1 0 63 = nI l ∧ ∀ j, j < l → c'.1 73 j = m'.1 38 j := by
  have h7 := hT.1
  intro k
  induction k with
  | zero =>
    intro n hn c m f g t hf hg hc hm h63 ht
    obtain ⟨f, rfl⟩ : ∃ h, f = h + 1 := ⟨f - 1, by omega⟩
    obtain ⟨g, rfl⟩ : ∃ h, g = h + 1 := ⟨g - 1, by omega⟩
    have en : n = 21 := by omega
    subst en
    exact ⟨-1, 0, c, m, by rw [gX1_comeToRest, if_pos (by decide)], by rw [gX12_rest, if_pos (by decide)], Or.inl ⟨rfl, rfl⟩, keeps.rfl', hc, rfl, fun _ _ => rfl, fun _ _ => rfl, h63, fun j hj => by omega⟩
  | succ k ih =>
    intro n hn c m f g t hf hg hc hm h63 ht
    obtain ⟨f, rfl⟩ : ∃ h, f = h + 1 := ⟨f - 1, by omega⟩
    obtain ⟨g, rfl⟩ : ∃ h, g = h + 1 := ⟨g - 1, by omega⟩
    obtain ⟨r, t', c1, m1, g1, w0, w1, w2, w3, w4, w5, w6, w7, w8⟩ := roundG hT hq (nI n) (tnp T) 0 (by omega) c m 5000 g t 0 (by omega) (by omega) hc hm ht (by omega)
    rw [gX1_comeToRest, gX12_rest, if_neg (show ¬ (20 : Int32) < nI n from nI_nlt (a := 20) (by omega) (by omega)), if_neg (show ¬ (20 : Int32) < nI n from nI_nlt (a := 20) (by omega) (by omega)), show fX1_goRound c = _ from w1, cI_some, show gX12_rest g 1 (nI n) 0 0 m = _ from w3, nI_1]
    rcases (show r = 0 ∨ r = 1 by omega) with rfl | rfl
    · rw [if_pos (show nI 0 = 0 from rfl), if_pos (show nI 0 = 0 from rfl)]
      obtain ⟨m', b1, b2, b3, b4, b5, b6⟩ := put_ok hT w7
      refine ⟨nI n, tnp T, c1, m', rfl, by rw [b1, cV_some], Or.inr ⟨fun z => nI_lt0 (k := n) (by omega) (by rw [z]; decide), rfl⟩, w4, w6, by rw [b2, w5.1], fun r hr => ?_, fun s hs => by rw [b4 s hs, w5.2 0 (by simp)], b5, fun j hj => by rw [(w8 j hj).2, b6 j hj]⟩
      simp only [List.mem_cons, List.not_mem_nil, or_false, not_or] at hr
      rw [b3 r hr.1 hr.2.2]
      exact w5.2 r (by simp; omega)
    · rw [if_neg (show ¬ nI 1 = 0 by decide), if_neg (show ¬ nI 1 = 0 by decide)]
      obtain ⟨r', l, c', m', y1, y2, y3, y4, y5, y6, y7, y8, y9, y10⟩ := ih (n + 1) (by omega) c1 m1 f g1 t' (by omega) (by omega) w6 w7 (by rw [w5.2 0 (by simp)]; exact h63) w8
      refine ⟨r', l, c', m', y1, y2, y3, w4.trans y4, y5, by rw [y6, w5.1], fun r hr => ?_, fun s hs => by rw [y8 s hs, w5.2 0 (by simp)], y9, y10⟩
      rw [y7 r hr]
      simp only [List.mem_cons, List.not_mem_nil, or_false, not_or] at hr
      exact w5.2 r (by simp; omega)
end
theorem o_rest : Ob_rest Rl := by
  intro mC mM hR
  obtain ⟨T, hX⟩ : ∃ T, RX T mC mM := id hR
  obtain ⟨sd, q, hr, dt, hQ⟩ := hX.cb
  have hT := hX.1
  have h7 := hT.1
  have hP := hX.2.1.pl
  have hW := hX.2.2.2.2.2.2.2.2.2.2.2.2.2
  obtain ⟨c1, a1, a2, a3, a4, a5, a6⟩ := c_weigh hT hQ.cb hQ.cd hQ.dlt
  have k0 : keeps [0] mM (sI mM 0 63 0) := keeps.rfl'.sI (by simp)
  have hTM : TM T (sI mM 0 63 0) := hX.2.2.1.keep (fun k hk => by rw [sI_row, upd_ne (by omega)]) (fun r hr => sI_oth (by omega))
  obtain ⟨m1, b1, b2, b3, b4⟩ := m_loadDate hT hTM (hX.2.2.2.2.1.kp k0 (by simp)) dt (sd := sd) (q := q) (fun p hp => by rw [sI_oth (by omega)]; exact hQ.side p hp) (by rw [sI_oth (by omega)]; exact hQ.quiet)
  have e63 : c1.1 63 0 = 0 := by rw [a2.2 63 (by simp <;> omega)]; exact hW.2.1
  have e64 : c1.1 64 0 = 0 := by rw [a2.2 64 (by simp <;> omega)]; exact hW.2.2
  have k2 : keeps [73] c1 (sW c1 73 (va_cpy (c1.1 59) (c1.1 73) 0 0 (tnp T))) := keeps.rfl'.sW (by simp)
  have hCC : CC T dt sd q (sW c1 73 (va_cpy (c1.1 59) (c1.1 73) 0 0 (tnp T))) := CC.kp ⟨a3, a4, a5, a6⟩ (k2.mono (by simp))
  obtain ⟨r, l, c2, m2, z1, z2, z3, z4, z5, z6, z7, z8, z9, z10⟩ := restG hT hQ.q128 21 0 (by omega) _ m1 5000 5000 sd (by omega) (by omega) hCC b3 (by rw [b2.2 0 (by simp), sI_row, upd_at]) (fun o ho => ⟨(hQ.side o ho).1, by
    rw [sW_row]
    unfold va_cpy
    rw [if_pos (by omega), Nat.zero_add, Nat.sub_zero]
    exact a5 o ho⟩)
  have k1 : keeps [73] c1 c2 := k2.trans z4
  have hm33 : (sI mM 0 63 0).1 33 = mM.1 33 := sI_oth (by omega)
  have hend : ∀ c', c' = sI c2 0 9 (nI l) → Rl c' m2 := by
    intro c' hc'
    subst hc'
    refine hX.lain (n := l) (by omega) ?_ ?_ ?_ ?_ ?_ ?_ ?_ ?_ ?_ ?_ z9 ?_
    · rw [sI_2, k1.1, a2.1]
    · intro r hr
      simp only [List.mem_cons, List.not_mem_nil, or_false, not_or] at hr
      rw [sI_oth (by omega), k1.2 r (by simp; omega), a2.2 r (by simp; omega)]
    · intro s hs
      rw [sI_row, upd_ne hs, k1.2 0 (by simp), a2.2 0 (by simp <;> omega)]
    · rw [sI_oth (by omega), k1.2 63 (by simp)]; exact e63
    · rw [sI_oth (by omega), k1.2 64 (by simp)]; exact e64
    · exact z5.1.1.2.2.1.keep (fun r hr => sI_oth (by omega))
    · rw [z6, b2.1]; rfl
    · intro r hr
      simp only [List.mem_cons, List.not_mem_nil, or_false, not_or] at hr
      rw [z7 r (by simp; omega), b2.2 r (by simp; omega), sI_oth (by omega)]
    · intro s hs
      rw [z8 s hs, b2.2 0 (by simp), sI_row, upd_ne hs]
    · rw [sI_row, upd_at]
    · intro j hj
      rw [sI_oth (by omega)]
      exact z10 j hj
  unfold fX11_rest fX12_rest fX1_comeToRest
  rw [a1, cV_some, a4, show ∀ (K : Mem → Option (Int32 × Mem)), cpy c1 59 7 73 7 (0 : Int32) (0 : Int32) (nI (tnp T)) K = K (sW c1 73 (va_cpy (c1.1 59) (c1.1 73) 0 0 (tnp T))) from fun K => cpy_ok (sp := 0) (dp := 0) (by omega) (by omega) (by omega) (by omega), show gX1_comeToRest 5000 0 (sW c1 73 (va_cpy (c1.1 59) (c1.1 73) 0 0 (tnp T))) = _ from z1, cI_some, pt_eq (sI mM 0 63 0), (rd_now _ _).2.2, hm33, hQ.md, b1, cV_some, show gX12_rest 5000 0 0 0 0 m1 = _ from z2]
  rcases z3 with ⟨rfl, rfl⟩ | ⟨y, rfl⟩
  · rw [if_pos rfl, pt_eq]
    exact ⟨_, _, _, rfl, rfl, hend _ rfl⟩
  · rw [if_neg y, gPl_T z5.1.1.1, z5.1.1.1.2.1, z5.1.1.1.2.2.2.1, pt_eq]
    exact ⟨_, _, _, rfl, rfl, hend _ rfl⟩
