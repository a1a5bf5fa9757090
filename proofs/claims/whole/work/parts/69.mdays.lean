/-! ===== the reference's days ===== -/
def hin (h e : Nat) : Bool := decide (apN h e ≤ 2 ∨ 22 ≤ apN h e)
def hpc (a b s h : Nat) : Bool := if s = 0 then decide (a ≤ h ∧ h < b) else if s = 1 then decide (¬ (a ≤ h ∧ h < b)) else hin h a || hin h b
def hp (a b s : Nat) : Nat → Nat
  | 0 => 0
  | h + 1 => if hpc a b s h then hp a b s h ||| 2 ^ h else hp a b s h
theorem m_hinge : ∀ h, h < 24 → ∀ e, e < 24 → fX12_isHinge (nI h) (nI e) = some (if hin h e then 1 else 0) := by decide +kernel
theorem sh_pow : ∀ h, h < 31 → (1 : Int32) <<< (nI h &&& 31) = nI (2 ^ h) := by decide +kernel
theorem hp_end : ∀ a, a < 12 → ∀ b, b < 24 → 12 ≤ b → ∀ s, s < 3 → hp a b s 24 = hrsN a b s := by decide +kernel
theorem m_lay1 {x1 : Int32} {a b : Nat} (ha : a < 12) (hb : 12 ≤ b) (hb2 : b < 24) : ∀ (k h : Nat), h + k = 24 → ∀ (m : Mem) (f : Nat), k < f → (∀ s, s < 3 → m.1 35 s = nI (hp a b s h)) → ∃ m' f', f = f' + (k + 1) ∧ gX12_layDate f 1 x1 (nI a) (nI b) (nI h) 0 m = gX12_layDate f' 2 x1 0 0 0 0 m' ∧ keeps [35] m m' ∧ ∀ s, s < 3 → m'.1 35 s = nI (hp a b s 24) := by
  intro k
  induction k with
  | zero =>
    intro h hh m f hf hr
    obtain ⟨f, rfl⟩ : ∃ g, f = g + 1 := ⟨f - 1, by omega⟩
    have : h = 24 := by omega
    subst this
    exact ⟨m, f, rfl, by rw [gX12_layDate, if_pos (show (24 : Int32) ≤ nI 24 from nI_le (a := 24) (by omega) (by omega))], keeps.rfl', hr⟩
  | succ k ih =>
    intro h hh m f hf hr
    obtain ⟨f, rfl⟩ : ∃ g, f = g + 1 := ⟨f - 1, by omega⟩
    have next : ∀ m2, keeps [35] m m2 → (∀ s, s < 3 → m2.1 35 s = nI (hp a b s (h + 1))) → ∃ m' f', f + 1 = f' + (k + 1 + 1) ∧ gX12_layDate f 1 x1 (nI a) (nI b) (nI h + 1) 0 m2 = gX12_layDate f' 2 x1 0 0 0 0 m' ∧ keeps [35] m m' ∧ ∀ s, s < 3 → m'.1 35 s = nI (hp a b s 24) := by
      intro m2 q1 q2
      obtain ⟨m', f', e1, e2, e3, e4⟩ := ih (h + 1) (by omega) m2 f (by omega) q2
      exact ⟨m', f', by omega, by rw [nI_1]; exact e2, q1.trans e3, e4⟩
    have r0 := hr 0 (by omega)
    have r1 := hr 1 (by omega)
    have r2 := hr 2 (by omega)
    have or1 : ∀ s, nI (hp a b s h) ||| nI (2 ^ h) = nI (hp a b s h ||| 2 ^ h) := fun s => fa_or _ _
    -- one side's row is written, then perhaps the hinge's
    have two : ∀ s1, s1 < 2 → hpc a b s1 h = true → hpc a b (1 - s1) h = false → ∃ m' f', f + 1 = f' + (k + 1 + 1) ∧ (cP (fX12_isHinge (nI h) (nI a)) fun r5 => (if r5 = 0 then (cP (fX12_isHinge (nI h) (nI b)) fun r10 => (if r10 = 0 then (gX12_layDate f 1 x1 (nI a) (nI b) (nI h + (1 : Int32)) 0 (sI m 35 s1 (nI (hp a b s1 h ||| 2 ^ h)))) else (rd ((sI m 35 s1 (nI (hp a b s1 h ||| 2 ^ h))).1 35) 3 (2 : Int32) fun v13 => (wr (sI m 35 s1 (nI (hp a b s1 h ||| 2 ^ h))) 35 3 (2 : Int32) (v13 ||| nI (2 ^ h)) fun m14 => (gX12_layDate f 1 x1 (nI a) (nI b) (nI h + (1 : Int32)) 0 m14))))) else (rd ((sI m 35 s1 (nI (hp a b s1 h ||| 2 ^ h))).1 35) 3 (2 : Int32) fun v8 => (wr (sI m 35 s1 (nI (hp a b s1 h ||| 2 ^ h))) 35 3 (2 : Int32) (v8 ||| nI (2 ^ h)) fun m9 => (gX12_layDate f 1 x1 (nI a) (nI b) (nI h + (1 : Int32)) 0 m9))))) = gX12_layDate f' 2 x1 0 0 0 0 m' ∧ keeps [35] m m' ∧ ∀ s, s < 3 → m'.1 35 s = nI (hp a b s 24) := by
      intro s1 hs1 p1 p2
      have kp : keeps [35] m (sI m 35 s1 (nI (hp a b s1 h ||| 2 ^ h))) := keeps.rfl'.sI (by simp)
      have w0 : ∀ s, s < 2 → upd (m.1 35) s1 (nI (hp a b s1 h ||| 2 ^ h)) s = nI (hp a b s (h + 1)) := by
        intro s hs
        by_cases e : s = s1
        · subst e; rw [upd_at, hp, if_pos p1]
        · have : s = 1 - s1 := by omega
          subst this
          rw [upd_ne e, hp, if_neg (by rw [p2]; decide)]
          exact hr _ (by omega)
      have w2 : upd (m.1 35) s1 (nI (hp a b s1 h ||| 2 ^ h)) 2 = nI (hp a b 2 h) := by rw [upd_ne (by omega)]; exact r2
      have yes : (hin h a || hin h b) = true → ∀ s, s < 3 → (sI (sI m 35 s1 (nI (hp a b s1 h ||| 2 ^ h))) 35 2 (nI (hp a b 2 h ||| 2 ^ h))).1 35 s = nI (hp a b s (h + 1)) := by
        intro hh2 s hs
        rw [sI_row, sI_row]
        by_cases e : s = 2
        · subst e; rw [upd_at, hp, if_pos (show hpc a b 2 h = true from hh2)]
        · rw [upd_ne e]; exact w0 s (by omega)
      rw [m_hinge h (by omega) a (by omega), m_hinge h (by omega) b (by omega), cP_some]
      by_cases ca : hin h a = true
      · rw [if_pos ca, if_neg (by decide), rd_2 (by omega) (by omega), sI_row, w2, or1, wr_2 (by omega) (by omega)]
        exact next _ (kp.sI (by simp)) (yes (by rw [ca]; rfl))
      · rw [if_neg ca, if_pos rfl, cP_some]
        by_cases cb : hin h b = true
        · rw [if_pos cb, if_neg (by decide), rd_2 (by omega) (by omega), sI_row, w2, or1, wr_2 (by omega) (by omega)]
          exact next _ (kp.sI (by simp)) (yes (by rw [cb, Bool.or_true]))
        · rw [if_neg cb, if_pos rfl]
          refine next _ kp (fun s hs => ?_)
          rw [sI_row]
          by_cases e : s = 2
          · subst e; rw [w2, hp, if_neg (by show ¬ (hin h a || hin h b) = true; simp [ca, cb])]
          · exact w0 s (by omega)
    rw [gX12_layDate, if_neg (show ¬ (24 : Int32) ≤ nI h from nI_ge (b := 24) (by omega) (by omega)), sh_pow h (by omega)]
    by_cases c1 : h < a
    · rw [if_pos (nI_lt c1 (by omega)), rd_1 (by omega) (by omega), r1, or1, wr_1 (by omega) (by omega)]
      exact two 1 (by omega) (by simp [hpc]; omega) (by simp [hpc]; omega)
    · rw [if_neg (nI_nlt (by omega) (by omega))]
      by_cases c2 : b ≤ h
      · rw [if_pos (nI_le c2 (by omega)), rd_1 (by omega) (by omega), r1, or1, wr_1 (by omega) (by omega)]
        exact two 1 (by omega) (by simp [hpc]; omega) (by simp [hpc]; omega)
      · rw [if_neg (nI_ge (by omega) (by omega)), rd_z (by omega) (by omega), r0, or1, wr_z (by omega) (by omega)]
        exact two 0 (by omega) (by simp [hpc]; omega) (by simp [hpc]; omega)
theorem m_ask (m : Mem) (a b c d : Int32) : ∃ m', fX12_askOf m a b c d = some m' ∧ keeps [13] m m' ∧ m'.1 13 0 = a ∧ m'.1 13 1 = b ∧ m'.1 13 2 = c ∧ m'.1 13 3 = d := by
  unfold fX12_askOf
  rw [wr_z (by omega) (by omega), wr_1 (by omega) (by omega), wr_2 (by omega) (by omega), wr_3 (by omega) (by omega)]
  refine ⟨_, rfl, ((((keeps.rfl'.sI (by simp)).sI (by simp)).sI (by simp)).sI (by simp)), ?_, ?_, ?_, ?_⟩ <;> simp only [sI_row]
  · rw [upd_ne (by omega), upd_ne (by omega), upd_ne (by omega), upd_at]
  · rw [upd_ne (by omega), upd_ne (by omega), upd_at]
  · rw [upd_ne (by omega), upd_at]
  · rw [upd_at]
theorem FM.kp {T : Tn} {m m' : Mem} {R : List Nat} (h : FM T m) (hk : keeps R m m') (hR : 6 ∉ R ∧ 7 ∉ R ∧ 8 ∉ R ∧ 12 ∉ R) : FM T m' := h.keep (fun r hr => hk.2 r (by rcases hr with rfl | rfl | rfl | rfl; exact hR.1; exact hR.2.1; exact hR.2.2.1; exact hR.2.2.2))
theorem m_dawn {T : Tn} {m : Mem} (hT : TOK T) (h : FM T m) (d : Nat) : ∃ m', fX12_dawnOf m (nI d) = some (nI (dwn T d), m') ∧ keeps [10, 13] m m' := by
  obtain ⟨m1, a1, a2, a3, a4, a5, a6⟩ := m_ask m (nI d) 0 0 0
  obtain ⟨m2, b1, b2⟩ := m_work (m := m1) hT (h.kp a2 (by simp)) (w := 0) (by omega) (lo := 0) (up := 11) (by omega) (by omega) 6
  rw [a3, a4, a5, a6] at b1
  refine ⟨m2, ?_, (a2.mono (by simp)).trans (b2.mono (by simp))⟩
  unfold fX12_dawnOf
  rw [a1, cV_some, show fX12_worked m1 0 6 0 11 = _ from b1, cI_some]
  rfl
theorem m_dusk {T : Tn} {m : Mem} (hT : TOK T) (h : FM T m) (d : Nat) : ∃ m', fX12_duskOf m (nI d) = some (nI (dsk T d), m') ∧ keeps [10, 13] m m' := by
  obtain ⟨m1, a1, a2, a3, a4, a5, a6⟩ := m_ask m (nI d) 0 0 0
  obtain ⟨m2, b1, b2⟩ := m_work (m := m1) hT (h.kp a2 (by simp)) (w := 1) (by omega) (lo := 12) (up := 23) (by omega) (by omega) 18
  rw [a3, a4, a5, a6] at b1
  refine ⟨m2, ?_, (a2.mono (by simp)).trans (b2.mono (by simp))⟩
  unfold fX12_duskOf
  rw [a1, cV_some, show fX12_worked m1 1 18 12 23 = _ from b1, cI_some]
  rfl
theorem TM.kp {T : Tn} {m m' : Mem} {R : List Nat} (h : TM T m) (hk : keeps R m m') (hR : ∀ r, (r = 0 ∨ r = 17 ∨ r = 18 ∨ 23 ≤ r ∧ r ≤ 26 ∨ 30 ≤ r ∧ r ≤ 32) → r ∉ R) : TM T m' := h.keep (fun k _ => by rw [hk.2 0 (hR 0 (by omega))]) (fun r hr => hk.2 r (hR r (by omega)))
def hurts (T : Tn) (d k p : Nat) (m : Mem) : Prop := ∀ k' p', k' < tnn T → p' < tnp T → (k' < k ∨ k' = k ∧ p' < p) → m.1 36 (7 * k' + p') = nI (hurtN T d k' p')
theorem m_lay3 {T : Tn} {d k : Nat} (hT : TOK T) (hk : k < tnn T) : ∀ (j p : Nat), p + j = tnp T → ∀ (m : Mem) (f : Nat), j < f → TM T m → FM T m → hurts T d k p m → ∃ m' f', f = f' + (j + 1) ∧ gX12_layDate f 3 (nI d) 0 0 (nI k) (nI p) m = gX12_layDate f' 2 (nI d) 0 0 (nI (k + 1)) 0 m' ∧ keeps [10, 13, 36] m m' ∧ hurts T d (k + 1) 0 m' := by
  have h7 := hT.1
  have h8 := hT.2.2.1
  intro j
  induction j with
  | zero =>
    intro p hp m f hf hm hF hu
    obtain ⟨f, rfl⟩ : ∃ g, f = g + 1 := ⟨f - 1, by omega⟩
    refine ⟨m, f, rfl, ?_, keeps.rfl', fun k' p' h1 h2 h3 => hu k' p' h1 h2 (by omega)⟩
    rw [gX12_layDate, hm.1, if_pos (nI_le (by omega) (by omega)), nI_1]
  | succ j ih =>
    intro p hp m f hf hm hF hu
    obtain ⟨f, rfl⟩ : ∃ g, f = g + 1 := ⟨f - 1, by omega⟩
    obtain ⟨n1, n2, n3, n4⟩ := hT.2.2.2.2.2.2.1 k hk
    obtain ⟨e1, e2, e3⟩ := hm.2.2.2.2.2.2 k hk
    obtain ⟨hO, _⟩ := hm.2.2.2.2.1 (tO T k) n1
    obtain ⟨hp', _⟩ := hm.2.2.2.2.1 p (by omega)
    have t1 := (hT.2.2.2.2.1 (tO T k) n1).1
    have t2 := (hT.2.2.2.2.1 p (by omega)).1
    obtain ⟨m1, a1, a2, a3, a4, a5, a6⟩ := m_ask m (nI d) (nI (tT T k)) (nI (tL T k)) (nI (apN (th T (tO T k)) (th T p)))
    obtain ⟨m2, b1, b2⟩ := m_work (m := m1) hT (hF.kp a2 (by simp)) (w := 2) (by omega) (lo := 0) (up := 99) (by omega) (by omega) (nI (tL T k) - nI (apN (th T (tO T k)) (th T p)))
    rw [a3, a4, a5, a6] at b1
    have e7 : (7 : Int32) * nI k + nI p = nI (7 * k + p) := by rw [show (7 : Int32) = nI 7 from rfl, pk_mul, nI_add]
    rw [gX12_layDate, hm.1, if_neg (nI_ge (by omega) (by omega)), rd_ok (by omega) (by omega), e1, rd_ok (by omega) (by omega), hO, rd_ok (by omega) (by omega), hp', m_apart _ (by omega) _ (by omega), cP_some, rd_ok (by omega) (by omega), e2, rd_ok (by omega) (by omega), e3, a1, cV_some, rd_ok (by omega) (by omega), a2.2 32 (by simp), e3, show fX12_worked m1 2 _ 0 99 = _ from b1, cI_some, e7, wr_ok (by omega) (by omega), nI_1]
    have kp : keeps [10, 13, 36] m (sI m2 36 (7 * k + p) (nI (hurtN T d k p))) := ((a2.mono (by simp)).trans (b2.mono (by simp))).sI (by simp)
    have e36 : m2.1 36 = m.1 36 := by rw [b2.2 36 (by simp), a2.2 36 (by simp)]
    obtain ⟨m', f', q1, q2, q3, q4⟩ := ih (p + 1) (by omega) (sI m2 36 (7 * k + p) (nI (hurtN T d k p))) f (by omega) (hm.kp kp (by simp <;> omega)) (hF.kp kp (by simp)) (fun k' p' h1 h2 h3 => by
      rw [sI_row]
      by_cases e : 7 * k' + p' = 7 * k + p
      · have x1 : k' = k := by omega
        have x2 : p' = p := by omega
        subst x1; subst x2
        rw [upd_at]
      · rw [upd_ne e, e36]
        exact hu k' p' h1 h2 (by
          rcases h3 with h3 | ⟨h3, h4⟩
          · exact Or.inl h3
          · subst h3; exact Or.inr ⟨rfl, by omega⟩))
    exact ⟨m', f', by omega, q2, kp.trans q3, q4⟩
theorem m_lay2 {T : Tn} {d : Nat} (hT : TOK T) : ∀ (j k : Nat), k + j = tnn T → ∀ (m : Mem) (f : Nat), 10 * j < f → TM T m → FM T m → hurts T d k 0 m → ∃ m', gX12_layDate f 2 (nI d) 0 0 (nI k) 0 m = some m' ∧ keeps [10, 13, 36] m m' ∧ hurts T d (tnn T) 0 m' := by
  have h7 := hT.1
  have h8 := hT.2.2.1
  intro j
  induction j with
  | zero =>
    intro k hk m f hf hm hF hu
    obtain ⟨f, rfl⟩ : ∃ g, f = g + 1 := ⟨f - 1, by omega⟩
    have : k = tnn T := by omega
    subst this
    exact ⟨m, by rw [gX12_layDate, hm.2.2.1, if_pos (nI_le (by omega) (by omega))], keeps.rfl', hu⟩
  | succ j ih =>
    intro k hk m f hf hm hF hu
    obtain ⟨f, rfl⟩ : ∃ g, f = g + 1 := ⟨f - 1, by omega⟩
    rw [gX12_layDate, hm.2.2.1, if_neg (nI_ge (by omega) (by omega))]
    obtain ⟨m1, f1, a1, a2, a3, a4⟩ := m_lay3 hT (by omega) (tnp T) 0 (by omega) m f (by omega) hm hF hu
    rw [show gX12_layDate f 3 (nI d) 0 0 (nI k) 0 m = _ from a2]
    obtain ⟨m2, b1, b2, b3⟩ := ih (k + 1) (by omega) m1 f1 (by omega) (hm.kp a3 (by simp <;> omega)) (hF.kp a3 (by simp)) a4
    exact ⟨m2, b1, a3.trans b2, b3⟩
theorem m_layDate {T : Tn} {m : Mem} (hT : TOK T) (hm : TM T m) (hF : FM T m) (d : Nat) : ∃ m', fX12_layDate m (nI d) = some m' ∧ keeps [10, 13, 35, 36] m m' ∧ (∀ s, s < 3 → m'.1 35 s = hrs T d s) ∧ ∀ k p, k < tnn T → p < tnp T → m'.1 36 (7 * k + p) = nI (hurtN T d k p) := by
  have h7 := hT.1
  have h8 := hT.2.2.1
  have ha := dwn_lt T d
  have hb := dsk_lt T d
  obtain ⟨m1, a1, a2⟩ := m_dawn hT hF d
  obtain ⟨m2, b1, b2⟩ := m_dusk hT (hF.kp a2 (by simp)) d
  have k2 : keeps [10, 13, 35] m m2 := (a2.trans b2).mono (by simp)
  unfold fX12_layDate
  rw [a1, cI_some, b1, cI_some]
  rw [gX12_layDate, if_neg (by decide), wr_z (by omega) (by omega), gX12_layDate, if_neg (by decide), show (0 : Int32) + 1 = 1 from rfl, wr_1 (by omega) (by omega), gX12_layDate, if_neg (by decide), show (1 : Int32) + 1 = 2 from rfl, wr_2 (by omega) (by omega), gX12_layDate, if_pos (by decide)]
  have k3 : keeps [10, 13, 35] m (sI (sI (sI m2 35 0 0) 35 1 0) 35 2 0) := ((k2.sI (by simp)).sI (by simp)).sI (by simp)
  obtain ⟨m3, f3, c1, c2, c3, c4⟩ := m_lay1 (x1 := nI d) ha hb.1 hb.2 24 0 (by omega) (sI (sI (sI m2 35 0 0) 35 1 0) 35 2 0) 4996 (by omega) (fun s hs => by
    rw [sI_row, sI_row, sI_row]
    rcases (show s = 0 ∨ s = 1 ∨ s = 2 by omega) with rfl | rfl | rfl
    · rw [upd_ne (by omega), upd_ne (by omega), upd_at]; rfl
    · rw [upd_ne (by omega), upd_at]; rfl
    · rw [upd_at]; rfl)
  rw [show gX12_layDate 4996 1 (nI d) (nI (dwn T d)) (nI (dsk T d)) 0 0 _ = _ from c2]
  have k4 : keeps [10, 13, 35] m m3 := k3.trans (c3.mono (by simp))
  obtain ⟨m4, e1, e2, e3⟩ := m_lay2 (d := d) hT (tnn T) 0 (by omega) m3 f3 (by omega) (hm.kp k4 (by simp <;> omega)) (hF.kp k4 (by simp)) (fun k' p' _ _ h => by omega)
  refine ⟨m4, e1, (k4.mono (by simp)).trans (e2.mono (by simp)), fun s hs => ?_, fun k p h1 h2 => e3 k p h1 h2 (Or.inl h1)⟩
  rw [e2.2 35 (by simp), c4 s hs, hrs, hp_end _ ha _ hb.2 hb.1 s hs]
theorem m_load {m : Mem} : ∀ (k i : Nat), i + k = 37 → ∀ f, k < f → gX12_load f (nI i) (sW m 34 (cpN (m.1 33) (m.1 34) i)) = some (sW m 34 (cpN (m.1 33) (m.1 34) 37)) := by
  intro k
  induction k with
  | zero =>
    intro i hi f hf
    obtain ⟨f, rfl⟩ : ∃ g, f = g + 1 := ⟨f - 1, by omega⟩
    have : i = 37 := by omega
    subst this
    rw [gX12_load, if_pos (show (37 : Int32) ≤ nI 37 from nI_le (a := 37) (by omega) (by omega))]
  | succ k ih =>
    intro i hi f hf
    obtain ⟨f, rfl⟩ : ∃ g, f = g + 1 := ⟨f - 1, by omega⟩
    rw [gX12_load, if_neg (show ¬ (37 : Int32) ≤ nI i from nI_ge (b := 37) (by omega) (by omega)), rd_ok (by omega) (by omega), sW_oth (by omega), wr_ok (by omega) (by omega), sW_sI, cpN_s, nI_1]
    exact ih (i + 1) (by omega) f (by omega)
theorem m_loaded (m : Mem) : ∃ m', fX12_load m = some m' ∧ keeps [34] m m' ∧ ∀ i, i < 37 → m'.1 34 i = m.1 33 i := by
  have h := m_load (m := m) 37 0 (by omega) 5000 (by omega)
  rw [cpN_0, sW_self] at h
  exact ⟨_, h, keeps.rfl'.sW (by simp), fun i hi => by rw [sW_row, cpN_in hi]⟩
/-- the reference's memory on a date: sides sd, quiet q -/
def MD (T : Tn) (d : Nat) (sd : Nat → Nat) (q : Nat) (m : Mem) : Prop := TM T m ∧ (∀ s, s < 3 → m.1 35 s = hrs T d s) ∧ (∀ k p, k < tnn T → p < tnp T → m.1 36 (7 * k + p) = nI (hurtN T d k p)) ∧ (∀ p, p < tnp T → sd p < 3 ∧ m.1 34 p = nI (sd p)) ∧ m.1 34 34 = nI q
theorem m_loadDate {T : Tn} {m : Mem} (hT : TOK T) (hm : TM T m) (hF : FM T m) (d : Nat) {sd : Nat → Nat} {q : Nat} (hs : ∀ p, p < tnp T → sd p < 3 ∧ m.1 33 p = nI (sd p)) (hq : m.1 33 34 = nI q) : ∃ m', fX12_loadDate m (nI d) = some m' ∧ keeps [10, 13, 34, 35, 36] m m' ∧ MD T d sd q m' ∧ ∀ i, i < 37 → m'.1 34 i = m.1 33 i := by
  obtain ⟨m1, a1, a2, a3⟩ := m_loaded m
  obtain ⟨m2, b1, b2, b3, b4⟩ := m_layDate hT (hm.kp a2 (by simp <;> omega)) (hF.kp a2 (by simp)) d
  have h7 := hT.1
  have e34 : m2.1 34 = m1.1 34 := b2.2 34 (by simp)
  have kp : keeps [10, 13, 34, 35, 36] m m2 := (a2.mono (by simp)).trans (b2.mono (by simp <;> omega))
  refine ⟨m2, ?_, kp, ⟨hm.kp kp (by simp <;> omega), b3, b4, fun p hp => ⟨(hs p hp).1, ?_⟩, ?_⟩, fun i hi => by rw [e34, a3 i hi]⟩
  · unfold fX12_loadDate
    rw [a1, cV_some, b1, cV_some]
  · rw [e34, a3 p (by omega)]; exact (hs p hp).2
  · rw [e34, a3 34 (by omega)]; exact hq
