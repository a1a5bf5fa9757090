/-! ===== opening and closing a question ===== -/
def RX (T : Tn) (mC mM : Mem) : Prop := TOK T ∧ TC T mC ∧ TM T mM ∧ FC T mC ∧ FM T mM ∧ DC T mC ∧ RSt T mC mM ∧ RA T mC mM ∧ RL_ mC mM ∧ RY mC mM ∧ RB T mC mM ∧ RT mC mM ∧ RF mC mM ∧ CW mC
theorem RX.done {T : Tn} {c c' m m' : Mem} (h : RX T c m) (hk : keeps (SC T) c c') (hD : DC T c') (hm : keeps [10, 13, 34, 35, 36] m m') : Rl c' m' := by
  obtain ⟨h1, h2, h3, h4, h5, h6, h7, h8, h9, h10, h11, h12, h13, h14⟩ := h
  have hP := h2.pl
  refine Rl.scr h1 h2 h3 h4 h5 hD h7 h8 h9 h10 h11 h12 h13 h14 hk.1 (fun r hr => hk.2 r (fun z => hr ?_)) ⟨by rw [hk.2 65 (by simp <;> omega)], by rw [hk.2 65 (by simp <;> omega)]⟩ (hm.mono (by simp <;> omega))
  simp at z ⊢
  omega
def QS (T : Tn) (sd : Nat → Nat) (q hr dt : Nat) (c m : Mem) : Prop := (CB T sd q c) ∧ (∀ p, p < tnp T → sd p < 3 ∧ m.1 33 p = nI (sd p)) ∧ (m.1 33 34 = nI q) ∧ (q < 2 ^ tnp T) ∧ (hr < 24) ∧ (m.1 33 35 = nI hr) ∧ (c.1 27 5 = nI hr) ∧ (dt < 365) ∧ (m.1 33 36 = nI dt) ∧ (c.1 27 6 = nI dt)
theorem QS.cb {T : Tn} {sd : Nat → Nat} {q hr dt : Nat} {c m : Mem} (h : QS T sd q hr dt c m) : CB T sd q c := h.1
theorem QS.side {T : Tn} {sd : Nat → Nat} {q hr dt : Nat} {c m : Mem} (h : QS T sd q hr dt c m) : ∀ p, p < tnp T → sd p < 3 ∧ m.1 33 p = nI (sd p) := h.2.1
theorem QS.quiet {T : Tn} {sd : Nat → Nat} {q hr dt : Nat} {c m : Mem} (h : QS T sd q hr dt c m) : m.1 33 34 = nI q := h.2.2.1
theorem QS.qlt {T : Tn} {sd : Nat → Nat} {q hr dt : Nat} {c m : Mem} (h : QS T sd q hr dt c m) : q < 2 ^ tnp T := h.2.2.2.1
theorem QS.hlt {T : Tn} {sd : Nat → Nat} {q hr dt : Nat} {c m : Mem} (h : QS T sd q hr dt c m) : hr < 24 := h.2.2.2.2.1
theorem QS.mh {T : Tn} {sd : Nat → Nat} {q hr dt : Nat} {c m : Mem} (h : QS T sd q hr dt c m) : m.1 33 35 = nI hr := h.2.2.2.2.2.1
theorem QS.ch {T : Tn} {sd : Nat → Nat} {q hr dt : Nat} {c m : Mem} (h : QS T sd q hr dt c m) : c.1 27 5 = nI hr := h.2.2.2.2.2.2.1
theorem QS.dlt {T : Tn} {sd : Nat → Nat} {q hr dt : Nat} {c m : Mem} (h : QS T sd q hr dt c m) : dt < 365 := h.2.2.2.2.2.2.2.1
theorem QS.md {T : Tn} {sd : Nat → Nat} {q hr dt : Nat} {c m : Mem} (h : QS T sd q hr dt c m) : m.1 33 36 = nI dt := h.2.2.2.2.2.2.2.2.1
theorem QS.cd {T : Tn} {sd : Nat → Nat} {q hr dt : Nat} {c m : Mem} (h : QS T sd q hr dt c m) : c.1 27 6 = nI dt := h.2.2.2.2.2.2.2.2.2
theorem RX.cb {T : Tn} {c m : Mem} (h : RX T c m) : ∃ sd q hr dt, QS T sd q hr dt c m := by
  obtain ⟨h1, h2, h3, h4, h5, h6, h7, _⟩ := h
  obtain ⟨⟨z1, ⟨q, q1, q2⟩, ⟨hr, r1, r2⟩, ⟨dt, d1, d2⟩⟩, hat⟩ := And.intro h7.2 h7.at
  have hpw := pow_np h1.1
  have hs : ∀ p, p < tnp T → (m.1 33 p).toNatClampNeg < 3 ∧ m.1 33 p = nI ((m.1 33 p).toNatClampNeg) := fun p hp => by
    obtain ⟨s, s1, s2⟩ := z1 p hp
    rw [s2, nI_clamp (by omega)]
    exact ⟨s1, rfl⟩
  exact ⟨fun p => (m.1 33 p).toNatClampNeg, q, hr, dt, ⟨h2, h4, h6, fun p hp => ⟨(hs p hp).1, by rw [h7.side h1 hp]; exact (hs p hp).2⟩, by rw [hat.1]; exact q2, by omega⟩, hs, q2, q1, r1, r2, by rw [hat.2.1]; exact r2, d1, d2, by rw [hat.2.2]; exact d2⟩
theorem QS.q128 {T : Tn} {sd : Nat → Nat} {q hr dt : Nat} {c m : Mem} (h : QS T sd q hr dt c m) : q < 128 := h.cb.2.2.2.2.2
theorem RX.load {T : Tn} {c m : Mem} (h : RX T c m) {sd : Nat → Nat} {q hr dt : Nat} (hQ : QS T sd q hr dt c m) (d : Nat) : ∃ m', fX12_loadDate m (nI d) = some m' ∧ keeps [10, 13, 34, 35, 36] m m' ∧ MD T d sd q m' ∧ ∀ i, i < 37 → m'.1 34 i = m.1 33 i :=
  m_loadDate h.1 h.2.2.1 h.2.2.2.2.1 d hQ.side hQ.quiet
theorem today_ok {T : Tn} (hT : TOK T) {c : Mem} {sd : Nat → Nat} {q dt : Nat} (h : CB T sd q c) (hd : c.1 27 6 = nI dt) (hl : dt < 365) : ∃ c', fX9_today c = some (53, c') ∧ keeps (SC T) c c' ∧ CD T dt sd q c' := by
  obtain ⟨c', a1, a2, a3⟩ := h.day hT hl
  refine ⟨c', ?_, a2, a3⟩
  unfold fX9_today
  rw [hd, a1, cR_some, gEq_ok]
theorem i10 : ¬ (1 : Int32) = 0 := by decide
theorem i1n : ¬ nI 1 = 0 := by decide
theorem RX.person {T : Tn} {c m : Mem} (h : RX T c m) (x : Int32) : (fX9_hasPerson c x = some 0 ∧ fX12_isPerson m x = some 0) ∨ ∃ p, p < tnp T ∧ x = nI p ∧ fX9_hasPerson c (nI p) = some 1 ∧ fX12_isPerson m (nI p) = some 1 := by
  obtain ⟨h1, h2, h3, _⟩ := h
  have h7 := h1.1
  rcases ix3 x (tnp T) (by omega) with e | ⟨e0, e⟩ | ⟨p, hp, rfl⟩
  · exact Or.inl ⟨c_hasP_lt h2 e, m_isP_lt e⟩
  · exact Or.inl ⟨c_hasP_ge h2 e0 e, m_isP_ge h1 h3 e0 e⟩
  · exact Or.inr ⟨p, hp, rfl, c_hasP_in h1 h2 hp, m_isP_in h1 h3 hp⟩
theorem RX.meet {T : Tn} {c m : Mem} (h : RX T c m) (x : Int32) : (fX9_hasMeet c x = some 0 ∧ fX12_isMeet m x = some 0) ∨ ∃ k, k < tnm T ∧ x = nI k ∧ fX9_hasMeet c (nI k) = some 1 ∧ fX12_isMeet m (nI k) = some 1 := by
  obtain ⟨h1, h2, h3, _⟩ := h
  have h10 := h1.2.1
  have e5 := h2.2.2.2.2.1
  unfold fX9_hasMeet fX12_isMeet
  rw [gPl_T h2, h2.2.1, e5, h3.2.1]
  rcases ix3 x (tnm T) (by omega) with e | ⟨e0, e⟩ | ⟨p, hp, rfl⟩
  · exact Or.inl ⟨if_pos e, by rw [isIn_lt e]; rfl⟩
  · exact Or.inl ⟨by rw [if_neg (Int32.not_lt.mpr e0), if_pos e], by rw [isIn_ge (by omega) e0 e]; rfl⟩
  · refine Or.inr ⟨p, hp, rfl, ?_, by rw [isIn_in hp (by omega)]; rfl⟩
    rw [if_neg (nI_lt0 (by omega)), gPl_ok h2.pl, if_neg (nI_ge hp (by omega))]
theorem date_c (x : Int32) : (fX11_isDate x = some 0 ∧ fX12_isDate x = some 0) ∨ ∃ d, d < 365 ∧ x = nI d ∧ fX11_isDate (nI d) = some 1 ∧ fX12_isDate (nI d) = some 1 := by
  unfold fX11_isDate fX12_isDate
  rcases ix3 x 365 (by omega) with e | ⟨e0, e⟩ | ⟨p, hp, rfl⟩
  · exact Or.inl ⟨if_pos e, by rw [isIn_lt e]; rfl⟩
  · exact Or.inl ⟨by rw [if_neg (Int32.not_lt.mpr e0), if_pos (show (365 : Int32) ≤ x from e)], by rw [show fX12_isIn x 0 364 = some 0 from isIn_ge (n := 365) (by omega) e0 e]; rfl⟩
  · exact Or.inr ⟨p, hp, rfl, by rw [if_neg (nI_lt0 (by omega)), if_neg (show ¬ (365 : Int32) ≤ nI p from nI_ge (b := 365) hp (by omega))], by rw [show fX12_isIn (nI p) 0 364 = some 1 from isIn_in (n := 365) hp (by omega)]; rfl⟩
theorem hour_c (x : Int32) : (fX11_isHour x = some 0 ∧ fX12_isIn x 0 23 = some 0) ∨ ∃ d, d < 24 ∧ x = nI d ∧ fX11_isHour (nI d) = some 1 ∧ fX12_isIn (nI d) 0 23 = some 1 := by
  unfold fX11_isHour
  rcases ix3 x 24 (by omega) with e | ⟨e0, e⟩ | ⟨p, hp, rfl⟩
  · exact Or.inl ⟨if_pos e, isIn_lt e _⟩
  · exact Or.inl ⟨by rw [if_neg (Int32.not_lt.mpr e0), if_pos (show (24 : Int32) ≤ x from e)], isIn_ge (n := 24) (by omega) e0 e⟩
  · exact Or.inr ⟨p, hp, rfl, by rw [if_neg (nI_lt0 (by omega)), if_neg (show ¬ (24 : Int32) ≤ nI p from nI_ge (b := 24) hp (by omega))], isIn_in (n := 24) hp (by omega)⟩
theorem house_c (x : Int32) : (fX11_isHouse x = some 0 ∧ fX12_isIn x 0 9 = some 0) ∨ ∃ d, d < 10 ∧ x = nI d ∧ fX11_isHouse (nI d) = some 1 ∧ fX12_isIn (nI d) 0 9 = some 1 := by
  unfold fX11_isHouse
  rcases ix3 x 10 (by omega) with e | ⟨e0, e⟩ | ⟨p, hp, rfl⟩
  · exact Or.inl ⟨if_pos e, isIn_lt e _⟩
  · exact Or.inl ⟨by rw [if_neg (Int32.not_lt.mpr e0), if_pos (show (10 : Int32) ≤ x from e)], isIn_ge (n := 10) (by omega) e0 e⟩
  · exact Or.inr ⟨p, hp, rfl, by rw [if_neg (nI_lt0 (by omega)), if_neg (show ¬ (10 : Int32) ≤ nI p from nI_ge (b := 10) hp (by omega))], isIn_in (n := 10) hp (by omega)⟩
theorem box_c (x : Int32) : (fX11_isBox x = some 0 ∧ fX12_isBox x = some 0) ∨ ∃ b, b < 3 ∧ x = nI b ∧ fX11_isBox (nI b) = some 1 ∧ fX12_isBox (nI b) = some 1 := by
  unfold fX11_isBox fX12_isBox
  rcases ix3 x 3 (by omega) with e | ⟨e0, e⟩ | ⟨p, hp, rfl⟩
  · exact Or.inl ⟨if_pos e, if_pos e⟩
  · exact Or.inl ⟨by rw [if_neg (Int32.not_lt.mpr e0), if_pos (show (3 : Int32) ≤ x from e)], by rw [if_neg (Int32.not_lt.mpr e0), if_pos (show (3 : Int32) ≤ x from e)]⟩
  · exact Or.inr ⟨p, hp, rfl, by rw [if_neg (nI_lt0 (by omega)), if_neg (show ¬ (3 : Int32) ≤ nI p from nI_ge (b := 3) hp (by omega))], by rw [if_neg (nI_lt0 (by omega)), if_neg (show ¬ (3 : Int32) ≤ nI p from nI_ge (b := 3) hp (by omega))]⟩
/-- a number that may be 0 or 1 -/
theorem two_c (x : Int32) : (x < 0 ∧ fX12_isIn x 0 1 = some 0) ∨ (¬ x < 0 ∧ ¬ x ≤ 1 ∧ (1 : Int32) < x ∧ fX12_isIn x 0 1 = some 0) ∨ (∃ b, b < 2 ∧ x = nI b ∧ ¬ nI b < 0 ∧ nI b ≤ (1 : Int32) ∧ ¬ (1 : Int32) < nI b ∧ fX12_isIn (nI b) 0 1 = some 1) := by
  rcases ix3 x 2 (by omega) with e | ⟨e0, e⟩ | ⟨p, hp, rfl⟩
  · exact Or.inl ⟨e, isIn_lt e _⟩
  · have e1 : (1 : Int32) < x := fa_trans (show (1 : Int32) < nI 2 by decide) e
    exact Or.inr (Or.inl ⟨Int32.not_lt.mpr e0, Int32.not_le.mpr e1, e1, isIn_ge (n := 2) (by omega) e0 e⟩)
  · have e1 : nI p ≤ (1 : Int32) := nI_le (b := 1) (by omega) (by omega)
    exact Or.inr (Or.inr ⟨p, hp, rfl, nI_lt0 (by omega), e1, Int32.not_lt.mpr e1, isIn_in (n := 2) hp (by omega)⟩)
