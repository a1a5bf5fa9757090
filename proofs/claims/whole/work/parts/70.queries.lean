/-! ===== what is asked of a day ===== -/
abbrev SC (T : Tn) : List Nat := [tP T + 14, tP T + 17, tP T + 20, 53, 54, 55]
def CB (T : Tn) (sd : Nat → Nat) (q : Nat) (m : Mem) : Prop := TC T m ∧ FC T m ∧ DC T m ∧ (∀ p, p < tnp T → sd p < 3 ∧ m.1 28 p = nI (sd p)) ∧ m.1 27 4 = nI q ∧ q < 128
def CD (T : Tn) (d : Nat) (sd : Nat → Nat) (q : Nat) (m : Mem) : Prop := CB T sd q m ∧ m.1 53 0 = nI d ∧ m.1 53 1 = nI (dwn T d) ∧ m.1 53 2 = nI (dsk T d) ∧ ∀ s, s < 3 → m.1 54 s = hrs T d s
theorem TC.kp {T : Tn} {m m' : Mem} (h : TC T m) (h2 : m'.2.2 = m.2.2) (hp : ∀ k, k < 14 → m'.1 (tP T + k) = m.1 (tP T + k)) : TC T m' := by
  obtain ⟨y1, a, b, c1', dd, e, f, g, i, j⟩ := h
  have hp0 : m'.1 (tP T) = m.1 (tP T) := hp 0 (by omega)
  refine ⟨y1, by rw [h2]; exact a, by rw [h2]; exact b, by rw [hp0]; exact c1', by rw [hp0]; exact dd, by rw [hp0]; exact e, by rw [hp0]; exact f, fun p hq => ?_, fun k hk => ?_, fun k hk => ?_⟩
  · rw [hp 2 (by omega), hp 4 (by omega)]; exact g p hq
  · rw [hp 5 (by omega), hp 6 (by omega), hp 7 (by omega), hp 8 (by omega)]; exact i k hk
  · rw [hp 9 (by omega), hp 10 (by omega), hp 11 (by omega)]; exact j k hk
theorem CB.kp {T : Tn} {sd : Nat → Nat} {q : Nat} {m m' : Mem} {R : List Nat} (h : CB T sd q m) (hk : keeps R m m') (hR : ∀ r, r ∈ R → r = tP T + 14 ∨ r = tP T + 17 ∨ r = tP T + 20 ∨ 29 ≤ r ∧ r ≤ 31 ∨ 56 ≤ r) : CB T sd q m' := by
  have hP := h.1.pl
  have kr : ∀ r, ¬ (r = tP T + 14 ∨ r = tP T + 17 ∨ r = tP T + 20 ∨ 29 ≤ r ∧ r ≤ 31 ∨ 56 ≤ r) → m'.1 r = m.1 r := fun r hr => hk.2 r (fun z => hr (hR r z))
  obtain ⟨h1, h2, h3, h4, h5, h6⟩ := h
  refine ⟨h1.kp (by rw [hk.1]) (fun k hk => kr _ (by omega)), FC.keep h1 h2 (fun w hw => ⟨kr _ (by omega), kr _ (by omega)⟩), h3.keep (fun r hr => kr r (by omega)), ?_, ?_, h6⟩
  · rw [kr 28 (by omega)]; exact h4
  · rw [kr 27 (by omega)]; exact h5
theorem CD.kp {T : Tn} {d : Nat} {sd : Nat → Nat} {q : Nat} {m m' : Mem} {R : List Nat} (h : CD T d sd q m) (hk : keeps R m m') (hR : ∀ r, r ∈ R → r = tP T + 14 ∨ r = tP T + 17 ∨ r = tP T + 20 ∨ 29 ≤ r ∧ r ≤ 31 ∨ 56 ≤ r) : CD T d sd q m' := by
  have hP := h.1.1.pl
  have kr : ∀ r, ¬ (r = tP T + 14 ∨ r = tP T + 17 ∨ r = tP T + 20 ∨ 29 ≤ r ∧ r ≤ 31 ∨ 56 ≤ r) → m'.1 r = m.1 r := fun r hr => hk.2 r (fun z => hr (hR r z))
  obtain ⟨h1, h2, h3, h4, h5⟩ := h
  refine ⟨h1.kp hk hR, ?_, ?_, ?_, ?_⟩
  · rw [kr 53 (by omega)]; exact h2
  · rw [kr 53 (by omega)]; exact h3
  · rw [kr 53 (by omega)]; exact h4
  · rw [kr 54 (by omega)]; exact h5
theorem CB.day {T : Tn} {sd : Nat → Nat} {q : Nat} {m : Mem} (hT : TOK T) (h : CB T sd q m) {d : Nat} (hd : d < 365) : ∃ m', fX9_dayOf m (nI d) = some (53, m') ∧ keeps (SC T) m m' ∧ CD T d sd q m' := by
  have hP := h.1.pl
  obtain ⟨m', a1, a2, a3, a4⟩ := c_day hT h.1 h.2.1 h.2.2.1 hd
  refine ⟨m', a1, a2.mono (by simp <;> omega), ⟨⟨h.1.kp (by rw [a2.1]) (fun k hk => a2.2 _ (by simp <;> omega)), FC.keep h.1 h.2.1 (fun w hw => ⟨a2.2 _ (by simp <;> omega), a2.2 _ (by simp <;> omega)⟩), a3, ?_, ?_, h.2.2.2.2.2⟩, a4⟩⟩
  · rw [a2.2 28 (by simp <;> omega)]; exact h.2.2.2.1
  · rw [a2.2 27 (by simp <;> omega)]; exact h.2.2.2.2.1
theorem CD.again {T : Tn} {d : Nat} {sd : Nat → Nat} {q : Nat} {m : Mem} (h : CD T d sd q m) : fX9_dayOf m (nI d) = some (53, m) := by unfold fX9_dayOf; rw [if_pos h.2.1]
/-- bits -/
theorem bitN {v h : Nat} (hv : v < 2 ^ 31) (hh : h < 32) : (nI v >>> (nI h &&& 31)) &&& (1 : Int32) = nI (v / 2 ^ h % 2) := by
  rw [pk_shrN hv (nI h &&& 31) h (s_l h hh)]
  exact pk_andN (k := 1) (Nat.lt_of_le_of_lt (Nat.div_le_self _ _) (by omega)) (by decide)
theorem bit_if {v h : Nat} (hv : v < 2 ^ 31) (hh : h < 32) : (if ((nI v >>> (nI h &&& 31)) &&& (1 : Int32)) = 1 then some (1 : Int32) else some 0) = some (nI (v / 2 ^ h % 2)) := by
  rw [bitN hv hh]
  rcases m2_cases (v / 2 ^ h) with ⟨e, _⟩ | ⟨e, _⟩ <;> rw [e] <;> rfl
theorem tz_b {β : Type} {b : Nat} (hb : b < 2) {E : Option β} : tz (nI b) E = E := by
  rcases (show b = 0 ∨ b = 1 by omega) with rfl | rfl
  · exact tz_0
  · exact tz_1
theorem nI_b0 {b : Nat} (hb : b < 2) : nI b = 0 ↔ b = 0 := nI_eq0 (by omega)
/-- is a side awake at an hour? -/
def awN (T : Tn) (d s h : Nat) : Nat := hrsN (dwn T d) (dsk T d) s / 2 ^ h % 2
theorem awN_lt (T : Tn) (d s h : Nat) : awN T d s h < 2 := Nat.mod_lt _ (by decide)
theorem hrs_lt (T : Tn) (d : Nat) {s : Nat} (hs : s < 3) : hrsN (dwn T d) (dsk T d) s < 2 ^ 24 := hrsN_lt _ (dwn_lt T d) _ (dsk_lt T d).2 (dsk_lt T d).1 s hs
section
variable {T : Tn} {d : Nat} {sd : Nat → Nat} {q : Nat} {m : Mem}
theorem CD.wakes (h : CD T d sd q m) {s hh : Nat} (hs : s < 3) (h24 : hh < 24) : fX2_wakes m (nI s) (nI hh) = some (nI (awN T d s hh)) := by
  unfold fX2_wakes
  rw [rd_ok hs (by omega), h.2.2.2.2 s hs, hrs]
  exact bit_if (by have := hrs_lt T d hs; omega) (by omega)
theorem CD.awake (hT : TOK T) (h : CD T d sd q m) {p hh : Nat} (hp : p < tnp T) (h24 : hh < 24) : fX9_isAwake m (nI p) (nI hh) = some (nI (awN T d (sd p) hh)) := by
  have h7 := hT.1
  obtain ⟨s1, s2⟩ := h.1.2.2.2.1 p hp
  unfold fX9_isAwake
  rw [rd_ok (by omega) (by omega), s2, h.wakes s1 h24, cP_some, tz_b (awN_lt _ _ _ _)]
theorem CB.quiet (h : CB T sd q m) {p : Nat} (hp : p < 7) : fX9_isQuiet m (nI p) = some (nI (q / 2 ^ p % 2)) := by
  unfold fX9_isQuiet
  rw [h.2.2.2.2.1]
  exact bit_if (by have := h.2.2.2.2.2; omega) (by omega)
theorem MD.awake (hT : TOK T) (h : MD T d sd q m) {p hh : Nat} (hp : p < tnp T) (h24 : hh < 24) : fX12_isAwake m (nI p) (nI hh) = some (nI (awN T d (sd p) hh)) := by
  have h7 := hT.1
  obtain ⟨s1, s2⟩ := h.2.2.2.1 p hp
  unfold fX12_isAwake
  rw [rd_ok (by omega) (by omega), s2, rd_ok s1 (by omega), h.2.1 _ s1, hrs]
  exact bit_if (by have := hrs_lt T d s1; omega) (by omega)
theorem CD.hurt (hT : TOK T) (h : CD T d sd q m) {k p : Nat} (hk : k < tnn T) (hp : p < tnp T) : ∃ m', fX9_hurtOf m (nI k) (nI p) = some (nI (hurtN T d k p), m') ∧ keeps [tP T + 20] m m' := by
  have h7 := hT.1
  have h8 := hT.2.2.1
  obtain ⟨⟨h2, h4, _⟩, e53, _⟩ := h
  obtain ⟨n1, n2, n3, n4⟩ := hT.2.2.2.2.2.2.1 k hk
  obtain ⟨e1, e2, e3⟩ := h2.2.2.2.2.2.2.2.2.2 k hk
  obtain ⟨hO, _⟩ := h2.2.2.2.2.2.2.2.1 (tO T k) n1
  obtain ⟨hp', _⟩ := h2.2.2.2.2.2.2.2.1 p hp
  have t1 := (hT.2.2.2.2.1 (tO T k) n1).1
  have t2 := (hT.2.2.2.2.1 p hp).1
  have t18 : m.1 (tP T + 18) 3 = nI (told T 2) := (h4 2 (by omega)).1
  have u2 := hT.2.2.2.2.2.2.2.2 2 (by omega)
  have l0 : ∀ v : Int32, fX9_within v 0 99 = some (nI (clN 0 99 v)) := fun v => congrArg some (cl_c (lo := 0) (up := 99) (by omega) (by omega) v)
  unfold fX9_hurtOf hurtN
  rw [gPl_T h2, h2.2.1, rd_ok (by omega) (by omega), e1, rd_ok (by omega) (by omega), hO, rd_ok (by omega) (by omega), hp', nm_eq, abs_ap _ (by omega) _ (by omega), rd_ok (by omega) (by omega), e3, nm_eq, t18]
  by_cases c : told T 2 = 1
  · obtain ⟨m1, a1, a2⟩ := FC.val h2 h4 (w := 2) (by omega) c (nI d) (nI (tT T k)) (nI (tL T k)) (nI (apN (th T (tO T k)) (th T p)))
    rw [if_neg (by rw [c]; decide), rd_ok (by omega) (by omega), e2, e53, show tP T + 18 = tP T + (12 + 3 * 2) from rfl, a1, cI_some, l0, cP_some, if_pos c]
    exact ⟨m1, rfl, a2⟩
  · rw [if_pos (by rw [show told T 2 = 0 by omega]; rfl), l0, cP_some, if_neg c]
    exact ⟨m, rfl, keeps.rfl'⟩
end
/-- what a noise does to one, now -/
def harmN (T : Tn) (d : Nat) (sd : Nat → Nat) (q k p : Nat) : Nat := if tO T k = p then 0 else if q / 2 ^ (tO T k) % 2 = 1 then 0 else if awN T d (sd (tO T k)) (tT T k) = 0 then 0 else if awN T d (sd p) (tT T k) = 0 then hurtN T d k p else 0
theorem harm_le (T : Tn) (d : Nat) (sd : Nat → Nat) (q k p : Nat) : harmN T d sd q k p ≤ 99 := by
  unfold harmN
  repeat' split
  all_goals first | omega | exact hurt_le _ _ _ _
section
variable {T : Tn} {d : Nat} {sd : Nat → Nat} {q : Nat} {m : Mem}
theorem CD.harm (hT : TOK T) (h : CD T d sd q m) {k p : Nat} (hk : k < tnn T) (hp : p < tnp T) : ∃ m', fX9_harmOf m (nI k) (nI p) = some (nI (harmN T d sd q k p), m') ∧ keeps [tP T + 20] m m' ∧ CD T d sd q m' := by
  have h7 := hT.1
  have h8 := hT.2.2.1
  obtain ⟨n1, n2, n3, n4⟩ := hT.2.2.2.2.2.2.1 k hk
  obtain ⟨e1, e2, e3⟩ := h.1.1.2.2.2.2.2.2.2.2.2 k hk
  unfold fX9_harmOf harmN
  rw [gPl_T h.1.1, h.1.1.2.1, rd_ok (by omega) (by omega), e1, rd_ok (by omega) (by omega), e2]
  by_cases c0 : tO T k = p
  · rw [if_pos (by rw [c0]), if_pos c0]
    exact ⟨m, rfl, keeps.rfl', h⟩
  rw [if_neg (fun e => c0 ((nI_eq (by omega) (by omega)).mp e)), if_neg c0, h.1.quiet (by omega), cP_some]
  by_cases c1 : q / 2 ^ (tO T k) % 2 = 1
  · rw [if_neg (by rw [c1]; decide), if_pos c1]
    exact ⟨m, rfl, keeps.rfl', h⟩
  rw [if_pos (by rw [show q / 2 ^ (tO T k) % 2 = 0 by omega]; rfl), if_neg c1, h.awake hT n1 n2, cP_some]
  by_cases c2 : awN T d (sd (tO T k)) (tT T k) = 0
  · rw [if_pos (by rw [c2]; rfl), if_pos c2]
    exact ⟨m, rfl, keeps.rfl', h⟩
  rw [if_neg (fun e => c2 ((nI_b0 (awN_lt _ _ _ _)).mp e)), if_neg c2, h.awake hT hp n2, cP_some]
  by_cases c3 : awN T d (sd p) (tT T k) = 0
  · rw [if_pos (by rw [c3]; rfl), if_pos c3]
    obtain ⟨m1, a1, a2⟩ := h.hurt hT hk hp
    rw [a1, cI_some]
    exact ⟨m1, rfl, a2, h.kp a2 (by simp)⟩
  · rw [if_neg (fun e => c3 ((nI_b0 (awN_lt _ _ _ _)).mp e)), if_neg c3]
    exact ⟨m, rfl, keeps.rfl', h⟩
theorem MD.harm (hT : TOK T) (h : MD T d sd q m) (hq : q < 128) {k p : Nat} (hk : k < tnn T) (hp : p < tnp T) : fX12_harmBy m (nI k) (nI p) = some (nI (harmN T d sd q k p)) := by
  have h7 := hT.1
  have h8 := hT.2.2.1
  obtain ⟨n1, n2, n3, n4⟩ := hT.2.2.2.2.2.2.1 k hk
  obtain ⟨e1, e2, e3⟩ := h.1.2.2.2.2.2.2 k hk
  have e7 : (7 : Int32) * nI k + nI p = nI (7 * k + p) := by rw [show (7 : Int32) = nI 7 from rfl, pk_mul, nI_add]
  unfold fX12_harmBy harmN
  rw [rd_ok (by omega) (by omega), e1]
  by_cases c0 : tO T k = p
  · rw [if_pos (by rw [c0]), if_pos c0]
    rfl
  rw [if_neg (fun e => c0 ((nI_eq (by omega) (by omega)).mp e)), if_neg c0, (rd_now _ _).1, h.2.2.2.2, bitN (by omega) (by omega)]
  by_cases c1 : q / 2 ^ (tO T k) % 2 = 1
  · rw [if_pos (by rw [c1]; rfl), if_pos c1]
    rfl
  rw [if_neg (by rw [show q / 2 ^ (tO T k) % 2 = 0 by omega]; decide), if_neg c1, rd_ok (by omega) (by omega), e2, h.awake hT n1 n2, cP_some]
  by_cases c2 : awN T d (sd (tO T k)) (tT T k) = 0
  · rw [if_pos (by rw [c2]; rfl), if_pos c2]
    rfl
  rw [if_neg (fun e => c2 ((nI_b0 (awN_lt _ _ _ _)).mp e)), if_neg c2, rd_ok (by omega) (by omega), e2, h.awake hT hp n2, cP_some]
  by_cases c3 : awN T d (sd p) (tT T k) = 0
  · rw [if_pos (by rw [c3]; rfl), if_pos c3, e7, rd_ok (by omega) (by omega), h.2.2.1 k p hk hp]
  · rw [if_neg (fun e => c3 ((nI_b0 (awN_lt _ _ _ _)).mp e)), if_neg c3]
    rfl
end
/-- how many ones -/
def pcN (v : Nat) : Nat := fb_sm (fun k => v / 2 ^ k % 2) 24
def hr4 (a b s : Nat) : Nat := if s < 3 then hrsN a b s else 2 ^ 24 - 1
theorem bc_ok16 : ∀ a, a < 12 → ∀ b, b < 24 → 12 ≤ b → ∀ st, st < 16 → fJ6_bitCount_0f7a4 (nI (hr4 a b (st / 4) &&& hr4 a b (st % 4))) = some (nI (pcN (hr4 a b (st / 4) &&& hr4 a b (st % 4)))) := by decide +kernel
theorem bc_ok (a : Nat) (ha : a < 12) (b : Nat) (hb : b < 24) (hb2 : 12 ≤ b) (s : Nat) (hs : s < 4) (t : Nat) (ht : t < 4) : fJ6_bitCount_0f7a4 (nI (hr4 a b s &&& hr4 a b t)) = some (nI (pcN (hr4 a b s &&& hr4 a b t))) := by
  have h := bc_ok16 a ha b hb hb2 (4 * s + t) (by omega)
  rw [show (4 * s + t) / 4 = s by omega, show (4 * s + t) % 4 = t by omega] at h
  exact h
theorem bc_128 : ∀ v, v < 128 → fJ6_bitCount_0f7a4 (nI v) = some (nI (pcN v)) := by decide +kernel
theorem m_membersG {v : Nat} (hv : v < 2 ^ 31) : ∀ (k i : Nat), i + k = 24 → ∀ f, k < f → gX12_members f (nI v) (nI (fb_sm (fun k => v / 2 ^ k % 2) i)) (nI i) = some (nI (pcN v)) := by
  intro k
  induction k with
  | zero =>
    intro i hi f hf
    obtain ⟨f, rfl⟩ : ∃ g, f = g + 1 := ⟨f - 1, by omega⟩
    have : i = 24 := by omega
    subst this
    rw [gX12_members, if_pos (show (24 : Int32) ≤ nI 24 from nI_le (a := 24) (by omega) (by omega)), pcN]
  | succ k ih =>
    intro i hi f hf
    obtain ⟨f, rfl⟩ : ∃ g, f = g + 1 := ⟨f - 1, by omega⟩
    rw [gX12_members, if_neg (show ¬ (24 : Int32) ≤ nI i from nI_ge (b := 24) (by omega) (by omega)), nm_eq, bitN hv (by omega), nI_add, nI_1]
    exact ih (i + 1) (by omega) f (by omega)
theorem m_members {v : Nat} (hv : v < 2 ^ 31) : fX12_members (nI v) = some (nI (pcN v)) := m_membersG hv 24 0 (by omega) 5000 (by omega)
/-- hours two sides share; can two meet? -/
def com (T : Tn) (d s t : Nat) : Nat := pcN (hrsN (dwn T d) (dsk T d) s &&& hrsN (dwn T d) (dsk T d) t)
theorem com_bc (T : Tn) (d : Nat) {s t : Nat} (hs : s < 3) (ht : t < 3) : fJ6_bitCount_0f7a4 (hrs T d s &&& hrs T d t) = some (nI (com T d s t)) := by
  have h := bc_ok _ (dwn_lt T d) _ (dsk_lt T d).2 (dsk_lt T d).1 s (by omega) t (by omega)
  unfold hr4 at h
  rw [if_pos hs, if_pos ht] at h
  rw [hrs, hrs, fa_and]
  exact h
theorem com_mem (T : Tn) (d : Nat) {s t : Nat} (hs : s < 3) (ht : t < 3) : fX12_members (hrs T d s &&& hrs T d t) = some (nI (com T d s t)) := by
  rw [hrs, hrs, fa_and]
  exact m_members (Nat.lt_of_le_of_lt Nat.and_le_left (by have := hrs_lt T d hs; omega))
def canN (T : Tn) (d : Nat) (sd : Nat → Nat) (k : Nat) : Nat := if com T d (sd (tA T k)) (sd (tB T k)) < tH T k then 0 else 1
theorem canN_lt (T : Tn) (d : Nat) (sd : Nat → Nat) (k : Nat) : canN T d sd k < 2 := by unfold canN; split <;> omega
theorem com_lt (T : Tn) (d s t : Nat) : com T d s t < 2 ^ 20 := by
  have : com T d s t ≤ 24 * 1 := fb_sm_bound (fun k _ => by have := Nat.mod_lt ((hrsN (dwn T d) (dsk T d) s &&& hrsN (dwn T d) (dsk T d) t) / 2 ^ k) (show 0 < 2 by decide); omega)
  omega
section
variable {T : Tn} {d : Nat} {sd : Nat → Nat} {q : Nat} {m : Mem}
theorem CD.hours (hT : TOK T) (h : CD T d sd q m) {p : Nat} (hp : p < tnp T) : fX9_hoursAwake m (nI p) = some (hrs T d (sd p)) := by
  have h7 := hT.1
  obtain ⟨s1, s2⟩ := h.1.2.2.2.1 p hp
  unfold fX9_hoursAwake
  rw [rd_ok (by omega) (by omega), s2, rd_ok s1 (by omega), h.2.2.2.2 _ s1]
theorem CD.together (hT : TOK T) (h : CD T d sd q m) {p r : Nat} (hp : p < tnp T) (hr : r < tnp T) : fX9_hoursTogether m (nI p) (nI r) = some (nI (com T d (sd p) (sd r))) := by
  unfold fX9_hoursTogether
  rw [h.hours hT hp, cP_some, h.hours hT hr, cP_some, com_bc T d (h.1.2.2.2.1 p hp).1 (h.1.2.2.2.1 r hr).1, cP_some]
theorem CD.can (hT : TOK T) (h : CD T d sd q m) {k : Nat} (hk : k < tnm T) : fX9_canMeet m (nI k) = some (nI (canN T d sd k)) := by
  have h10 := hT.2.1
  obtain ⟨n1, n2, _, n3, n4, _⟩ := hT.2.2.2.2.2.1 k hk
  obtain ⟨e1, e2, e3, e4⟩ := h.1.1.2.2.2.2.2.2.2.2.1 k hk
  unfold fX9_canMeet
  rw [gPl_T h.1.1, h.1.1.2.1, rd_ok (by omega) (by omega), e1, rd_ok (by omega) (by omega), e2, h.together hT n1 n2, cP_some, rd_ok (by omega) (by omega), e3, canN]
  have := com_lt T d (sd (tA T k)) (sd (tB T k))
  by_cases c : com T d (sd (tA T k)) (sd (tB T k)) < tH T k
  · rw [if_pos (nI_lt c (by omega)), if_pos c]; rfl
  · rw [if_neg (nI_nlt (by omega) (by omega)), if_neg c]; rfl
theorem MD.common (hT : TOK T) (h : MD T d sd q m) {p r : Nat} (hp : p < tnp T) (hr : r < tnp T) : fX12_commonOf m (nI p) (nI r) = some (nI (com T d (sd p) (sd r))) := by
  have h7 := hT.1
  obtain ⟨s1, s2⟩ := h.2.2.2.1 p hp
  obtain ⟨t1, t2⟩ := h.2.2.2.1 r hr
  unfold fX12_commonOf
  rw [rd_ok (by omega) (by omega), s2, rd_ok s1 (by omega), h.2.1 _ s1, rd_ok (by omega) (by omega), t2, rd_ok t1 (by omega), h.2.1 _ t1, com_mem T d s1 t1, cP_some]
theorem MD.can (hT : TOK T) (h : MD T d sd q m) {k : Nat} (hk : k < tnm T) : fX12_canMeet m (nI k) = some (nI (canN T d sd k)) := by
  have h10 := hT.2.1
  obtain ⟨n1, n2, _, n3, n4, _⟩ := hT.2.2.2.2.2.1 k hk
  obtain ⟨e1, e2, e3, e4⟩ := h.1.2.2.2.2.2.1 k hk
  unfold fX12_canMeet
  rw [rd_ok (by omega) (by omega), e1, rd_ok (by omega) (by omega), e2, h.common hT n1 n2, cP_some, rd_ok (by omega) (by omega), e3, canN]
  have := com_lt T d (sd (tA T k)) (sd (tB T k))
  by_cases c : com T d (sd (tA T k)) (sd (tB T k)) < tH T k
  · rw [if_pos (nI_lt c (by omega)), if_pos c]; rfl
  · rw [if_neg (nI_nlt (by omega) (by omega)), if_neg c]; rfl
end
