/-! ===== days ===== -/
def apN (a b : Nat) : Nat := if b ≤ a then a - b else b - a
/-- what a noise does to one who is asleep -/
def hurtN (T : Tn) (d k p : Nat) : Nat := clN 0 99 (if told T 2 = 1 then T.2 2 (nI d) (nI (tT T k)) (nI (tL T k)) (nI (apN (th T (tO T k)) (th T p))) else nI (tL T k) - nI (apN (th T (tO T k)) (th T p)))
theorem hurt_le (T : Tn) (d k p : Nat) : hurtN T d k p ≤ 99 := (clN_le (by omega) (by omega) _).2
theorem dwn_lt (T : Tn) (d : Nat) : dwn T d < 12 := by have := (clN_le (lo := 0) (up := 11) (by omega) (by omega) (if told T 0 = 1 then T.2 0 (nI d) 0 0 0 else 6)).2; unfold dwn; omega
theorem dsk_lt (T : Tn) (d : Nat) : 12 ≤ dsk T d ∧ dsk T d < 24 := by have := (clN_le (lo := 12) (up := 23) (by omega) (by omega) (if told T 1 = 1 then T.2 1 (nI d) 0 0 0 else 18)); unfold dsk; omega
theorem abs_ap : ∀ a, a < 10 → ∀ b, b < 10 → iabs (nI a - nI b) = nI (apN a b) := by decide +kernel
theorem m_apart : ∀ a, a < 10 → ∀ b, b < 10 → fX12_apart (nI a) (nI b) = some (nI (apN a b)) := by decide +kernel
theorem arnd_ok : ∀ e, e < 24 → fX2_hoursAround (nI e) = some (nI (arnd e)) := by decide +kernel
theorem day_bits : ∀ a, a < 12 → ∀ b, b < 24 → 12 ≤ b → ((1 : Int32) <<< (nI b &&& 31)) - ((1 : Int32) <<< (nI a &&& 31)) = nI (hrsN a b 0) ∧ (16777215 : Int32) &&& (nI (hrsN a b 0) ^^^ (-1 : Int32)) = nI (hrsN a b 1) ∧ nI (arnd a) ||| nI (arnd b) = nI (hrsN a b 2) := by decide +kernel
theorem hrsN_lt : ∀ a, a < 12 → ∀ b, b < 24 → 12 ≤ b → ∀ s, s < 3 → hrsN a b s < 2 ^ 24 := by decide +kernel
theorem sun_div : ∀ a, a < 12 → ∀ b, b < 24 → 12 ≤ b → nI (a * 32 + b) / (32 : Int32) = nI a ∧ nI (a * 32 + b) - nI (a * 32 + b) / (32 : Int32) * (32 : Int32) = nI b := by decide +kernel
theorem c_reckon {T : Tn} {m : Mem} (hT : TOK T) (h2 : TC T m) (h4 : FC T m) {d : Nat} : ∃ m', fX9_reckonSun m (nI d) = some (nI (dwn T d * 32 + dsk T d), m') ∧ keeps [tP T + 14, tP T + 17] m m' := by
  have hP := h2.pl
  have l0 : ∀ v : Int32, fX9_within v 0 11 = some (nI (clN 0 11 v)) := fun v => congrArg some (cl_c (lo := 0) (up := 11) (by omega) (by omega) v)
  have l1 : ∀ v : Int32, fX9_within v 12 23 = some (nI (clN 12 23 v)) := fun v => congrArg some (cl_c (lo := 12) (up := 23) (by omega) (by omega) v)
  have ea : ∀ a b : Nat, (nI a * (32 : Int32)) + nI b = nI (a * 32 + b) := fun a b => by rw [show (32 : Int32) = nI 32 from rfl, pk_mul, nI_add]
  have t0 : m.1 (tP T + 12) 3 = nI (told T 0) := (h4 0 (by omega)).1
  have t1 : m.1 (tP T + 15) 3 = nI (told T 1) := (h4 1 (by omega)).1
  have u0 := hT.2.2.2.2.2.2.2.2 0 (by omega)
  have u1 := hT.2.2.2.2.2.2.2.2 1 (by omega)
  unfold fX9_reckonSun
  rw [gPl_T h2, h2.2.1, t0, t1, dwn, dsk]
  by_cases c0 : told T 0 = 1
  · obtain ⟨m1, a1, a2⟩ := FC.val h2 h4 (w := 0) (by omega) c0 (nI d) 0 0 0
    rw [if_neg (by rw [c0]; decide), show tP T + 12 = tP T + (12 + 3 * 0) from rfl, a1, cI_some, if_pos c0]
    have e22 : m1.2.2 26 1 = tP T := by rw [a2.1]; exact h2.2.1
    have e15 : m1.1 (tP T + 15) 3 = nI (told T 1) := by rw [a2.2 _ (by simp)]; exact t1
    rw [e22, gPl_ok hP, e15]
    by_cases c1 : told T 1 = 1
    · have h2' : TC T m1 := by
        obtain ⟨y1, a, b, c1', dd, e, f, g, i, j⟩ := h2
        have hp : ∀ k, k < 14 → m1.1 (tP T + k) = m.1 (tP T + k) := fun k hk => a2.2 _ (by simp <;> omega)
        have hp0 : m1.1 (tP T) = m.1 (tP T) := hp 0 (by omega)
        refine ⟨y1, e22, by rw [a2.1]; exact b, by rw [hp0]; exact c1', by rw [hp0]; exact dd, by rw [hp0]; exact e, by rw [hp0]; exact f, fun p hq => ?_, fun k hk => ?_, fun k hk => ?_⟩
        · rw [hp 2 (by omega), hp 4 (by omega)]; exact g p hq
        · rw [hp 5 (by omega), hp 6 (by omega), hp 7 (by omega), hp 8 (by omega)]; exact i k hk
        · rw [hp 9 (by omega), hp 10 (by omega), hp 11 (by omega)]; exact j k hk
      have h4' : FC T m1 := FC.keep h2 h4 (fun w hw => ⟨a2.2 _ (by simp <;> omega), a2.2 _ (by simp <;> omega)⟩)
      obtain ⟨m2, b1, b2⟩ := FC.val h2' h4' (w := 1) (by omega) c1 (nI d) 0 0 0
      rw [if_neg (by rw [c1]; decide), show tP T + 15 = tP T + (12 + 3 * 1) from rfl, b1, cI_some, if_pos c1, l0, l1, cP_some, cP_some, ea]
      exact ⟨m2, rfl, (a2.mono (by simp)).trans (b2.mono (by simp))⟩
    · rw [if_pos (by rw [show told T 1 = 0 by omega]; rfl), if_neg c1, l0, l1, cP_some, cP_some, ea]
      exact ⟨m1, rfl, a2.mono (by simp)⟩
  · rw [if_pos (by rw [show told T 0 = 0 by omega]; rfl), if_neg c0]
    by_cases c1 : told T 1 = 1
    · obtain ⟨m1, a1, a2⟩ := FC.val h2 h4 (w := 1) (by omega) c1 (nI d) 0 0 0
      rw [if_neg (by rw [c1]; decide), show tP T + 15 = tP T + (12 + 3 * 1) from rfl, a1, cI_some, if_pos c1, l0, l1, cP_some, cP_some, ea]
      exact ⟨m1, rfl, a2.mono (by simp)⟩
    · rw [if_pos (by rw [show told T 1 = 0 by omega]; rfl), if_neg c1, l0, l1, cP_some, cP_some, ea]
      exact ⟨m, rfl, keeps.rfl'⟩
theorem c_become {T : Tn} {m : Mem} {d : Nat} : ∃ m', fX2_become m (nI d) (nI (dwn T d)) (nI (dsk T d)) = some m' ∧ keeps [53, 54] m m' ∧ m'.1 53 0 = nI d ∧ m'.1 53 1 = nI (dwn T d) ∧ m'.1 53 2 = nI (dsk T d) ∧ ∀ s, s < 3 → m'.1 54 s = hrs T d s := by
  have ha := dwn_lt T d
  have hb := dsk_lt T d
  obtain ⟨b0, b1, b2⟩ := day_bits (dwn T d) ha (dsk T d) hb.2 hb.1
  unfold fX2_become hrs
  generalize dwn T d = a at *
  generalize dsk T d = b at *
  have r1 : ∀ (x y z w : Int32), (sI (sI (sI (sI m 53 0 x) 53 1 y) 53 2 z) 54 0 w).1 54 0 = w := fun x y z w => by rw [sI_row, upd_at]
  simp only [pt_eq]
  have e2 : (sI (sI (sI m 53 0 (nI d)) 53 1 (nI a)) 53 2 (nI b)).1 53 2 = nI b := by rw [sI_row, upd_at]
  have e1 : (sI (sI (sI m 53 0 (nI d)) 53 1 (nI a)) 53 2 (nI b)).1 53 1 = nI a := by rw [sI_row, upd_ne (by omega), sI_row, upd_at]
  rw [e1, e2, wr_z (by omega) (by omega), rd_z (by omega) (by omega), r1, b0, b1, wr_1 (by omega) (by omega), sI_oth (by omega), sI_oth (by omega), e1, e2, arnd_ok a (by omega), arnd_ok b (by omega), cP_some, cP_some, b2, wr_2 (by omega) (by omega)]
  refine ⟨_, rfl, ((((((keeps.rfl'.sI (by simp)).sI (by simp)).sI (by simp)).sI (by simp)).sI (by simp)).sI (by simp)), ?_, ?_, ?_, ?_⟩
  · rw [sI_oth (by omega), sI_oth (by omega), sI_oth (by omega), sI_row, upd_ne (by omega), sI_row, upd_ne (by omega), sI_row, upd_at]
  · rw [sI_oth (by omega), sI_oth (by omega), sI_oth (by omega)]; exact e1
  · rw [sI_oth (by omega), sI_oth (by omega), sI_oth (by omega)]; exact e2
  · intro s hs
    rw [sI_row, sI_row, sI_row]
    rcases (show s = 0 ∨ s = 1 ∨ s = 2 by omega) with rfl | rfl | rfl
    · rw [upd_ne (by omega), upd_ne (by omega), upd_at]
    · rw [upd_ne (by omega), upd_at]
    · rw [upd_at]
theorem c_day {T : Tn} {m : Mem} (hT : TOK T) (h2 : TC T m) (h4 : FC T m) (h6 : DC T m) {d : Nat} (hd : d < 365) : ∃ m', fX9_dayOf m (nI d) = some (53, m') ∧ keeps [tP T + 14, tP T + 17, 53, 54, 55] m m' ∧ DC T m' ∧ m'.1 53 0 = nI d ∧ m'.1 53 1 = nI (dwn T d) ∧ m'.1 53 2 = nI (dsk T d) ∧ ∀ s, s < 3 → m'.1 54 s = hrs T d s := by
  have hP := h2.pl
  have ha := dwn_lt T d
  have hb := dsk_lt T d
  obtain ⟨s1, s2⟩ := sun_div _ ha _ hb.2 hb.1
  obtain ⟨g1, g2⟩ := id h6
  unfold fX9_dayOf
  by_cases c0 : m.1 53 0 = nI d
  · rw [if_pos c0]
    rcases g2 with g2 | ⟨d', e1, e2, e3, e4, e5⟩
    · rw [g2] at c0
      exact absurd (c0 ▸ (by decide : (-1 : Int32) < 0)) (nI_lt0 (by omega))
    · have : d' = d := (nI_eq (by omega) (by omega)).mp (e2.symm.trans c0)
      subst this
      exact ⟨m, rfl, keeps.rfl', h6, e2, e3, e4, e5⟩
  · rw [if_neg c0, rd_ok (by omega) (by omega)]
    by_cases c1 : m.1 55 d = 0
    · rw [if_pos c1]
      obtain ⟨m1, a1, a2⟩ := c_reckon hT h2 h4 (d := d)
      obtain ⟨m2, b1, b2, b3⟩ := c_become (T := T) (m := sI m1 55 d (nI (dwn T d * 32 + dsk T d))) (d := d)
      rw [a1, cI_some, wr_ok (by omega) (by omega), rd_ok (by omega) (by omega), rd_ok (by omega) (by omega), sI_row, upd_at, s2, s1, b1, cV_some]
      refine ⟨m2, rfl, ((a2.mono (by simp <;> omega)).sI (by simp)).trans (b2.mono (by simp)), ⟨fun d' hd' => ?_, Or.inr ⟨d, hd, b3⟩⟩, b3⟩
      rw [b2.2 55 (by simp), sI_row]
      by_cases e : d' = d
      · subst e; rw [upd_at]; exact Or.inr rfl
      · rw [upd_ne e, a2.2 55 (by simp <;> omega)]
        exact g1 d' hd'
    · have e55 : m.1 55 d = nI (dwn T d * 32 + dsk T d) := by
        rcases g1 d hd with q | q
        · exact absurd q c1
        · exact q
      obtain ⟨m2, b1, b2, b3⟩ := c_become (T := T) (m := m) (d := d)
      rw [if_neg c1, rd_ok (by omega) (by omega), rd_ok (by omega) (by omega), e55, s2, s1, b1, cV_some]
      refine ⟨m2, rfl, b2.mono (by simp <;> omega), ⟨fun d' hd' => ?_, Or.inr ⟨d, hd, b3⟩⟩, b3⟩
      rw [b2.2 55 (by simp)]
      exact g1 d' hd'
