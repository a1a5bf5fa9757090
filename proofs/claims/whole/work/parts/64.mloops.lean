/-! ===== the reference's loops over states ===== -/
def cpN (g f : Nat → Int32) (i : Nat) : Nat → Int32 := fun k => if k < i then g k else f k
theorem cpN_0 (g f : Nat → Int32) : cpN g f 0 = f := funext fun k => if_neg (by omega)
theorem cpN_s (g f : Nat → Int32) (i : Nat) : upd (cpN g f i) i (g i) = cpN g f (i + 1) := by
  funext k
  unfold upd cpN
  by_cases e : k = i
  · subst e; rw [if_pos rfl, if_pos (by omega)]
  · rw [if_neg e]
    by_cases c : k < i
    · rw [if_pos c, if_pos (by omega)]
    · rw [if_neg c, if_neg (by omega)]
theorem cpN_in {g f : Nat → Int32} {i k : Nat} (h : k < i) : cpN g f i k = g k := if_pos h
theorem cpN_out {g f : Nat → Int32} {i k : Nat} (h : i ≤ k) : cpN g f i k = f k := if_neg (by omega)
/-- the second half of act: the state is put behind those that are kept -/
theorem m_act1 (m : Mem) (a : Nat) (ha : a ≤ 39) (h60 : m.1 0 60 = nI a) : ∀ (k i : Nat), i + k = 37 → ∀ f, k < f → gX12_act f 1 (nI i) (sW m 37 (fb_put (m.1 37) (m.1 33) (37 * a) i)) = some (sI (sI (sW m 37 (fb_put (m.1 37) (m.1 33) (37 * a) 37)) 0 60 (nI (a + 1))) 0 61 0) := by
  intro k
  induction k with
  | zero =>
    intro i hi f hf
    obtain ⟨f, rfl⟩ : ∃ g, f = g + 1 := ⟨f - 1, by omega⟩
    have hi : i = 37 := by omega
    subst hi
    rw [gX12_act, if_pos (show (37 : Int32) ≤ nI 37 from nI_le (Nat.le_refl 37) (by omega)), pt_eq, pt_eq, sW_oth (by decide), h60, nI_1]
  | succ k ih =>
    intro i hi f hf
    obtain ⟨f, rfl⟩ : ∃ g, f = g + 1 := ⟨f - 1, by omega⟩
    rw [gX12_act, if_neg (show ¬ (37 : Int32) ≤ nI i from nI_ge (b := 37) (by omega) (by omega)), rd_ok (by omega) (by omega), sW_oth (by decide), sW_oth (by decide), h60, show (37 : Int32) * nI a + nI i = nI (37 * a + i) from by rw [show (37 : Int32) = nI 37 from rfl, pk_mul, nI_add], wr_ok (by omega) (by omega), sW_sI, fb_put_succ, nI_1]
    exact ih (i + 1) (by omega) f (by omega)
/-- its first half: the oldest goes -/
theorem m_act0 (m : Mem) (h60 : m.1 0 60 = nI 40) : ∀ (k i : Nat), i + k = 1443 → ∀ f, k + 40 < f → ∃ f', 38 < f' ∧ gX12_act f 0 (nI i) (sW m 37 (cpN (fun q => m.1 37 (37 + q)) (m.1 37) i)) = gX12_act f' 1 (nI 0) (sI (sW m 37 (cpN (fun q => m.1 37 (37 + q)) (m.1 37) 1443)) 0 60 (nI 39)) := by
  intro k
  induction k with
  | zero =>
    intro i hi f hf
    obtain ⟨f, rfl⟩ : ∃ g, f = g + 1 := ⟨f - 1, by omega⟩
    have hi : i = 1443 := by omega
    subst hi
    refine ⟨f, by omega, ?_⟩
    rw [gX12_act, if_pos (show (1443 : Int32) ≤ nI 1443 from nI_le (Nat.le_refl _) (by omega)), pt_eq, sW_oth (by decide), h60]
    rfl
  | succ k ih =>
    intro i hi f hf
    obtain ⟨f, rfl⟩ : ∃ g, f = g + 1 := ⟨f - 1, by omega⟩
    rw [gX12_act, if_neg (show ¬ (1443 : Int32) ≤ nI i from nI_ge (b := 1443) (by omega) (by omega)), show (37 : Int32) + nI i = nI (37 + i) from nI_add 37 i, rd_ok (by omega) (by omega), wr_ok (by omega) (by omega), sW_row, cpN_out (by omega), sW_sI, cpN_s, nI_1]
    exact ih (i + 1) (by omega) f (by omega)
/-- what act leaves -/
theorem m_act {m : Mem} {a : Nat} (ha : a ≤ 40) (h60 : m.1 0 60 = nI a) : ∃ m', fX12_act m = some m' ∧ m'.2 = m.2 ∧ (∀ r, r ≠ 0 → r ≠ 37 → m'.1 r = m.1 r) ∧ (∀ k, k ≠ 60 → k ≠ 61 → m'.1 0 k = m.1 0 k) ∧ m'.1 0 60 = nI (min (a + 1) 40) ∧ m'.1 0 61 = 0 ∧ m'.1 37 = fb_put (if a = 40 then cpN (fun q => m.1 37 (37 + q)) (m.1 37) 1443 else m.1 37) (m.1 33) (37 * (min a 39)) 37 := by
  unfold fX12_act
  by_cases c : a = 40
  · subst c
    rw [h60, if_pos (show nI 40 = (40 : Int32) from rfl)]
    have h0 : gX12_act 5000 0 (0 : Int32) m = gX12_act 5000 0 (nI 0) (sW m 37 (cpN (fun q => m.1 37 (37 + q)) (m.1 37) 0)) := by rw [cpN_0, sW_self]; rfl
    obtain ⟨f', hf', e⟩ := m_act0 m h60 1443 0 (by omega) 5000 (by omega)
    rw [h0, e]
    have h1 := m_act1 (sI (sW m 37 (cpN (fun q => m.1 37 (37 + q)) (m.1 37) 1443)) 0 60 (nI 39)) 39 (by omega) (by rw [sI_row, upd_at]) 37 0 (by omega) f' (by omega)
    rw [fb_put_0, sW_self] at h1
    rw [h1]
    refine ⟨_, rfl, rfl, fun r h0 h37 => ?_, fun k hk hk2 => ?_, ?_, ?_, ?_⟩
    · rw [sI_oth h0, sI_oth h0, sW_oth h37, sI_oth h0, sW_oth h37]
    · rw [sI_row, upd_ne hk2, sI_row, upd_ne hk, sW_oth (by decide), sI_row, upd_ne hk, sW_oth (by decide)]
    · rw [sI_row, upd_ne (by decide), sI_row, upd_at]; rfl
    · rw [sI_row, upd_at]
    · rw [sI_oth (by decide), sI_oth (by decide), sW_row, sI_oth (by decide), sI_oth (by decide), sW_row, sW_oth (by decide), if_pos rfl]; rfl
  · rw [h60, if_neg (show ¬ nI a = (40 : Int32) from fun z => c ((nI_eq (b := 40) (by omega) (by omega)).mp z))]
    have h1 := m_act1 m a (by omega) h60 37 0 (by omega) 5000 (by omega)
    rw [fb_put_0, sW_self] at h1
    rw [show (0 : Int32) = nI 0 from rfl, h1]
    refine ⟨_, rfl, rfl, fun r h0 h37 => ?_, fun k hk hk2 => ?_, ?_, ?_, ?_⟩
    · rw [sI_oth h0, sI_oth h0, sW_oth h37]
    · rw [sI_row, upd_ne hk2, sI_row, upd_ne hk, sW_oth (by decide)]
    · rw [sI_row, upd_ne (by decide), sI_row, upd_at, show min (a + 1) 40 = a + 1 by omega]
    · rw [sI_row, upd_at]; rfl
    · rw [sI_oth (by decide), sI_oth (by decide), sW_row, if_neg c, show min a 39 = a by omega]
/-- two states change places -/
theorem m_exch (m : Mem) (a : Nat) (ha : a ≤ 39) : ∀ (k i : Nat), i + k = 37 → ∀ f, k < f → gX12_exchange f (nI (37 * a)) (nI i) (sW (sW m 37 (fb_put (m.1 37) (m.1 33) (37 * a) i)) 33 (cpN (rowAt (m.1 37) a) (m.1 33) i)) = some (sW (sW m 37 (fb_put (m.1 37) (m.1 33) (37 * a) 37)) 33 (cpN (rowAt (m.1 37) a) (m.1 33) 37)) := by
  intro k
  induction k with
  | zero =>
    intro i hi f hf
    obtain ⟨f, rfl⟩ : ∃ g, f = g + 1 := ⟨f - 1, by omega⟩
    have hi : i = 37 := by omega
    subst hi
    rw [gX12_exchange, if_pos (show (37 : Int32) ≤ nI 37 from nI_le (Nat.le_refl 37) (by omega))]
  | succ k ih =>
    intro i hi f hf
    obtain ⟨f, rfl⟩ : ∃ g, f = g + 1 := ⟨f - 1, by omega⟩
    have e1 : (fb_put (m.1 37) (m.1 33) (37 * a) i) (37 * a + i) = rowAt (m.1 37) a i := fb_put_out (Or.inr (Nat.le_refl _))
    have e2 : cpN (rowAt (m.1 37) a) (m.1 33) i i = m.1 33 i := cpN_out (Nat.le_refl _)
    have r37 : ∀ g h : Nat → Int32, (sW (sW m 37 g) 33 h).1 37 = g := fun g h => by rw [sW_oth (by decide), sW_row]
    have r33 : ∀ g h : Nat → Int32, (sW (sW m 37 g) 33 h).1 33 = h := fun g h => sW_row _ _ _
    have e3 : ∀ (g h : Nat → Int32) (v : Int32), sI (sW (sW m 37 g) 33 h) 37 (37 * a + i) v = sW (sW m 37 (upd g (37 * a + i) v)) 33 h := by
      intro g h v
      unfold sI sW
      congr 1
      funext r
      unfold va_up
      by_cases x1 : r = 37
      · subst x1; simp
      · by_cases x2 : r = 33
        · subst x2; simp
        · simp [x1, x2]
    rw [gX12_exchange, if_neg (show ¬ (37 : Int32) ≤ nI i from nI_ge (b := 37) (by omega) (by omega)), nI_add, rd_ok (by omega) (by omega), rd_ok (by omega) (by omega), wr_ok (by omega) (by omega), r37, r33, e1, e2, e3, wr_ok (by omega) (by omega), sW_sI, cpN_s, fb_put_succ, nI_1]
    exact ih (i + 1) (by omega) f (by omega)
theorem m_exchange (m : Mem) (a : Nat) (ha : a ≤ 39) : fX12_exchange m (nI (37 * a)) = some (sW (sW m 37 (fb_put (m.1 37) (m.1 33) (37 * a) 37)) 33 (cpN (rowAt (m.1 37) a) (m.1 33) 37)) := by
  have h := m_exch m a ha 37 0 (by omega) 5000 (by omega)
  rw [fb_put_0, cpN_0, sW_self, sW_self] at h
  exact h
theorem m_image (m : Mem) (b : Nat) (hb : b < 3) : ∀ (k i : Nat), i + k = 37 → ∀ f, k < f → gX12_image f (nI b) (nI i) (sW m 47 (fb_put (m.1 47) (m.1 33) (37 * b) i)) = some (m.1 33 36, sW m 47 (fb_put (m.1 47) (m.1 33) (37 * b) 37)) := by
  intro k
  induction k with
  | zero =>
    intro i hi f hf
    obtain ⟨f, rfl⟩ : ∃ g, f = g + 1 := ⟨f - 1, by omega⟩
    have hi : i = 37 := by omega
    subst hi
    rw [gX12_image, if_pos (show (37 : Int32) ≤ nI 37 from nI_le (Nat.le_refl 37) (by omega)), (rd_now _ _).2.2, sW_oth (by decide)]
  | succ k ih =>
    intro i hi f hf
    obtain ⟨f, rfl⟩ : ∃ g, f = g + 1 := ⟨f - 1, by omega⟩
    rw [gX12_image, if_neg (show ¬ (37 : Int32) ≤ nI i from nI_ge (b := 37) (by omega) (by omega)), rd_ok (by omega) (by omega), sW_oth (by decide), show (37 : Int32) * nI b + nI i = nI (37 * b + i) from by rw [show (37 : Int32) = nI 37 from rfl, pk_mul, nI_add], wr_ok (by omega) (by omega), sW_sI, fb_put_succ, nI_1]
    exact ih (i + 1) (by omega) f (by omega)
theorem m_back (m : Mem) (b : Nat) (hb : b < 3) : ∀ (k i : Nat), i + k = 37 → ∀ f, k < f → gX12_back f (nI b) (nI i) (sW m 33 (cpN (rowAt (m.1 47) b) (m.1 33) i)) = some (rowAt (m.1 47) b 36, sI (sI (sW m 33 (cpN (rowAt (m.1 47) b) (m.1 33) 37)) 0 60 0) 0 61 0) := by
  intro k
  induction k with
  | zero =>
    intro i hi f hf
    obtain ⟨f, rfl⟩ : ∃ g, f = g + 1 := ⟨f - 1, by omega⟩
    have hi : i = 37 := by omega
    subst hi
    rw [gX12_back, if_pos (show (37 : Int32) ≤ nI 37 from nI_le (Nat.le_refl 37) (by omega)), pt_eq, pt_eq, (rd_now _ _).2.2, sI_oth (by decide), sI_oth (by decide), sW_row, cpN_in (by decide)]
  | succ k ih =>
    intro i hi f hf
    obtain ⟨f, rfl⟩ : ∃ g, f = g + 1 := ⟨f - 1, by omega⟩
    have e : cpN (rowAt (m.1 47) b) (m.1 33) (i + 1) = upd (cpN (rowAt (m.1 47) b) (m.1 33) i) i (m.1 47 (37 * b + i)) := (cpN_s _ _ _).symm
    rw [gX12_back, if_neg (show ¬ (37 : Int32) ≤ nI i from nI_ge (b := 37) (by omega) (by omega)), show (37 : Int32) * nI b + nI i = nI (37 * b + i) from by rw [show (37 : Int32) = nI 37 from rfl, pk_mul, nI_add], rd_ok (by omega) (by omega), sW_oth (by decide), wr_ok (by omega) (by omega), sW_sI, ← e, nI_1]
    exact ih (i + 1) (by omega) f (by omega)
