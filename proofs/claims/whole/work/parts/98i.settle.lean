/-! ===== the reference takes the town over ===== -/
theorem gm_zero : ∀ (k i : Nat), i + k = 37 → ∀ (f : Nat) (m : Mem), k < f → ∃ f' m', f = f' + (k + 1) ∧ gX12_town f 2 (nI i) 0 m = gX12_town f' 3 (0 : Int32) 0 m' ∧ keeps [33] m m' ∧ (∀ j, j < i → m'.1 33 j = m.1 33 j) ∧ ∀ j, i ≤ j → j < 37 → m'.1 33 j = 0 := by
  intro k
  induction k with
  | zero =>
    intro i hi f m hf
    obtain ⟨f, rfl⟩ : ∃ g, f = g + 1 := ⟨f - 1, by omega⟩
    refine ⟨f, m, rfl, ?_, keeps.rfl', fun _ _ => rfl, fun j _ _ => by omega⟩
    rw [gX12_town, if_pos (show (37 : Int32) ≤ nI i from nI_le (a := 37) (by omega) (by omega))]
  | succ k ih =>
    intro i hi f m hf
    obtain ⟨f, rfl⟩ : ∃ g, f = g + 1 := ⟨f - 1, by omega⟩
    obtain ⟨f', m', a1, a2, a3, a4, a5⟩ := ih (i + 1) (by omega) f (sI m 33 i 0) (by omega)
    refine ⟨f', m', by omega, ?_, (keeps.rfl'.sI (by simp)).trans a3, fun j hj => ?_, fun j h1 h2 => ?_⟩
    · rw [gX12_town, if_neg (show ¬ (37 : Int32) ≤ nI i from nI_ge (b := 37) (by omega) (by omega)), wr_ok (by omega) (by omega), nI_1]
      exact a2
    · rw [a4 j (by omega), sI_row, upd_ne (by omega)]
    · by_cases e : j = i
      · rw [e, a4 i (by omega), sI_row, upd_at]
      · exact a5 j (by omega) h2
theorem gm_pers {np : Nat} (hnp : np ≤ 7) : ∀ (k i : Nat), i + k = 7 → ∀ (f : Nat) (m : Mem), k < f → m.1 0 51 = nI np → ∃ f' m', f = f' + (k + 1) ∧ gX12_town f 3 (nI i) 0 m = gX12_town f' 4 (0 : Int32) 0 m' ∧ keeps [17, 18, 33] m m' ∧ (∀ j, j < i → m'.1 17 j = m.1 17 j ∧ m'.1 18 j = m.1 18 j) ∧ (∀ j, (j < i ∨ 7 ≤ j) → m'.1 33 j = m.1 33 j) ∧ ∀ j, i ≤ j → j < 7 → m'.1 17 j = m.1 14 j ∧ m'.1 18 j = (if 0 ≤ m.1 16 j then m.1 16 j else 0) ∧ m'.1 33 j = (if np ≤ j then 0 else m.1 15 j) := by
  intro k
  induction k with
  | zero =>
    intro i hi f m hf h51
    obtain ⟨f, rfl⟩ : ∃ g, f = g + 1 := ⟨f - 1, by omega⟩
    refine ⟨f, m, rfl, ?_, keeps.rfl', fun _ _ => ⟨rfl, rfl⟩, fun _ _ => rfl, fun j _ _ => by omega⟩
    rw [gX12_town, if_pos (show (7 : Int32) ≤ nI i from nI_le (a := 7) (by omega) (by omega))]
  | succ k ih =>
    intro i hi f m hf h51
    obtain ⟨f, rfl⟩ : ∃ g, f = g + 1 := ⟨f - 1, by omega⟩
    generalize hv : (if 0 ≤ m.1 16 i then m.1 16 i else 0) = v
    generalize hs : (if np ≤ i then 0 else m.1 15 i) = s
    generalize hm1 : sI (sI (sI m 17 i (m.1 14 i)) 18 i v) 33 i s = m1
    have r1 : keeps [17, 18, 33] m m1 := by rw [← hm1]; exact ((keeps.rfl'.sI (by simp)).sI (by simp)).sI (by simp)
    have r17 : m1.1 17 = upd (m.1 17) i (m.1 14 i) := by rw [← hm1, sI_oth (by omega), sI_oth (by omega), sI_row]
    have r18 : m1.1 18 = upd (m.1 18) i v := by rw [← hm1, sI_oth (by omega), sI_row, sI_oth (by omega)]
    have r33 : m1.1 33 = upd (m.1 33) i s := by rw [← hm1, sI_row, sI_oth (by omega), sI_oth (by omega)]
    obtain ⟨f', m', a1, a2, a3, a4, a5, a6⟩ := ih (i + 1) (by omega) f m1 (by omega) (by rw [r1.2 0 (by simp)]; exact h51)
    refine ⟨f', m', by omega, ?_, r1.trans a3, fun j hj => ?_, fun j hj => ?_, fun j h1 h2 => ?_⟩
    · rw [← a2, gX12_town, if_neg (show ¬ (7 : Int32) ≤ nI i from nI_ge (b := 7) (by omega) (by omega)), rd_ok (by omega) (by omega), wr_ok (by omega) (by omega), sI_oth (by omega), rd_ok (by omega) (by omega)]
      have tail : ∀ v : Int32, (if ((sI (sI m 17 i (m.1 14 i)) 18 i v).1 0 51) ≤ nI i then (wr (sI (sI m 17 i (m.1 14 i)) 18 i v) 33 37 (nI i) (0 : Int32) fun m9 => (gX12_town f 3 (nI i + (1 : Int32)) 0 m9)) else (rd ((sI (sI m 17 i (m.1 14 i)) 18 i v).1 15) 7 (nI i) fun v10 => (wr (sI (sI m 17 i (m.1 14 i)) 18 i v) 33 37 (nI i) v10 fun m11 => (gX12_town f 3 (nI i + (1 : Int32)) 0 m11)))) = gX12_town f 3 (nI (i + 1)) 0 (sI (sI (sI m 17 i (m.1 14 i)) 18 i v) 33 i s) := fun v => by
        rw [sI_oth (by omega), sI_oth (by omega), sI_oth (by omega), sI_oth (by omega), h51, rd_ok (by omega) (by omega), wr_ok (by omega) (by omega), wr_ok (by omega) (by omega), nI_1]
        by_cases e : np ≤ i
        · rw [if_pos (nI_le e (by omega)), ← hs, if_pos e]
        · rw [if_neg (nI_ge (by omega) (by omega)), ← hs, if_neg e]
      by_cases e : 0 ≤ m.1 16 i
      · rw [if_pos e, rd_ok (by omega) (by omega), wr_ok (by omega) (by omega), tail, ← hm1, ← hv, if_pos e]
      · rw [if_neg e, wr_ok (by omega) (by omega), tail, ← hm1, ← hv, if_neg e]
    · rw [(a4 j (by omega)).1, (a4 j (by omega)).2, r17, r18, upd_ne (by omega), upd_ne (by omega)]
      exact ⟨rfl, rfl⟩
    · rw [a5 j (by omega), r33, upd_ne (by omega)]
    · by_cases e : j = i
      · rw [e, (a4 i (by omega)).1, (a4 i (by omega)).2, a5 i (by omega), r17, r18, r33, upd_at, upd_at, upd_at, hv, hs]
        exact ⟨rfl, rfl, rfl⟩
      · have := a6 j (by omega) h2
        rw [r1.2 14 (by simp), r1.2 15 (by simp), r1.2 16 (by simp)] at this
        exact this
theorem gm_meets : ∀ (k i : Nat), i + k = 10 → ∀ (f : Nat) (m : Mem), k < f → ∃ f' m', f = f' + (k + 1) ∧ gX12_town f 4 (nI i) 0 m = gX12_town f' 5 (0 : Int32) 0 m' ∧ keeps [23, 24, 25, 26] m m' ∧ (∀ j, j < i → m'.1 23 j = m.1 23 j ∧ m'.1 24 j = m.1 24 j ∧ m'.1 25 j = m.1 25 j ∧ m'.1 26 j = m.1 26 j) ∧ ∀ j, i ≤ j → j < 10 → m'.1 23 j = m.1 19 j ∧ m'.1 24 j = m.1 20 j ∧ m'.1 25 j = m.1 21 j ∧ m'.1 26 j = m.1 22 j := by
  intro k
  induction k with
  | zero =>
    intro i hi f m hf
    obtain ⟨f, rfl⟩ : ∃ g, f = g + 1 := ⟨f - 1, by omega⟩
    refine ⟨f, m, rfl, ?_, keeps.rfl', fun _ _ => ⟨rfl, rfl, rfl, rfl⟩, fun j _ _ => by omega⟩
    rw [gX12_town, if_pos (show (10 : Int32) ≤ nI i from nI_le (a := 10) (by omega) (by omega))]
  | succ k ih =>
    intro i hi f m hf
    obtain ⟨f, rfl⟩ : ∃ g, f = g + 1 := ⟨f - 1, by omega⟩
    generalize hm1 : sI (sI (sI (sI m 23 i (m.1 19 i)) 24 i (m.1 20 i)) 25 i (m.1 21 i)) 26 i (m.1 22 i) = m1
    have r1 : keeps [23, 24, 25, 26] m m1 := by rw [← hm1]; exact (((keeps.rfl'.sI (by simp)).sI (by simp)).sI (by simp)).sI (by simp)
    have r23 : m1.1 23 = upd (m.1 23) i (m.1 19 i) := by rw [← hm1, sI_oth (by omega), sI_oth (by omega), sI_oth (by omega), sI_row]
    have r24 : m1.1 24 = upd (m.1 24) i (m.1 20 i) := by rw [← hm1, sI_oth (by omega), sI_oth (by omega), sI_row, sI_oth (by omega)]
    have r25 : m1.1 25 = upd (m.1 25) i (m.1 21 i) := by rw [← hm1, sI_oth (by omega), sI_row, sI_oth (by omega), sI_oth (by omega)]
    have r26 : m1.1 26 = upd (m.1 26) i (m.1 22 i) := by rw [← hm1, sI_row, sI_oth (by omega), sI_oth (by omega), sI_oth (by omega)]
    obtain ⟨f', m', a1, a2, a3, a4, a5⟩ := ih (i + 1) (by omega) f m1 (by omega)
    refine ⟨f', m', by omega, ?_, r1.trans a3, fun j hj => ?_, fun j h1 h2 => ?_⟩
    · rw [← a2, gX12_town, if_neg (show ¬ (10 : Int32) ≤ nI i from nI_ge (b := 10) (by omega) (by omega)), rd_ok (by omega) (by omega), wr_ok (by omega) (by omega), sI_oth (by omega), rd_ok (by omega) (by omega), wr_ok (by omega) (by omega), sI_oth (by omega), sI_oth (by omega), rd_ok (by omega) (by omega), wr_ok (by omega) (by omega), sI_oth (by omega), sI_oth (by omega), sI_oth (by omega), rd_ok (by omega) (by omega), wr_ok (by omega) (by omega), nI_1, hm1]
    · obtain ⟨x1, x2, x3, x4⟩ := a4 j (by omega)
      rw [x1, x2, x3, x4, r23, r24, r25, r26, upd_ne (by omega), upd_ne (by omega), upd_ne (by omega), upd_ne (by omega)]
      exact ⟨rfl, rfl, rfl, rfl⟩
    · by_cases e : j = i
      · obtain ⟨x1, x2, x3, x4⟩ := a4 i (by omega)
        rw [e, x1, x2, x3, x4, r23, r24, r25, r26, upd_at, upd_at, upd_at, upd_at]
        exact ⟨rfl, rfl, rfl, rfl⟩
      · have := a5 j (by omega) h2
        rw [r1.2 19 (by simp), r1.2 20 (by simp), r1.2 21 (by simp), r1.2 22 (by simp)] at this
        exact this
theorem gm_noises : ∀ (k i : Nat), i + k = 8 → ∀ (f : Nat) (m : Mem), k < f → ∃ f' m', f = f' + k ∧ gX12_town f 5 (nI i) 0 m = gX12_town f' 5 (nI 8) 0 m' ∧ keeps [30, 31, 32] m m' ∧ (∀ j, j < i → m'.1 30 j = m.1 30 j ∧ m'.1 31 j = m.1 31 j ∧ m'.1 32 j = m.1 32 j) ∧ ∀ j, i ≤ j → j < 8 → m'.1 30 j = m.1 27 j ∧ m'.1 31 j = m.1 28 j ∧ m'.1 32 j = m.1 29 j := by
  intro k
  induction k with
  | zero =>
    intro i hi f m hf
    have e : i = 8 := by omega
    subst e
    exact ⟨f, m, rfl, rfl, keeps.rfl', fun _ _ => ⟨rfl, rfl, rfl⟩, fun j _ _ => by omega⟩
  | succ k ih =>
    intro i hi f m hf
    obtain ⟨f, rfl⟩ : ∃ g, f = g + 1 := ⟨f - 1, by omega⟩
    generalize hm1 : sI (sI (sI m 30 i (m.1 27 i)) 31 i (m.1 28 i)) 32 i (m.1 29 i) = m1
    have r1 : keeps [30, 31, 32] m m1 := by rw [← hm1]; exact ((keeps.rfl'.sI (by simp)).sI (by simp)).sI (by simp)
    have r30 : m1.1 30 = upd (m.1 30) i (m.1 27 i) := by rw [← hm1, sI_oth (by omega), sI_oth (by omega), sI_row]
    have r31 : m1.1 31 = upd (m.1 31) i (m.1 28 i) := by rw [← hm1, sI_oth (by omega), sI_row, sI_oth (by omega)]
    have r32 : m1.1 32 = upd (m.1 32) i (m.1 29 i) := by rw [← hm1, sI_row, sI_oth (by omega), sI_oth (by omega)]
    obtain ⟨f', m', a1, a2, a3, a4, a5⟩ := ih (i + 1) (by omega) f m1 (by omega)
    refine ⟨f', m', by omega, ?_, r1.trans a3, fun j hj => ?_, fun j h1 h2 => ?_⟩
    · rw [← a2, gX12_town, if_neg (show ¬ (8 : Int32) ≤ nI i from nI_ge (b := 8) (by omega) (by omega)), rd_ok (by omega) (by omega), wr_ok (by omega) (by omega), sI_oth (by omega), rd_ok (by omega) (by omega), wr_ok (by omega) (by omega), sI_oth (by omega), sI_oth (by omega), rd_ok (by omega) (by omega), wr_ok (by omega) (by omega), nI_1, hm1]
    · obtain ⟨x1, x2, x3⟩ := a4 j (by omega)
      rw [x1, x2, x3, r30, r31, r32, upd_ne (by omega), upd_ne (by omega), upd_ne (by omega)]
      exact ⟨rfl, rfl, rfl⟩
    · by_cases e : j = i
      · obtain ⟨x1, x2, x3⟩ := a4 i (by omega)
        rw [e, x1, x2, x3, r30, r31, r32, upd_at, upd_at, upd_at]
        exact ⟨rfl, rfl, rfl⟩
      · have := a5 j (by omega) h2
        rw [r1.2 27 (by simp), r1.2 28 (by simp), r1.2 29 (by simp)] at this
        exact this
theorem gm_codes {w : Nat} (hw : w < 3) {n : Nat} (hn : n ≤ 320) : ∀ (k i : Nat), i + k = n → ∀ (f : Nat) (m : Mem), k < f → m.1 8 w = nI n → ∃ f' m', f = f' + (k + 1) ∧ gX12_town f 1 (nI w) (nI (320 * w + i)) m = gX12_town f' 0 (nI (w + 1)) 0 m' ∧ keeps [6, 7] m m' ∧ (∀ j, (j < 320 * w + i ∨ 320 * w + n ≤ j) → m'.1 6 j = m.1 6 j ∧ m'.1 7 j = m.1 7 j) ∧ ∀ j, 320 * w + i ≤ j → j < 320 * w + n → m'.1 6 j = m.1 3 j ∧ m'.1 7 j = m.1 4 j := by
  intro k
  induction k with
  | zero =>
    intro i hi f m hf h8
    obtain ⟨f, rfl⟩ : ∃ g, f = g + 1 := ⟨f - 1, by omega⟩
    refine ⟨f, m, rfl, ?_, keeps.rfl', fun _ _ => ⟨rfl, rfl⟩, fun j _ _ => by omega⟩
    rw [gX12_town, rd_ok hw (by omega), h8, show (320 : Int32) * nI w = nI (320 * w) from pk_mul 320 w, nI_add, if_pos (nI_le (by omega) (by omega)), nI_1]
  | succ k ih =>
    intro i hi f m hf h8
    obtain ⟨f, rfl⟩ : ∃ g, f = g + 1 := ⟨f - 1, by omega⟩
    generalize hm1 : sI (sI m 6 (320 * w + i) (m.1 3 (320 * w + i))) 7 (320 * w + i) (m.1 4 (320 * w + i)) = m1
    have r1 : keeps [6, 7] m m1 := by rw [← hm1]; exact (keeps.rfl'.sI (by simp)).sI (by simp)
    have r6 : m1.1 6 = upd (m.1 6) (320 * w + i) (m.1 3 (320 * w + i)) := by rw [← hm1, sI_oth (by omega), sI_row]
    have r7 : m1.1 7 = upd (m.1 7) (320 * w + i) (m.1 4 (320 * w + i)) := by rw [← hm1, sI_row, sI_oth (by omega)]
    obtain ⟨f', m', a1, a2, a3, a4, a5⟩ := ih (i + 1) (by omega) f m1 (by omega) (by rw [r1.2 8 (by simp)]; exact h8)
    refine ⟨f', m', by omega, ?_, r1.trans a3, fun j hj => ?_, fun j h1 h2 => ?_⟩
    · rw [← a2, gX12_town, rd_ok hw (by omega), h8, show (320 : Int32) * nI w = nI (320 * w) from pk_mul 320 w, nI_add, if_neg (nI_ge (by omega) (by omega)), rd_ok (by omega) (by omega), wr_ok (by omega) (by omega), sI_oth (by omega), rd_ok (by omega) (by omega), wr_ok (by omega) (by omega), nI_1, hm1]
      rfl
    · obtain ⟨x1, x2⟩ := a4 j (by omega)
      rw [x1, x2, r6, r7, upd_ne (by omega), upd_ne (by omega)]
      exact ⟨rfl, rfl⟩
    · by_cases e : j = 320 * w + i
      · obtain ⟨x1, x2⟩ := a4 j (by omega)
        rw [x1, x2, r6, r7, e, upd_at, upd_at]
        exact ⟨rfl, rfl⟩
      · have := a5 j (by omega) h2
        rw [r1.2 3 (by simp), r1.2 4 (by simp)] at this
        exact this
def FMw (T : Tn) (w : Nat) (m : Mem) : Prop := m.1 12 w = nI (told T w) ∧ (told T w = 0 → m.1 8 w = 0) ∧ (told T w = 1 → ∃ cs : List (Int32 × Int32), cs.length ≤ 320 ∧ m.1 8 w = nI cs.length ∧ (∀ i, i < cs.length → m.1 6 (320 * w + i) = (cs.getD i (0, 0)).1 ∧ m.1 7 (320 * w + i) = (cs.getD i (0, 0)).2) ∧ depM 60 cs 0 = some 1 ∧ ∀ d h l f, cs.foldl (stepM d h l f) [] = [T.2 w d h l f])
theorem gm_forms {T : Tn} (ht : ∀ w, w < 3 → told T w ≤ 1) : ∀ (k i : Nat), i + k = 3 → ∀ (f : Nat) (m : Mem), 330 * k < f → FMn T m → (∀ w, w < i → FMw T w m) → ∃ f' m', f ≤ f' + (330 * k + 1) ∧ gX12_town f 0 (nI i) 0 m = gX12_town f' 2 (0 : Int32) 0 m' ∧ keeps [6, 7, 8, 12] m m' ∧ FM T m' := by
  intro k
  induction k with
  | zero =>
    intro i hi f m hf hn hd
    obtain ⟨f, rfl⟩ : ∃ g, f = g + 1 := ⟨f - 1, by omega⟩
    refine ⟨f, m, by omega, ?_, keeps.rfl', fun w hw => hd w (by omega)⟩
    rw [gX12_town, if_pos (show (3 : Int32) ≤ nI i from nI_le (a := 3) (by omega) (by omega))]
  | succ k ih =>
    intro i hi f m hf hn hd
    obtain ⟨f, rfl⟩ : ∃ g, f = g + 1 := ⟨f - 1, by omega⟩
    have hi3 : i < 3 := by omega
    have hti := ht i hi3
    obtain ⟨n1, n2⟩ := hn i hi3
    have hnar : vp_nar .boolean (nI (told T i)) = nI (told T i) := by
      rcases (show told T i = 0 ∨ told T i = 1 by omega) with z | z <;> rw [z] <;> decide
    have hlen : ∃ n, n ≤ 320 ∧ (told T i = 0 → n = 0) ∧ (told T i = 1 → m.1 5 i = nI n) ∧ gX12_town (f + 1) 0 (nI i) 0 m = gX12_town f 1 (nI i) (nI (320 * i + 0)) (sI (sI m 12 i (nI (told T i))) 8 i (nI n)) := by
      have b : gX12_town (f + 1) 0 (nI i) 0 m = (if nI (told T i) = 0 then (wr (sI m 12 i (nI (told T i))) 8 3 (nI i) (0 : Int32) fun m6 => (nm ((320 : Int32) * nI i) fun v7 => (gX12_town f 1 (nI i) v7 m6))) else (rd ((sI m 12 i (nI (told T i))).1 5) 3 (nI i) fun v8 => (wr (sI m 12 i (nI (told T i))) 8 3 (nI i) v8 fun m9 => (nm ((320 : Int32) * nI i) fun v10 => (gX12_town f 1 (nI i) v10 m9))))) := by
        rw [gX12_town, if_neg (show ¬ (3 : Int32) ≤ nI i from nI_ge (b := 3) (by omega) (by omega)), rd_ok hi3 (by omega), n1, hnar, wr_ok hi3 (by omega), sI_row, rd_ok hi3 (by omega), upd_at]
      rw [b]
      rcases (show told T i = 0 ∨ told T i = 1 by omega) with z | z
      · refine ⟨0, by omega, fun _ => rfl, fun y => by omega, ?_⟩
        rw [if_pos (by rw [z]; rfl), wr_ok hi3 (by omega), nm_eq, show (320 : Int32) * nI i = nI (320 * i) from pk_mul 320 i]
        rfl
      · obtain ⟨cs, l1, l2, l3⟩ := n2 z
        refine ⟨cs.length, l1, fun y => by omega, fun _ => l2, ?_⟩
        rw [if_neg (by rw [z]; decide), sI_oth (by omega), rd_ok hi3 (by omega), wr_ok hi3 (by omega), nm_eq, show (320 : Int32) * nI i = nI (320 * i) from pk_mul 320 i, l2]
        rfl
    obtain ⟨n, e1, e2, e3, e4⟩ := hlen
    generalize hm1 : sI (sI m 12 i (nI (told T i))) 8 i (nI n) = m1 at e4
    have r1 : keeps [6, 7, 8, 12] m m1 := by rw [← hm1]; exact (keeps.rfl'.sI (by simp)).sI (by simp)
    have r8 : m1.1 8 = upd (m.1 8) i (nI n) := by rw [← hm1, sI_row, sI_oth (by omega)]
    have r12 : m1.1 12 = upd (m.1 12) i (nI (told T i)) := by rw [← hm1, sI_oth (by omega), sI_row]
    have r67 : m1.1 6 = m.1 6 ∧ m1.1 7 = m.1 7 := by rw [← hm1, sI_oth (by omega), sI_oth (by omega), sI_oth (by omega), sI_oth (by omega)]; exact ⟨rfl, rfl⟩
    obtain ⟨f1, m2, a1, a2, a3, a4, a5⟩ := gm_codes hi3 e1 n 0 (by omega) f m1 (by omega) (by rw [r8, upd_at])
    have k2 : keeps [6, 7, 8, 12] m m2 := r1.trans (a3.mono (by simp))
    have hn2 : FMn T m2 := by
      have := hn
      unfold FMn at this ⊢
      rw [k2.2 3 (by simp), k2.2 4 (by simp), k2.2 5 (by simp), k2.2 11 (by simp)]
      exact this
    have hd2 : ∀ w, w < i + 1 → FMw T w m2 := by
      intro w hw
      unfold FMw
      rw [a3.2 8 (by simp), a3.2 12 (by simp), r8, r12]
      by_cases z : w = i
      · subst z
        rw [upd_at, upd_at]
        refine ⟨rfl, fun y => by rw [e2 y]; rfl, fun y => ?_⟩
        obtain ⟨cs, l1, l2, l3, l4⟩ := n2 y
        have en : n = cs.length := (nI_eq (by omega) (by omega)).mp ((e3 y).symm.trans l2)
        refine ⟨cs, l1, by rw [en], fun q hq => ?_, l4⟩
        obtain ⟨x1, x2⟩ := a5 (320 * w + q) (by omega) (by omega)
        rw [x1, x2, r1.2 3 (by simp), r1.2 4 (by simp)]
        exact l3 q hq
      · rw [upd_ne z, upd_ne z]
        obtain ⟨y1, y2, y3⟩ := hd w (by omega)
        refine ⟨y1, y2, fun y => ?_⟩
        obtain ⟨cs, l1, l2, l3, l4⟩ := y3 y
        refine ⟨cs, l1, l2, fun q hq => ?_, l4⟩
        obtain ⟨x1, x2⟩ := a4 (320 * w + q) (by omega)
        rw [x1, x2, r67.1, r67.2]
        exact l3 q hq
    obtain ⟨f', m', b1, b2, b3, b4⟩ := ih (i + 1) (by omega) f1 m2 (by omega) hn2 hd2
    exact ⟨f', m', by omega, by rw [e4, a2, b2], k2.trans b3, b4⟩
theorem gm_boxes (f : Nat) (m : Mem) : ∃ m', gX12_town (f + 4) 6 (0 : Int32) 0 m = some (m.1 0 51, m') ∧ keeps [46] m m' ∧ ∀ b, b < 3 → m'.1 46 b = 0 := by
  refine ⟨sI (sI (sI m 46 0 0) 46 1 0) 46 2 0, ?_, ((keeps.rfl'.sI (by simp)).sI (by simp)).sI (by simp), fun b hb => ?_⟩
  · rw [gX12_town, if_neg (show ¬ (3 : Int32) ≤ 0 by decide), wr_z (by omega) (by omega), nar1.2, show (0 : Int32) + 1 = 1 from rfl]
    rw [gX12_town, if_neg (show ¬ (3 : Int32) ≤ 1 by decide), wr_1 (by omega) (by omega), nar1.2, show (1 : Int32) + 1 = 2 from rfl]
    rw [gX12_town, if_neg (show ¬ (3 : Int32) ≤ 2 by decide), wr_2 (by omega) (by omega), nar1.2, show (2 : Int32) + 1 = 3 from rfl]
    rw [gX12_town, if_pos (show (3 : Int32) ≤ 3 by decide), sI_oth (by omega), sI_oth (by omega), sI_oth (by omega)]
  · rw [sI_row, sI_row, sI_row]
    rcases (show b = 0 ∨ b = 1 ∨ b = 2 by omega) with rfl | rfl | rfl <;> rfl
/-- all of it -/
theorem m_settle {T : Tn} {nms : Nat → List Nat} {m : Mem} (hP : PT T nms) (hM : PM T nms m) (h51 : m.1 0 51 = nI (tnp T)) (h52 : m.1 0 52 = nI (tnm T)) (h53 : m.1 0 53 = nI (tnn T)) (h24 : m.1 0 24 = nI (tun T)) :
    ∃ m', gX12_town 5000 0 (0 : Int32) 0 m = some (nI (tnp T), m') ∧ (∀ r, r ∉ [0, 6, 7, 8, 12, 17, 18, 23, 24, 25, 26, 30, 31, 32, 33, 46] → m'.1 r = m.1 r) ∧ (∀ s, s ∉ [60, 61, 63, 69] → m'.1 0 s = m.1 0 s) ∧ TM T m' ∧ FM T m' ∧ m'.1 0 60 = 0 ∧ m'.1 0 61 = 0 ∧ m'.1 0 63 = 0 ∧ m'.1 0 69 = 0 ∧ (∀ b, b < 3 → m'.1 46 b = 0) ∧ ∀ i, i < 37 → m'.1 33 i = (if i < tnp T then nI (T.1 22 i) else if i = 36 then nI (T.1 20 6) else 0) := by
  have hnp := hP.1.1
  have hnm := hP.1.2.1
  have hnn := hP.1.2.2.1
  obtain ⟨f1, m1, a1, a2, a3, a4⟩ := gm_forms hP.1.2.2.2.2.2.2.2.2 3 0 (by omega) 5000 m (by omega) hM.2.2.2.2 (fun w hw => absurd hw (Nat.not_lt_zero w))
  obtain ⟨f2, m2, b1, b2, b3, b4, b5⟩ := gm_zero 37 0 (by omega) f1 m1 (by omega)
  obtain ⟨f3, m3, d1, d2, d3, d4, d5, d6⟩ := gm_pers hnp 7 0 (by omega) f2 m2 (by omega) (by rw [b3.2 0 (by simp), a3.2 0 (by simp)]; exact h51)
  obtain ⟨f4, m4, e1, e2, e3, e4, e5⟩ := gm_meets 10 0 (by omega) f3 m3 (by omega)
  obtain ⟨f5, m5, g1, g2, g3, g4, g5⟩ := gm_noises 8 0 (by omega) f4 m4 (by omega)
  generalize hm6 : sI (sI (sI (sI (sI m5 33 36 (m5.1 0 50)) 0 60 0) 0 61 0) 0 69 0) 0 63 0 = m6
  obtain ⟨m7, q1, q2, q3⟩ := gm_boxes (f5 - 5) m6
  have mr : ∀ r, r ∉ [6, 7, 8, 12, 17, 18, 23, 24, 25, 26, 30, 31, 32, 33] → m5.1 r = m.1 r := fun r hr => by
    simp only [List.mem_cons, List.not_mem_nil, or_false, not_or] at hr
    rw [g3.2 r (by simp; omega), e3.2 r (by simp; omega), d3.2 r (by simp; omega), b3.2 r (by simp; omega), a3.2 r (by simp; omega)]
  have m60 : ∀ s, s ∉ [60, 61, 63, 69] → m7.1 0 s = m.1 0 s := fun s hs => by
    simp only [List.mem_cons, List.not_mem_nil, or_false, not_or] at hs
    rw [q2.2 0 (by simp), ← hm6, sI_row, upd_ne (by omega), sI_row, upd_ne (by omega), sI_row, upd_ne (by omega), sI_row, upd_ne (by omega), sI_oth (by omega), mr 0 (by simp)]
  have m7r : ∀ r, r ≠ 0 → r ≠ 33 → r ≠ 46 → m7.1 r = m5.1 r := fun r x1 x2 x3 => by
    rw [q2.2 r (by simp; omega), ← hm6, sI_oth x1, sI_oth x1, sI_oth x1, sI_oth x1, sI_oth x2]
  have m733 : m7.1 33 = upd (m5.1 33) 36 (m.1 0 50) := by
    rw [q2.2 33 (by simp), ← hm6, sI_oth (by omega), sI_oth (by omega), sI_oth (by omega), sI_oth (by omega), sI_row, mr 0 (by simp)]
  refine ⟨m7, ?_, fun r hr => ?_, m60, ⟨?_, ?_, ?_, ?_, fun p hp => ?_, fun k hk => ?_, fun k hk => ?_⟩, ?_, ?_, ?_, ?_, ?_, q3, fun i hi => ?_⟩
  · rw [show gX12_town 5000 0 (0 : Int32) 0 m = _ from a2, show gX12_town f1 2 (0 : Int32) 0 m1 = _ from b2, show gX12_town f2 3 (0 : Int32) 0 m2 = _ from d2, show gX12_town f3 4 (0 : Int32) 0 m3 = _ from e2, show gX12_town f4 5 (0 : Int32) 0 m4 = _ from g2, show f5 = (f5 - 1) + 1 by omega, gX12_town, if_pos (show (8 : Int32) ≤ nI 8 by decide), show (36 : Int32) = nI 36 from rfl, wr_ok (by omega) (by omega), pt_eq, pt_eq, pt_eq, pt_eq, hm6, show f5 - 1 = (f5 - 5) + 4 by omega, q1]
    rw [← hm6, sI_row, upd_ne (by omega), sI_row, upd_ne (by omega), sI_row, upd_ne (by omega), sI_row, upd_ne (by omega), sI_oth (by omega), mr 0 (by simp), h51]
  · simp only [List.mem_cons, List.not_mem_nil, or_false, not_or] at hr
    rw [m7r r (by omega) (by omega) (by omega), mr r (by simp; omega)]
  · rw [m60 51 (by simp)]; exact h51
  · rw [m60 52 (by simp)]; exact h52
  · rw [m60 53 (by simp)]; exact h53
  · rw [m60 24 (by simp)]; exact h24
  · obtain ⟨x1, x2, x3⟩ := d6 p (by omega) (by omega)
    obtain ⟨y1, y2, y3, y4⟩ := hM.2.1 p hp
    rw [m7r 17 (by omega) (by omega) (by omega), m7r 18 (by omega) (by omega) (by omega), g3.2 17 (by simp), g3.2 18 (by simp), e3.2 17 (by simp), e3.2 18 (by simp), x1, x2, b3.2 14 (by simp), b3.2 16 (by simp), a3.2 14 (by simp), a3.2 16 (by simp), y2, y4, wkI]
    refine ⟨rfl, ?_⟩
    have hw := (hP.2.2.2.2.1 p hp).2.2
    have hw2 := (hP.1.2.2.2.2.1 p hp).2
    by_cases z : T.1 23 p = 0
    · rw [if_pos z, if_neg (show ¬ (0 : Int32) ≤ -1 by decide), hw z]; rfl
    · rw [if_neg z, if_pos (show (0 : Int32) ≤ nI (tw T p) from nI_le (a := 0) (by omega) (by omega))]
  · obtain ⟨x1, x2, x3, x4⟩ := e5 k (by omega) (by omega)
    rw [m7r 23 (by omega) (by omega) (by omega), m7r 24 (by omega) (by omega) (by omega), m7r 25 (by omega) (by omega) (by omega), m7r 26 (by omega) (by omega) (by omega), g3.2 23 (by simp), g3.2 24 (by simp), g3.2 25 (by simp), g3.2 26 (by simp), x1, x2, x3, x4, d3.2 19 (by simp), d3.2 20 (by simp), d3.2 21 (by simp), d3.2 22 (by simp), b3.2 19 (by simp), b3.2 20 (by simp), b3.2 21 (by simp), b3.2 22 (by simp), a3.2 19 (by simp), a3.2 20 (by simp), a3.2 21 (by simp), a3.2 22 (by simp)]
    exact hM.2.2.1 k hk
  · obtain ⟨x1, x2, x3⟩ := g5 k (by omega) (by omega)
    rw [m7r 30 (by omega) (by omega) (by omega), m7r 31 (by omega) (by omega) (by omega), m7r 32 (by omega) (by omega) (by omega), x1, x2, x3, e3.2 27 (by simp), e3.2 28 (by simp), e3.2 29 (by simp), d3.2 27 (by simp), d3.2 28 (by simp), d3.2 29 (by simp), b3.2 27 (by simp), b3.2 28 (by simp), b3.2 29 (by simp), a3.2 27 (by simp), a3.2 28 (by simp), a3.2 29 (by simp)]
    exact hM.2.2.2.1 k hk
  · refine a4.keep (fun r hr => ?_)
    rw [m7r r (by omega) (by omega) (by omega), g3.2 r (by simp; omega), e3.2 r (by simp; omega), d3.2 r (by simp; omega), b3.2 r (by simp; omega)]
  · rw [q2.2 0 (by simp), ← hm6, sI_row, upd_ne (by omega), sI_row, upd_ne (by omega), sI_row, upd_ne (by omega), sI_row, upd_at]
  · rw [q2.2 0 (by simp), ← hm6, sI_row, upd_ne (by omega), sI_row, upd_ne (by omega), sI_row, upd_at]
  · rw [q2.2 0 (by simp), ← hm6, sI_row, upd_at]
  · rw [q2.2 0 (by simp), ← hm6, sI_row, upd_ne (by omega), sI_row, upd_at]
  · rw [m733]
    by_cases z : i = 36
    · rw [z, upd_at, if_neg (by omega), if_pos rfl]; exact hM.1.2.2.2.2.2
    · rw [upd_ne z, g3.2 33 (by simp), e3.2 33 (by simp), if_neg z]
      by_cases y : i < 7
      · obtain ⟨x1, x2, x3⟩ := d6 i (by omega) y
        rw [x3, b3.2 15 (by simp), a3.2 15 (by simp)]
        by_cases z2 : i < tnp T
        · rw [if_neg (by omega), if_pos z2]; exact (hM.2.1 i z2).2.2.1
        · rw [if_pos (by omega), if_neg z2]
      · rw [d5 i (by omega), if_neg (by omega)]
        exact b5 i (by omega) (by omega)
