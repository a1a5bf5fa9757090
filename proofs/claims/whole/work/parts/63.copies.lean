/-! ===== states are saved and loaded ===== -/
theorem sW_sW (m : Mem) (r : Nat) (f g : Nat → Int32) : sW (sW m r f) r g = sW m r g := by
  unfold sW
  congr 1
  funext q
  unfold va_up
  by_cases e : q = r <;> simp [e]
theorem sW_sI (m : Mem) (r k : Nat) (f : Nat → Int32) (v : Int32) : sI (sW m r f) r k v = sW m r (upd f k v) := by
  have e : sI (sW m r f) r k v = sW (sW m r f) r (upd ((sW m r f).1 r) k v) := rfl
  rw [e, sW_row, sW_sW]
theorem sI_sW (m : Mem) (r k : Nat) (v : Int32) : sI m r k v = sW m r (upd (m.1 r) k v) := rfl
theorem sW_self (m : Mem) (r : Nat) : sW m r (m.1 r) = m := by
  obtain ⟨a, b⟩ := m
  unfold sW
  congr 1
  funext q
  unfold va_up
  split
  · rename_i e; rw [e]
  · rfl
theorem cpy_ok {β : Type} {m : Mem} {q0 n0 q1 n1 sp dp n : Nat} {K : Mem → Option β} (h1 : sp + n ≤ n0) (h2 : dp + n ≤ n1) (hs : n0 < 2 ^ 31) (hd : n1 < 2 ^ 31) : cpy m q0 n0 q1 n1 (nI sp) (nI dp) (nI n) K = K (sW m q1 (va_cpy (m.1 q0) (m.1 q1) sp dp n)) := by
  unfold cpy
  rw [nI_clamp (by omega), nI_clamp (by omega), nI_clamp (by omega), if_pos]
  exact ⟨nI_lt0 (by omega), nI_lt0 (by omega), nI_lt0 (by omega), h1, h2⟩
theorem rlen_eq {R : Nat} (h : R = 57 ∨ R = 72) : (R = 57 ∧ rlen R = 1517) ∨ (R = 72 ∧ rlen R = 111) := by
  rcases h with rfl | rfl
  · exact Or.inl ⟨rfl, rfl⟩
  · exact Or.inr ⟨rfl, rfl⟩
theorem c_save {m : Mem} {R j : Nat} (hR : R = 57 ∨ R = 72) (hj : 37 * j + 37 ≤ rlen R) : fX8_save m R (nI (37 * j)) = some (sW m R (fb_put (m.1 R) (cSt m) (37 * j) 37)) := by
  have hl : rlen R ≤ 1517 := by rcases rlen_eq hR with ⟨_, h⟩ | ⟨_, h⟩ <;> rw [h] <;> omega
  have hR2 : R ≠ 27 ∧ R ≠ 28 ∧ R ≠ 29 ∧ R ≠ 30 ∧ R ≠ 31 := by rcases hR with rfl | rfl <;> decide
  have e7 : nI (37 * j) + (7 : Int32) = nI (37 * j + 7) := nI_add (37 * j) 7
  have e14 : nI (37 * j + 7) + (7 : Int32) = nI (37 * j + 14) := nI_add (37 * j + 7) 7
  have e24 : nI (37 * j + 14) + (10 : Int32) = nI (37 * j + 24) := nI_add (37 * j + 14) 10
  have e34 : nI (37 * j + 24) + (10 : Int32) = nI (37 * j + 34) := nI_add (37 * j + 24) 10
  have e35 : nI (37 * j + 34) + (1 : Int32) = nI (37 * j + 35) := nI_add (37 * j + 34) 1
  have e36 : nI (37 * j + 34) + (2 : Int32) = nI (37 * j + 36) := nI_add (37 * j + 34) 2
  have hle : nI (37 * j) ≤ (Int32.ofNat (rlen R)) - (37 : Int32) := by
    show nI (37 * j) ≤ nI (rlen R) - nI 37
    rw [pk_sub (by omega)]
    exact nI_le (by omega) (by omega)
  have z0 : (0 : Int32) = nI 0 := rfl
  have z7 : (7 : Int32) = nI 7 := rfl
  have z10 : (10 : Int32) = nI 10 := rfl
  unfold fX8_save
  rw [if_neg (nI_lt0 (by omega)), show gRw R _ = _ from if_pos hR, if_pos hle, e7, e14, e24, e34, e35, e36]
  rw [z0, z7, z10]
  rw [cpy_ok (by omega) (by omega) (by omega) (by omega), cpy_ok (by omega) (by omega) (by omega) (by omega), cpy_ok (by omega) (by omega) (by omega) (by omega), cpy_ok (by omega) (by omega) (by omega) (by omega), wr_ok (by omega) (by omega), wr_ok (by omega) (by omega), wr_ok (by omega) (by omega)]
  simp only [sW_sW, sW_sI, sW_row, sW_oth (Ne.symm hR2.1), sW_oth (Ne.symm hR2.2.1), sW_oth (Ne.symm hR2.2.2.1), sW_oth (Ne.symm hR2.2.2.2.1), sW_oth (Ne.symm hR2.2.2.2.2)]
  congr 2
  funext k
  unfold fb_put cSt upd va_cpy
  by_cases c1 : k < 37 * j
  · rw [if_neg (by omega), if_neg (by omega), if_neg (by omega), if_neg (by omega), if_neg (by omega), if_neg (by omega), if_neg (by omega), if_neg (by omega)]
  · obtain ⟨i, rfl⟩ : ∃ i, k = 37 * j + i := ⟨k - 37 * j, by omega⟩
    rw [show 37 * j + i - 37 * j = i by omega]
    by_cases c2 : i < 37
    · rw [if_pos (show 37 * j ≤ 37 * j + i ∧ 37 * j + i < 37 * j + 37 by omega)]
      by_cases d1 : i < 7
      · rw [if_neg (by omega), if_neg (by omega), if_neg (by omega), if_neg (by omega), if_neg (by omega), if_neg (by omega), if_pos (by omega), if_pos d1, Nat.zero_add]
      · by_cases d2 : i < 14
        · rw [if_neg (by omega), if_neg (by omega), if_neg (by omega), if_neg (by omega), if_neg (by omega), if_pos (by omega), if_neg d1, if_pos d2, show 0 + (37 * j + i - (37 * j + 7)) = i - 7 by omega]
        · by_cases d3 : i < 24
          · rw [if_neg (by omega), if_neg (by omega), if_neg (by omega), if_neg (by omega), if_pos (by omega), if_neg d1, if_neg d2, if_pos d3, show 0 + (37 * j + i - (37 * j + 14)) = i - 14 by omega]
          · by_cases d4 : i < 34
            · rw [if_neg (by omega), if_neg (by omega), if_neg (by omega), if_pos (by omega), if_neg d1, if_neg d2, if_neg d3, if_pos d4, show 0 + (37 * j + i - (37 * j + 24)) = i - 24 by omega]
            · rw [if_neg d1, if_neg d2, if_neg d3, if_neg d4]
              rcases (show i = 34 ∨ i = 35 ∨ i = 36 by omega) with rfl | rfl | rfl
              · rw [if_neg (by omega), if_neg (by omega), if_pos (by omega)]
              · rw [if_neg (by omega), if_pos (by omega)]
              · rw [if_pos (by omega)]
    · rw [if_neg (by omega), if_neg (by omega), if_neg (by omega), if_neg (by omega), if_neg (by omega), if_neg (by omega), if_neg (by omega), if_neg (by omega)]
theorem c_load {m : Mem} {R j : Nat} (hR : R = 57 ∨ R = 72) (hj : 37 * j + 37 ≤ rlen R) : ∃ m', fX8_load m R (nI (37 * j)) = some m' ∧ keeps [27, 28, 29, 30, 31] m m' ∧ ∀ i, i < 37 → cSt m' i = rowAt (m.1 R) j i := by
  have hl : rlen R ≤ 1517 := by rcases rlen_eq hR with ⟨_, h⟩ | ⟨_, h⟩ <;> rw [h] <;> omega
  have hR2 : R ≠ 27 ∧ R ≠ 28 ∧ R ≠ 29 ∧ R ≠ 30 ∧ R ≠ 31 := by rcases hR with rfl | rfl <;> decide
  have e7 : nI (37 * j) + (7 : Int32) = nI (37 * j + 7) := nI_add (37 * j) 7
  have e14 : nI (37 * j + 7) + (7 : Int32) = nI (37 * j + 14) := nI_add (37 * j + 7) 7
  have e24 : nI (37 * j + 14) + (10 : Int32) = nI (37 * j + 24) := nI_add (37 * j + 14) 10
  have e34 : nI (37 * j + 24) + (10 : Int32) = nI (37 * j + 34) := nI_add (37 * j + 24) 10
  have e35 : nI (37 * j + 34) + (1 : Int32) = nI (37 * j + 35) := nI_add (37 * j + 34) 1
  have e36 : nI (37 * j + 34) + (2 : Int32) = nI (37 * j + 36) := nI_add (37 * j + 34) 2
  have hle : nI (37 * j) ≤ (Int32.ofNat (rlen R)) - (37 : Int32) := by
    show nI (37 * j) ≤ nI (rlen R) - nI 37
    rw [pk_sub (by omega)]
    exact nI_le (by omega) (by omega)
  have z0 : (0 : Int32) = nI 0 := rfl
  have z7 : (7 : Int32) = nI 7 := rfl
  have z10 : (10 : Int32) = nI 10 := rfl
  have p27 : ∀ (m : Mem) (k : Nat) (v : Int32), (sI m 27 k v).1 R = m.1 R := fun m k v => sI_oth hR2.1
  have p28 : ∀ (m : Mem) (f : Nat → Int32), (sW m 28 f).1 R = m.1 R := fun m f => sW_oth hR2.2.1
  have p29 : ∀ (m : Mem) (f : Nat → Int32), (sW m 29 f).1 R = m.1 R := fun m f => sW_oth hR2.2.2.1
  have p30 : ∀ (m : Mem) (f : Nat → Int32), (sW m 30 f).1 R = m.1 R := fun m f => sW_oth hR2.2.2.2.1
  have p31 : ∀ (m : Mem) (f : Nat → Int32), (sW m 31 f).1 R = m.1 R := fun m f => sW_oth hR2.2.2.2.2
  unfold fX8_load
  rw [if_neg (nI_lt0 (by omega)), show gRw R _ = _ from if_pos hR, if_pos hle, e7, e14, e24, e34, e35, e36]
  rw [z0, z7, z10]
  rw [cpy_ok (by omega) (by omega) (by omega) (by omega), cpy_ok (by omega) (by omega) (by omega) (by omega), cpy_ok (by omega) (by omega) (by omega) (by omega), cpy_ok (by omega) (by omega) (by omega) (by omega), rd_ok (by omega) (by omega), pt_eq, rd_ok (by omega) (by omega), pt_eq, rd_ok (by omega) (by omega), pt_eq]
  simp only [p27, p28, p29, p30, p31]
  refine ⟨_, rfl, ?_, ?_⟩
  · exact (((((((keeps.rfl'.sW (by decide)).sW (by decide)).sW (by decide)).sW (by decide)).sI (by decide)).sI (by decide)).sI (by decide))
  · intro i hi
    unfold cSt rowAt
    simp only [sI_row, sW_row, sI_oth (show (28 : Nat) ≠ 27 by decide), sI_oth (show (29 : Nat) ≠ 27 by decide), sI_oth (show (30 : Nat) ≠ 27 by decide), sI_oth (show (31 : Nat) ≠ 27 by decide), sW_oth (show (28 : Nat) ≠ 29 by decide), sW_oth (show (28 : Nat) ≠ 30 by decide), sW_oth (show (28 : Nat) ≠ 31 by decide), sW_oth (show (29 : Nat) ≠ 30 by decide), sW_oth (show (29 : Nat) ≠ 31 by decide), sW_oth (show (30 : Nat) ≠ 31 by decide)]
    unfold va_cpy
    by_cases d1 : i < 7
    · rw [if_pos d1, if_pos (by omega), show 37 * j + (i - 0) = 37 * j + i by omega]
    · by_cases d2 : i < 14
      · rw [if_neg d1, if_pos d2, if_pos (by omega), show 37 * j + 7 + (i - 7 - 0) = 37 * j + i by omega]
      · by_cases d3 : i < 24
        · rw [if_neg d1, if_neg d2, if_pos d3, if_pos (by omega), show 37 * j + 14 + (i - 14 - 0) = 37 * j + i by omega]
        · by_cases d4 : i < 34
          · rw [if_neg d1, if_neg d2, if_neg d3, if_pos d4, if_pos (by omega), show 37 * j + 24 + (i - 24 - 0) = 37 * j + i by omega]
          · rw [if_neg d1, if_neg d2, if_neg d3, if_neg d4]
            rcases (show i = 34 ∨ i = 35 ∨ i = 36 by omega) with rfl | rfl | rfl
            · rw [upd_ne (by decide), upd_ne (by decide), upd_at]
            · rw [upd_ne (by decide), upd_at]
            · rw [upd_at]
