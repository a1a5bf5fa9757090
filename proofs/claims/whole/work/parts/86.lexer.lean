/-! ===== tokens: both read the same ===== -/
def isB (b : Nat) : Bool := decide (b = 32 ∨ b = 10)
def isL (b : Nat) : Bool := decide (97 ≤ b ∧ b ≤ 122)
def isD (b : Nat) : Bool := decide (48 ≤ b ∧ b ≤ 57)
def isS (b : Nat) : Bool := decide (b = 59 ∨ b = 40 ∨ b = 41 ∨ b = 60 ∨ b = 62 ∨ b = 61 ∨ b = 43 ∨ b = 45 ∨ b = 42 ∨ b = 47 ∨ b = 37)
def sb (b : Nat) : Int32 := (nI b).toInt8.toInt32
theorem sb_0 : ∀ b, b < 256 → ((sb b = 32 ↔ b = 32) ∧ (sb b = 10 ↔ b = 10)) ∧ (sb b < 97 ↔ b < 97 ∨ 128 ≤ b) ∧ (122 < sb b ↔ 122 < b ∧ b < 128) ∧ (sb b < 48 ↔ b < 48 ∨ 128 ≤ b) ∧ (57 < sb b ↔ 57 < b ∧ b < 128) ∧ sb b &&& 255 = nI b ∧ (b < 128 → sb b = nI b) := by decide +kernel
theorem sg_0 : ∀ b, b < 256 → fsigns ((nI b).toUInt32 % 65536).toInt32 = some (if isS b = true then (if b = 59 then 0 else if b = 40 then 1 else if b = 41 then 2 else if b = 60 then 3 else if b = 62 then 4 else if b = 61 then 5 else if b = 43 then 6 else if b = 45 then 7 else if b = 42 then 8 else if b = 47 then 9 else 10) else -1) := by decide +kernel
theorem sg_neg : ∀ b, b < 256 → ((if isS b = true then (if b = 59 then (0 : Int32) else if b = 40 then 1 else if b = 41 then 2 else if b = 60 then 3 else if b = 62 then 4 else if b = 61 then 5 else if b = 43 then 6 else if b = 45 then 7 else if b = 42 then 8 else if b = 47 then 9 else 10) else -1) < 0 ↔ isS b = false) := by decide +kernel
theorem sgM_0 : ∀ b, b < 256 → fX12_isSign (nI b) = some (if isS b = true then 1 else 0) ∧ fX12_isLetter (nI b) = some (if isL b = true then 1 else 0) ∧ fX12_isDigit (nI b) = some (if isD b = true then 1 else 0) ∧ (nI b = 32 ∨ nI b = 10 ↔ isB b = true) := by decide +kernel
/-- the bytes: the class's and the reference's -/
def BT (bt : Nat → Nat) (L : Nat) (c m : Mem) : Prop := L ≤ 1600 ∧ c.1 1 1 = nI L ∧ m.1 0 5 = nI L ∧ (∀ i, i < L → bt i < 256 ∧ c.1 2 i = sb (bt i) ∧ m.1 1 i = nI (bt i)) ∧ c.2.1 3 = tapeWords ∧ c.1 4 4 = 0 ∧ c.1 4 5 = -1 ∧ m.1 0 3 = -1
def run (P : Nat → Bool) (bt : Nat → Nat) : Nat → Nat → Nat
  | 0, n => n
  | k + 1, n => if P (bt n) = true then run P bt k (n + 1) else n
theorem run_le (P : Nat → Bool) (bt : Nat → Nat) : ∀ k n, n ≤ run P bt k n ∧ run P bt k n ≤ n + k
  | 0, n => by rw [run]; omega
  | k + 1, n => by
    rw [run]
    have := run_le P bt k (n + 1)
    split <;> omega
theorem run_in (P : Nat → Bool) (bt : Nat → Nat) : ∀ k n i, n ≤ i → i < run P bt k n → P (bt i) = true
  | 0, n, i, h1, h2 => by rw [run] at h2; omega
  | k + 1, n, i, h1, h2 => by
    rw [run] at h2
    by_cases c : P (bt n) = true
    · rw [if_pos c] at h2
      by_cases e : i = n
      · rw [e]; exact c
      · exact run_in P bt k (n + 1) i (by omega) h2
    · rw [if_neg c] at h2; omega
theorem run_stop (P : Nat → Bool) (bt : Nat → Nat) : ∀ k n, run P bt k n < n + k → P (bt (run P bt k n)) = false
  | 0, n, h => by rw [run] at h; omega
  | k + 1, n, h => by
    rw [run] at h ⊢
    by_cases c : P (bt n) = true
    · rw [if_pos c] at h ⊢
      exact run_stop P bt k (n + 1) (by omega)
    · rw [if_neg c]; simpa using c
/-- letters, the last one first; their number to a base -/
def wl (bt : Nat → Nat) : Nat → Nat → List Nat
  | 0, _ => []
  | k + 1, s => bt (s + k) :: wl bt k s
theorem wl_len (bt : Nat → Nat) : ∀ k s, (wl bt k s).length = k
  | 0, _ => rfl
  | k + 1, s => by rw [wl, List.length_cons, wl_len bt k s]
def enc (B o : Nat) : List Nat → Nat
  | [] => 0
  | b :: w => enc B o w * B + (b - o)
def nv (bt : Nat → Nat) : Nat → Nat → Nat
  | 0, _ => 0
  | k + 1, s => nv bt k s * 10 + (bt (s + k) - 48)
def VW (w : List Nat) : Prop := w.length ≤ 8 ∧ ∀ b, b ∈ w → 97 ≤ b ∧ b ≤ 122
theorem enc_27 : ∀ w, (∀ b, b ∈ w → 97 ≤ b ∧ b ≤ 122) → enc 27 96 w < 27 ^ w.length
  | [], _ => by simp [enc]
  | b :: w, h => by
    have h1 := enc_27 w (fun x hx => h x (by simp [hx]))
    have h2 := h b (by simp)
    rw [enc, List.length_cons, Nat.pow_succ]
    omega
theorem enc_256 : ∀ w, (∀ b, b ∈ w → 97 ≤ b ∧ b ≤ 122) → 2 * enc 256 0 w < 256 ^ w.length
  | [], _ => by simp [enc]
  | b :: w, h => by
    have h1 := enc_256 w (fun x hx => h x (by simp [hx]))
    have h2 := h b (by simp)
    rw [enc, List.length_cons, Nat.pow_succ]
    omega
theorem VW.b27 {w : List Nat} (h : VW w) : enc 27 96 w < 2 ^ 63 := by
  have h1 := enc_27 w h.2
  have h2 : 27 ^ w.length ≤ 27 ^ 8 := Nat.pow_le_pow_right (by decide) h.1
  have h3 : (27 : Nat) ^ 8 < 2 ^ 63 := by decide
  omega
theorem VW.b256 {w : List Nat} (h : VW w) : enc 256 0 w < 2 ^ 63 := by
  have h1 := enc_256 w h.2
  have h2 : 256 ^ w.length ≤ 256 ^ 8 := Nat.pow_le_pow_right (by decide) h.1
  have h3 : (256 : Nat) ^ 8 = 2 * 2 ^ 63 := by decide
  omega
theorem enc_inj {B o : Nat} (hB : 123 ≤ B + o) (ho : o ≤ 96) : ∀ w w', (∀ b, b ∈ w → 97 ≤ b ∧ b ≤ 122) → (∀ b, b ∈ w' → 97 ≤ b ∧ b ≤ 122) → enc B o w = enc B o w' → w = w'
  | [], [], _, _, _ => rfl
  | [], b :: w', _, h', e => by
    have := h' b (by simp)
    rw [enc, enc] at e
    omega
  | b :: w, [], h, _, e => by
    have := h b (by simp)
    rw [enc, enc] at e
    omega
  | b :: w, b' :: w', h, h', e => by
    have h1 := h b (by simp)
    have h2 := h' b' (by simp)
    rw [enc, enc] at e
    have e1 : (b - o) % B = (b' - o) % B := by
      have := congrArg (· % B) e
      simpa [Nat.mul_add_mod_self_right] using this
    rw [Nat.mod_eq_of_lt (by omega), Nat.mod_eq_of_lt (by omega)] at e1
    have e2 : enc B o w * B = enc B o w' * B := by omega
    have e3 : enc B o w = enc B o w' := Nat.eq_of_mul_eq_mul_right (by omega) e2
    rw [enc_inj hB ho w w' (fun x hx => h x (by simp [hx])) (fun x hx => h' x (by simp [hx])) e3, show b = b' by omega]
theorem e27_inj {w w' : List Nat} (h : VW w) (h' : VW w') : lN (enc 27 96 w) = lN (enc 27 96 w') ↔ w = w' := by
  rw [fb_lN_inj h.b27 h'.b27]
  exact ⟨enc_inj (by decide) (by decide) w w' h.2 h'.2, fun e => by rw [e]⟩
theorem e256_inj {w w' : List Nat} (h : VW w) (h' : VW w') : lN (enc 256 0 w) = lN (enc 256 0 w') ↔ w = w' := by
  rw [fb_lN_inj h.b256 h'.b256]
  exact ⟨enc_inj (by decide) (by decide) w w' h.2 h'.2, fun e => by rw [e]⟩
/-- the words that stand for themselves -/
def wrd (j : Nat) : List Nat := ([[110, 111, 115, 114, 101, 112], [116, 101, 101, 109], [101, 115, 105, 111, 110], [108, 117, 102, 101, 107, 97, 119], [110, 119, 97, 100], [107, 115, 117, 100], [109, 114, 97, 104], [101, 116, 97, 100], [116, 97], [116, 104, 103, 105, 110], [101, 103, 110, 105, 104], [115, 114, 117, 111, 104], [104, 116, 114, 111, 119], [100, 117, 111, 108], [114, 117, 111, 104], [114, 97, 102], [114, 111], [100, 110, 97], [116, 111, 110]] : List (List Nat)).getD j []
theorem wrd_ok : ∀ j, j < 19 → tapeWords j = lN (enc 27 96 (wrd j)) ∧ (wrd j).length ≤ 8 ∧ (wrd j).all isL = true := by decide +kernel
theorem wrd_vw {j : Nat} (h : j < 19) : VW (wrd j) := by
  obtain ⟨-, h2, h3⟩ := wrd_ok j h
  refine ⟨h2, fun b hb => ?_⟩
  have := List.all_eq_true.mp h3 b hb
  unfold isL at this
  simpa using this
theorem wrd_inj : ∀ i, i < 19 → ∀ j, j < 19 → (wrd i = wrd j ↔ i = j) := by decide +kernel
def isSg (k : Nat) : Prop := isS k = true
/-- what sort a token is in the reference -/
def rSort (k : Nat) : Nat := if k = 0 then 3 else if k = 1 then 0 else if k = 3 then 2 else if k = 2 ∨ 128 ≤ k then 1 else k
/-- a token: kind, place, the next place, a number, a word -/
def TK (L k p n v : Nat) (w : List Nat) (c m : Mem) : Prop := (k ≤ 3 ∨ isS k = true ∨ 128 ≤ k ∧ k < 147) ∧ p ≤ L ∧ n ≤ L ∧ (k = 1 → p = L) ∧ (¬ k = 0 → ¬ k = 1 → p < n) ∧ (k = 1 → n = L) ∧ c.1 1 4 = nI k ∧ c.1 1 5 = nI p ∧ (¬ k = 0 → c.1 1 3 = nI n) ∧ (k = 3 → v < 10000 ∧ c.1 1 6 = nI v ∧ m.1 0 8 = nI v) ∧ (k = 2 → c.2.1 1 7 = lN (enc 27 96 w)) ∧ ((k = 2 ∨ 128 ≤ k) → VW w ∧ m.2.1 0 9 = lN (enc 256 0 w) ∧ ∀ j, j < 19 → (k = 128 + j ↔ w = wrd j)) ∧ m.1 0 6 = nI (rSort k) ∧ m.1 0 7 = nI p ∧ (¬ k = 0 → m.1 0 4 = nI n)
def lxC (c c' : Mem) : Prop := c'.2.2 = c.2.2 ∧ (∀ r, r ≠ 1 → c'.1 r = c.1 r) ∧ (∀ s, (s < 3 ∨ 7 ≤ s) → c'.1 1 s = c.1 1 s) ∧ ∀ r, r ≠ 1 → c'.2.1 r = c.2.1 r
def lxM (m m' : Mem) : Prop := m'.2.2 = m.2.2 ∧ (∀ r, r ≠ 0 → m'.1 r = m.1 r) ∧ (∀ s, (s < 4 ∨ s = 5 ∨ 9 ≤ s) → m'.1 0 s = m.1 0 s) ∧ ∀ r, r ≠ 0 → m'.2.1 r = m.2.1 r
theorem lxC.rfl' {c : Mem} : lxC c c := ⟨rfl, fun _ _ => rfl, fun _ _ => rfl, fun _ _ => rfl⟩
theorem lxM.rfl' {m : Mem} : lxM m m := ⟨rfl, fun _ _ => rfl, fun _ _ => rfl, fun _ _ => rfl⟩
theorem lxC.trans {a b c : Mem} (h : lxC a b) (g : lxC b c) : lxC a c := ⟨g.1.trans h.1, fun r hr => (g.2.1 r hr).trans (h.2.1 r hr), fun s hs => (g.2.2.1 s hs).trans (h.2.2.1 s hs), fun r hr => (g.2.2.2 r hr).trans (h.2.2.2 r hr)⟩
theorem lxM.trans {a b c : Mem} (h : lxM a b) (g : lxM b c) : lxM a c := ⟨g.1.trans h.1, fun r hr => (g.2.1 r hr).trans (h.2.1 r hr), fun s hs => (g.2.2.1 s hs).trans (h.2.2.1 s hs), fun r hr => (g.2.2.2 r hr).trans (h.2.2.2 r hr)⟩
theorem lxC.sI {a c : Mem} {s : Nat} {v : Int32} (h : lxC a c) (hs : 3 ≤ s ∧ s < 7) : lxC a (sI c 1 s v) := h.trans ⟨rfl, fun r hr => sI_oth hr, fun j hj => by rw [sI_row, upd_ne (by omega)], fun _ _ => rfl⟩
theorem lxM.sI {a c : Mem} {s : Nat} {v : Int32} (h : lxM a c) (hs : s = 4 ∨ 6 ≤ s ∧ s < 9) : lxM a (sI c 0 s v) := h.trans ⟨rfl, fun r hr => sI_oth hr, fun j hj => by rw [sI_row, upd_ne (by omega)], fun _ _ => rfl⟩
theorem sL_oth {m : Mem} {r k : Nat} {v : Int64} {r' : Nat} (h : r' ≠ r) : (sL m r k v).2.1 r' = m.2.1 r' := by simp [sL, va_up, h]
theorem sL_at (m : Mem) (r k : Nat) (v : Int64) : (sL m r k v).2.1 r k = v := by simp [sL, va_up, vp_updL]
theorem sL_ne {m : Mem} {r k j : Nat} {v : Int64} (h : j ≠ k) : (sL m r k v).2.1 r j = m.2.1 r j := by simp [sL, va_up, vp_updL, h]
theorem lxC.sL {a c : Mem} {s : Nat} {v : Int64} (h : lxC a c) : lxC a (sL c 1 s v) := h.trans ⟨rfl, fun _ _ => rfl, fun _ _ => rfl, fun r hr => sL_oth hr⟩
theorem lxM.sL {a c : Mem} {s : Nat} {v : Int64} (h : lxM a c) : lxM a (sL c 0 s v) := h.trans ⟨rfl, fun _ _ => rfl, fun _ _ => rfl, fun r hr => sL_oth hr⟩
theorem BT.lx {bt : Nat → Nat} {L : Nat} {c c' m m' : Mem} (h : BT bt L c m) (hc : lxC c c') (hm : lxM m m') : BT bt L c' m' := by
  refine ⟨h.1, by rw [hc.2.2.1 1 (by omega)]; exact h.2.1, by rw [hm.2.2.1 5 (by omega)]; exact h.2.2.1, ?_, by rw [hc.2.2.2 3 (by omega), hc.2.1 4 (by omega), hm.2.2.1 3 (by omega)]; exact h.2.2.2.2⟩
  rw [hc.2.1 2 (by omega), hm.2.1 1 (by omega)]
  exact h.2.2.2.1
section
variable {bt : Nat → Nat} {L : Nat} {c m : Mem}
theorem c_letter (h : BT bt L c m) {n : Nat} (hn : n ≤ L) : fX10_isLetterAt c (nI n) = some (if n < L ∧ isL (bt n) = true then 1 else 0) := by
  have hL := h.1
  unfold fX10_isLetterAt
  rw [h.2.1]
  by_cases e : n < L
  · obtain ⟨b1, b2, b3⟩ := h.2.2.2.1 n e
    obtain ⟨-, s1, s2, -⟩ := sb_0 (bt n) b1
    rw [if_neg (nI_ge e (by omega)), rd_ok (by omega) (by omega), b2, rd_ok (by omega) (by omega), b2]
    by_cases y1 : bt n < 97 ∨ 128 ≤ bt n
    · rw [if_pos (s1.mpr y1), if_neg]
      rintro ⟨-, z⟩
      unfold isL at z
      simp at z
      omega
    · rw [if_neg (fun z => y1 (s1.mp z))]
      by_cases y2 : 122 < bt n ∧ bt n < 128
      · rw [if_pos (s2.mpr y2), if_neg]
        rintro ⟨-, z⟩
        unfold isL at z
        simp at z
        omega
      · rw [if_neg (fun z => y2 (s2.mp z)), if_pos]
        refine ⟨e, ?_⟩
        unfold isL
        simp
        omega
  · rw [if_pos (nI_le (by omega) (by omega)), if_neg (fun z => e z.1)]
theorem c_digit (h : BT bt L c m) {n : Nat} (hn : n ≤ L) : fX10_isDigitAt c (nI n) = some (if n < L ∧ isD (bt n) = true then 1 else 0) := by
  have hL := h.1
  unfold fX10_isDigitAt
  rw [h.2.1]
  by_cases e : n < L
  · obtain ⟨b1, b2, b3⟩ := h.2.2.2.1 n e
    obtain ⟨-, -, -, s1, s2, -⟩ := sb_0 (bt n) b1
    rw [if_neg (nI_ge e (by omega)), rd_ok (by omega) (by omega), b2, rd_ok (by omega) (by omega), b2]
    by_cases y1 : bt n < 48 ∨ 128 ≤ bt n
    · rw [if_pos (s1.mpr y1), if_neg]
      rintro ⟨-, z⟩
      unfold isD at z
      simp at z
      omega
    · rw [if_neg (fun z => y1 (s1.mp z))]
      by_cases y2 : 57 < bt n ∧ bt n < 128
      · rw [if_pos (s2.mpr y2), if_neg]
        rintro ⟨-, z⟩
        unfold isD at z
        simp at z
        omega
      · rw [if_neg (fun z => y2 (s2.mp z)), if_pos]
        refine ⟨e, ?_⟩
        unfold isD
        simp
        omega
  · rw [if_pos (nI_le (by omega) (by omega)), if_neg (fun z => e z.1)]
theorem m_here (h : BT bt L c m) {a i : Nat} (ha : m.1 0 4 = nI a) (hi : a + i ≤ L) : fX12_here m (nI i) = some (if a + i < L then nI (bt (a + i)) else -1) := by
  have hL := h.1
  unfold fX12_here
  rw [h.2.2.1, ha, nI_add]
  by_cases e : a + i < L
  · rw [if_neg (nI_ge e (by omega)), rd_ok (by omega) (by omega), (h.2.2.2.1 _ e).2.2, if_pos e]
  · rw [if_pos (nI_le (by omega) (by omega)), if_neg e]
theorem m_letter (h : BT bt L c m) (n : Nat) : fX12_isLetter (if n < L then nI (bt n) else -1) = some (if n < L ∧ isL (bt n) = true then 1 else 0) := by
  by_cases e : n < L
  · rw [if_pos e, (sgM_0 _ (h.2.2.2.1 n e).1).2.1]
    by_cases y : isL (bt n) = true
    · rw [if_pos y, if_pos ⟨e, y⟩]
    · rw [if_neg y, if_neg (fun z => y z.2)]
  · rw [if_neg e, if_neg (fun z => e z.1)]
    decide
theorem m_digit (h : BT bt L c m) (n : Nat) : fX12_isDigit (if n < L then nI (bt n) else -1) = some (if n < L ∧ isD (bt n) = true then 1 else 0) := by
  by_cases e : n < L
  · rw [if_pos e, (sgM_0 _ (h.2.2.2.1 n e).1).2.2.1]
    by_cases y : isD (bt n) = true
    · rw [if_pos y, if_pos ⟨e, y⟩]
    · rw [if_neg y, if_neg (fun z => y z.2)]
  · rw [if_neg e, if_neg (fun z => e z.1)]
    decide
theorem ite10 {P : Prop} [Decidable P] : ((if P then (1 : Int32) else 0) = 0 ↔ ¬ P) := by
  by_cases c : P
  · rw [if_pos c]; exact ⟨fun z => absurd z (by decide), fun z => absurd c z⟩
  · rw [if_neg c]; exact ⟨fun _ => c, fun _ => rfl⟩
theorem wl_mem : ∀ k s, (∀ i, s ≤ i → i < s + k → isL (bt i) = true) → ∀ b, b ∈ wl bt k s → 97 ≤ b ∧ b ≤ 122
  | 0, s, _, b, hb => by rw [wl] at hb; cases hb
  | k + 1, s, h, b, hb => by
    rw [wl, List.mem_cons] at hb
    rcases hb with rfl | hb
    · have := h (s + k) (by omega) (by omega)
      unfold isL at this
      simpa using this
    · exact wl_mem k s (fun i x y => h i x (by omega)) b hb
theorem letter_ok (a b : Nat) (hb : 97 ≤ b) (hb2 : b < 2 ^ 31) : fX10_withLetter (lN a) (nI b) = some (lN (a * 27 + (b - 96))) := by
  unfold fX10_withLetter
  rw [nI_l hb2, show (27 : Int64) = lN 27 from rfl, lN_mul, lN_add, show (97 : Int64) = lN 97 from rfl, lN_sub (by omega), lN_1]
  congr 2
  omega
/-- the class reads a word's letters -/
theorem c_word (hL : L ≤ 1600) {p : Nat} : ∀ (j n : Nat), n + j = L → ∀ (c : Mem) (f : Nat), j < f → BT bt L c m → p ≤ n → c.1 1 3 = nI n → c.1 1 5 = nI p → c.2.1 1 7 = lN (enc 27 96 (wl bt (n - p) p)) → ∃ c' f', f = f' + (run isL bt j n - n + 1) ∧ gX10_readWord f 0 0 c = gX10_readWord f' 1 0 c' ∧ lxC c c' ∧ c'.1 1 3 = nI (run isL bt j n) ∧ c'.1 1 5 = nI p ∧ c'.1 1 4 = nI (if run isL bt j n - p ≤ 8 then 2 else 0) ∧ c'.2.1 1 7 = lN (enc 27 96 (wl bt (run isL bt j n - p) p)) := by
  have fin : ∀ (n : Nat) (c : Mem) (f : Nat), n ≤ L → p ≤ n → c.1 1 3 = nI n → c.1 1 5 = nI p → c.2.1 1 7 = lN (enc 27 96 (wl bt (n - p) p)) → ∃ c', (if ((c.1 1 3) - (c.1 1 5)) ≤ (8 : Int32) then (pt (sI c 1 4 (2 : Int32)) fun m3 => (gX10_readWord f 1 (0 : Int32) m3)) else (pt (sI c 1 4 (0 : Int32)) fun m4 => (gX10_readWord f 1 (0 : Int32) m4))) = gX10_readWord f 1 0 c' ∧ lxC c c' ∧ c'.1 1 3 = nI n ∧ c'.1 1 5 = nI p ∧ c'.1 1 4 = nI (if n - p ≤ 8 then 2 else 0) ∧ c'.2.1 1 7 = lN (enc 27 96 (wl bt (n - p) p)) := by
    intro n c f hn hp h3 h5 h7
    rw [h3, h5, pk_sub hp]
    by_cases e : n - p ≤ 8
    · rw [if_pos (show nI (n - p) ≤ (8 : Int32) from nI_le (b := 8) e (by omega)), if_pos e]
      exact ⟨sI c 1 4 2, rfl, lxC.rfl'.sI (by omega), by rw [sI_row, upd_ne (by omega)]; exact h3, by rw [sI_row, upd_ne (by omega)]; exact h5, by rw [sI_row, upd_at]; rfl, h7⟩
    · rw [if_neg (show ¬ nI (n - p) ≤ (8 : Int32) from nI_ge (a := 8) (by omega) (by omega)), if_neg e]
      exact ⟨sI c 1 4 0, rfl, lxC.rfl'.sI (by omega), by rw [sI_row, upd_ne (by omega)]; exact h3, by rw [sI_row, upd_ne (by omega)]; exact h5, by rw [sI_row, upd_at]; rfl, h7⟩
  intro j
  induction j with
  | zero =>
    intro n hn c f hf h hp h3 h5 h7
    obtain ⟨f, rfl⟩ : ∃ g, f = g + 1 := ⟨f - 1, by omega⟩
    obtain ⟨c', a1, a2, a3, a4, a5, a6⟩ := fin n c f (by omega) hp h3 h5 h7
    rw [run]
    refine ⟨c', f, by omega, ?_, a2, a3, a4, a5, a6⟩
    rw [gX10_readWord, h.2.1, h3, if_pos (nI_le (by omega) (by omega)), ← h3]
    exact a1
  | succ j ih =>
    intro n hn c f hf h hp h3 h5 h7
    obtain ⟨f, rfl⟩ : ∃ g, f = g + 1 := ⟨f - 1, by omega⟩
    rw [run]
    by_cases e : isL (bt n) = true
    · rw [if_pos e]
      obtain ⟨b1, b2, -⟩ := h.2.2.2.1 n (by omega)
      have hr : 97 ≤ bt n ∧ bt n ≤ 122 := by unfold isL at e; simpa using e
      have hc2 : lxC c (sI (sL c 1 7 (lN (enc 27 96 (wl bt (n - p) p) * 27 + (bt n - 96)))) 1 3 (nI (n + 1))) := (lxC.rfl'.sL).sI (by omega)
      obtain ⟨c', f', a0, a1, a2, a3⟩ := ih (n + 1) (by omega) _ f (by omega) (h.lx hc2 lxM.rfl') (by omega) (by rw [sI_row, upd_at]) (by rw [sI_row, upd_ne (by omega)]; exact h5) (by
        rw [sI_2, sL_at, show n + 1 - p = (n - p) + 1 by omega, wl, enc, show p + (n - p) = n by omega])
      have hle := run_le isL bt j (n + 1)
      refine ⟨c', f', by omega, ?_, hc2.trans a2, a3⟩
      rw [gX10_readWord, h.2.1, h3, if_neg (nI_ge (by omega) (by omega)), c_letter h (by omega), cP_some, if_neg (fun z => (ite10.mp z) ⟨by omega, e⟩), rd_ok (by omega) (by omega), b2, (sb_0 _ b1).2.2.2.2.2.2 (by omega), h7, letter_ok _ _ (by omega) (by omega), cL_some, pt_eq, pt_eq, sL_1, h3, nI_1]
      exact a1
    · rw [if_neg e]
      obtain ⟨c', a1, a2, a3, a4, a5, a6⟩ := fin n c f (by omega) hp h3 h5 h7
      refine ⟨c', f, by omega, ?_, a2, a3, a4, a5, a6⟩
      rw [gX10_readWord, h.2.1, if_neg (by rw [h3]; exact nI_ge (by omega) (by omega)), show fX10_isLetterAt c (c.1 1 3) = some (if n < L ∧ isL (bt n) = true then 1 else 0) by rw [h3]; exact c_letter h (by omega), cP_some, if_pos (ite10.mpr (fun z => e z.2))]
      exact a1
/-- the class looks the word up -/
theorem c_kind {w : List Nat} (hw : VW w) : ∀ (k j : Nat), j + k = 19 → ∀ (c : Mem) (f : Nat), k + 1 < f → c.2.1 3 = tapeWords → c.1 1 4 = nI 2 → c.2.1 1 7 = lN (enc 27 96 w) → (∀ i, i < j → ¬ w = wrd i) → ∃ K c', gX10_readWord f 1 (nI j) c = some c' ∧ lxC c c' ∧ c'.2 = c.2 ∧ (∀ s, s ≠ 4 → c'.1 1 s = c.1 1 s) ∧ c'.1 1 4 = nI K ∧ (K = 2 ∨ 128 ≤ K ∧ K < 147) ∧ ∀ i, i < 19 → (K = 128 + i ↔ w = wrd i) := by
  intro k
  induction k with
  | zero =>
    intro j hj c f hf hT h4 h7 hn
    obtain ⟨f, rfl⟩ : ∃ g, f = g + 1 := ⟨f - 1, by omega⟩
    have ej : j = 19 := by omega
    subst ej
    exact ⟨2, c, by rw [gX10_readWord, if_pos (by decide)], lxC.rfl', rfl, fun _ _ => rfl, h4, Or.inl rfl, fun i hi => ⟨fun z => by omega, fun z => absurd z (hn i hi)⟩⟩
  | succ k ih =>
    intro j hj c f hf hT h4 h7 hn
    obtain ⟨f, rfl⟩ : ∃ g, f = g + 1 := ⟨f - 1, by omega⟩
    have hj9 : j < 19 := by omega
    rw [gX10_readWord, if_neg (show ¬ (19 : Int32) ≤ nI j from nI_ge (b := 19) (by omega) (by omega)), h4, if_pos (show nI 2 = (2 : Int32) from rfl), rdL_ok (by omega) (by omega), hT, h7, (wrd_ok j hj9).1, pt_eq, pt_eq, nI_1]
    by_cases e : w = wrd j
    · rw [if_pos ((lg_cmp_eq _ _).mpr (by rw [e]))]
      obtain ⟨f, rfl⟩ : ∃ g, f = g + 1 := ⟨f - 1, by omega⟩
      refine ⟨128 + j, sI c 1 4 (128 + nI j), ?_, lxC.rfl'.sI (by omega), rfl, fun s hs => by rw [sI_row, upd_ne hs], ?_, Or.inr ⟨by omega, by omega⟩, fun i hi => ?_⟩
      · have hne : ¬ (sI c 1 4 (128 + nI j)).1 1 4 = (2 : Int32) := by
          rw [sI_row, upd_at, show (128 : Int32) = nI 128 from rfl, nI_add]
          exact fun z => absurd ((nI_eq (b := 2) (by omega) (by omega)).mp z) (by omega)
        rw [gX10_readWord, if_neg hne]
        split <;> rfl
      · rw [sI_row, upd_at, show (128 : Int32) = nI 128 from rfl, nI_add]
      · rw [e, wrd_inj j hj9 i hi]
        omega
    · rw [if_neg (fun z => e ((e27_inj hw (wrd_vw hj9)).mp ((lg_cmp_eq _ _).mp z).symm))]
      obtain ⟨K, c', a1, a2, a3, a4, a5⟩ := ih (j + 1) (by omega) (sI c 1 4 2) f (by omega) hT (by rw [sI_row, upd_at]; rfl) h7 (fun i hi => by
        by_cases y : i = j
        · rw [y]; exact e
        · exact hn i (by omega))
      exact ⟨K, c', a1, (lxC.rfl'.sI (by omega)).trans a2, a3, fun s hs => by rw [a4 s hs, sI_row, upd_ne hs], a5⟩
theorem num_ok (a b : Nat) (hb : 48 ≤ b) : nI a * (10 : Int32) + nI b - (48 : Int32) = nI (a * 10 + (b - 48)) := by
  rw [show (10 : Int32) = nI 10 from rfl, pk_mul, nI_add, show (48 : Int32) = nI 48 from rfl, pk_sub (by omega)]
  congr 1
  omega
/-- the class reads a number -/
theorem c_num (hL : L ≤ 1600) {p : Nat} : ∀ (j n : Nat), n + j = L → ∀ (c : Mem) (f : Nat), j < f → BT bt L c m → p ≤ n → c.1 1 3 = nI n → c.1 1 5 = nI p → c.1 1 6 = nI (nv bt (n - p) p) → ∃ c', gX10_readNumber f c = some c' ∧ lxC c c' ∧ c'.2 = c.2 ∧ c'.1 1 3 = nI (run isD bt j n) ∧ c'.1 1 5 = nI p ∧ c'.1 1 4 = nI (if run isD bt j n - p ≤ 4 ∧ ¬ (run isD bt j n < L ∧ isL (bt (run isD bt j n)) = true) then 3 else 0) ∧ c'.1 1 6 = nI (nv bt (run isD bt j n - p) p) := by
  have fin : ∀ (n : Nat) (c : Mem), BT bt L c m → n ≤ L → p ≤ n → c.1 1 3 = nI n → c.1 1 5 = nI p → c.1 1 6 = nI (nv bt (n - p) p) → ∃ c', (if (4 : Int32) < ((c.1 1 3) - (c.1 1 5)) then (pt (sI c 1 4 (0 : Int32)) fun m3 => (some m3)) else (cP (fX10_isLetterAt c (c.1 1 3)) fun r4 => (if r4 = 0 then (pt (sI c 1 4 (3 : Int32)) fun m7 => (some m7)) else (pt (sI c 1 4 (0 : Int32)) fun m8 => (some m8))))) = some c' ∧ lxC c c' ∧ c'.2 = c.2 ∧ c'.1 1 3 = nI n ∧ c'.1 1 5 = nI p ∧ c'.1 1 4 = nI (if n - p ≤ 4 ∧ ¬ (n < L ∧ isL (bt n) = true) then 3 else 0) ∧ c'.1 1 6 = nI (nv bt (n - p) p) := by
    intro n c h hn hp h3 h5 h6
    have hset : ∀ x : Nat, lxC c (sI c 1 4 (nI x)) ∧ (sI c 1 4 (nI x)).2 = c.2 ∧ (sI c 1 4 (nI x)).1 1 3 = nI n ∧ (sI c 1 4 (nI x)).1 1 5 = nI p ∧ (sI c 1 4 (nI x)).1 1 4 = nI x ∧ (sI c 1 4 (nI x)).1 1 6 = nI (nv bt (n - p) p) := fun x => ⟨lxC.rfl'.sI (by omega), rfl, by rw [sI_row, upd_ne (by omega)]; exact h3, by rw [sI_row, upd_ne (by omega)]; exact h5, by rw [sI_row, upd_at], by rw [sI_row, upd_ne (by omega)]; exact h6⟩
    rw [h3, h5, pk_sub hp, c_letter h hn, cP_some, pt_eq, pt_eq]
    by_cases e : n - p ≤ 4
    · rw [if_neg (show ¬ (4 : Int32) < nI (n - p) from nI_nlt (a := 4) e (by omega))]
      by_cases e2 : n < L ∧ isL (bt n) = true
      · rw [if_neg (fun z => (ite10.mp z) e2), if_neg (fun z => z.2 e2)]
        obtain ⟨a1, a2, a3, a4, a5, a6⟩ := hset 0
        exact ⟨_, rfl, a1, a2, a3, a4, a5, a6⟩
      · rw [if_pos (ite10.mpr e2), if_pos ⟨e, e2⟩]
        obtain ⟨a1, a2, a3, a4, a5, a6⟩ := hset 3
        exact ⟨_, rfl, a1, a2, a3, a4, a5, a6⟩
    · rw [if_pos (show (4 : Int32) < nI (n - p) from nI_lt (a := 4) (by omega) (by omega)), if_neg (fun z => e z.1)]
      obtain ⟨a1, a2, a3, a4, a5, a6⟩ := hset 0
      exact ⟨_, rfl, a1, a2, a3, a4, a5, a6⟩
  intro j
  induction j with
  | zero =>
    intro n hn c f hf h hp h3 h5 h6
    obtain ⟨f, rfl⟩ : ∃ g, f = g + 1 := ⟨f - 1, by omega⟩
    rw [run, gX10_readNumber, h.2.1, if_pos (by rw [h3]; exact nI_le (by omega) (by omega))]
    exact fin n c h (by omega) hp h3 h5 h6
  | succ j ih =>
    intro n hn c f hf h hp h3 h5 h6
    obtain ⟨f, rfl⟩ : ∃ g, f = g + 1 := ⟨f - 1, by omega⟩
    rw [run, gX10_readNumber, h.2.1, if_neg (by rw [h3]; exact nI_ge (by omega) (by omega)), show fX10_isDigitAt c (c.1 1 3) = some (if n < L ∧ isD (bt n) = true then 1 else 0) by rw [h3]; exact c_digit h (by omega), cP_some]
    by_cases e : isD (bt n) = true
    · rw [if_neg (fun z => (ite10.mp z) ⟨by omega, e⟩)]
      obtain ⟨b1, b2, -⟩ := h.2.2.2.1 n (by omega)
      have hr : 48 ≤ bt n ∧ bt n ≤ 57 := by unfold isD at e; simpa using e
      have hc2 : lxC c (sI (sI c 1 6 (nI (nv bt (n - p) p * 10 + (bt n - 48)))) 1 3 (nI (n + 1))) := (lxC.rfl'.sI (by omega)).sI (by omega)
      obtain ⟨c', a1, a2, a3, a4⟩ := ih (n + 1) (by omega) _ f (by omega) (h.lx hc2 lxM.rfl') (by omega) (by rw [sI_row, upd_at]) (by rw [sI_row, upd_ne (by omega), sI_row, upd_ne (by omega)]; exact h5) (by
        rw [sI_row, upd_ne (by omega), sI_row, upd_at, show n + 1 - p = (n - p) + 1 by omega, nv, show p + (n - p) = n by omega])
      rw [if_pos e]
      refine ⟨c', ?_, hc2.trans a2, a3, a4⟩
      rw [show ∀ Q : Int32 → Option Mem, rd (c.1 2) 1600 (c.1 1 3) Q = Q (nI (bt n)) from fun Q => by rw [h3, rd_ok (by omega) (by omega), b2, (sb_0 _ b1).2.2.2.2.2.2 (by omega)], h6, num_ok _ _ (by omega), pt_eq, pt_eq, sI_row, upd_ne (by omega), h3, nI_1]
      exact a1
    · rw [if_pos (ite10.mpr (fun z => e z.2)), if_neg e]
      exact fin n c h (by omega) hp h3 h5 h6
theorem nv_lt (bt : Nat → Nat) : ∀ k s, (∀ i, s ≤ i → i < s + k → isD (bt i) = true) → nv bt k s < 10 ^ k
  | 0, s, _ => by rw [nv]; decide
  | k + 1, s, h => by
    have h1 := nv_lt bt k s (fun i x y => h i x (by omega))
    have h2 := h (s + k) (by omega) (by omega)
    unfold isD at h2
    simp at h2
    rw [nv, Nat.pow_succ]
    omega
/-- the reference reads a word -/
theorem m_word (hL : L ≤ 1600) {p : Nat} : ∀ (j i : Nat), p + i + j = L → ∀ (m : Mem) (f : Nat), j < f → BT bt L c m → m.1 0 4 = nI p → (∀ q, p ≤ q → q < p + i → isL (bt q) = true) → m.2.1 0 9 = lN (enc 256 0 (wl bt (min i 8) p)) → ∃ m', gX12_token f 1 (nI i) m = some m' ∧ lxM m m' ∧ m'.1 0 7 = m.1 0 7 ∧ m'.1 0 6 = nI (if run isL bt j (p + i) - p ≤ 8 then 1 else 3) ∧ (run isL bt j (p + i) - p ≤ 8 → m'.1 0 4 = nI (run isL bt j (p + i)) ∧ m'.2.1 0 9 = lN (enc 256 0 (wl bt (run isL bt j (p + i) - p) p))) := by
  have fin : ∀ (i : Nat) (m : Mem), p + i ≤ L → m.1 0 4 = nI p → m.2.1 0 9 = lN (enc 256 0 (wl bt (min i 8) p)) → ∃ m', (if nI i ≤ (8 : Int32) then (pt (sI m 0 6 (1 : Int32)) fun m7 => (if (m7.1 0 6) = (3 : Int32) then (some m7) else (pt (sI m7 0 4 ((m7.1 0 4) + nI i)) fun m9 => (some m9)))) else (pt (sI m 0 6 (3 : Int32)) fun m10 => (if (m10.1 0 6) = (3 : Int32) then (some m10) else (pt (sI m10 0 4 ((m10.1 0 4) + nI i)) fun m12 => (some m12))))) = some m' ∧ lxM m m' ∧ m'.1 0 7 = m.1 0 7 ∧ m'.1 0 6 = nI (if i ≤ 8 then 1 else 3) ∧ (i ≤ 8 → m'.1 0 4 = nI (p + i) ∧ m'.2.1 0 9 = lN (enc 256 0 (wl bt i p))) := by
    intro i m hi h4 h9
    rw [pt_eq, pt_eq, pt_eq]
    by_cases e : i ≤ 8
    · rw [if_pos (show nI i ≤ (8 : Int32) from nI_le (b := 8) e (by omega)), sI_row, upd_at, if_neg (by decide), upd_ne (by omega), h4, nI_add, if_pos e]
      refine ⟨_, rfl, (lxM.rfl'.sI (by omega)).sI (by omega), by rw [sI_row, upd_ne (by omega), sI_row, upd_ne (by omega)], by rw [sI_row, upd_ne (by omega), sI_row, upd_at]; rfl, fun _ => ⟨by rw [sI_row, upd_at], ?_⟩⟩
      rw [show min i 8 = i by omega] at h9
      exact h9
    · rw [if_neg (show ¬ nI i ≤ (8 : Int32) from nI_ge (a := 8) (by omega) (by omega)), sI_row, upd_at, if_pos rfl, if_neg e]
      exact ⟨_, rfl, lxM.rfl'.sI (by omega), by rw [sI_row, upd_ne (by omega)], by rw [sI_row, upd_at]; rfl, fun z => absurd z e⟩
  intro j
  induction j with
  | zero =>
    intro i hi m f hf h h4 hq h9
    obtain ⟨f, rfl⟩ : ∃ g, f = g + 1 := ⟨f - 1, by omega⟩
    rw [run, show p + i - p = i by omega, gX12_token, m_here h h4 (by omega), cP_some, m_letter h, cP_some, if_pos (ite10.mpr (fun z => absurd z.1 (by omega)))]
    exact fin i m (by omega) h4 h9
  | succ j ih =>
    intro i hi m f hf h h4 hq h9
    obtain ⟨f, rfl⟩ : ∃ g, f = g + 1 := ⟨f - 1, by omega⟩
    rw [run, gX12_token, m_here h h4 (by omega), cP_some, m_letter h, cP_some]
    by_cases e : isL (bt (p + i)) = true
    · have hr : 97 ≤ bt (p + i) ∧ bt (p + i) ≤ 122 := by unfold isL at e; simpa using e
      have hq' : ∀ q, p ≤ q → q < p + (i + 1) → isL (bt q) = true := fun q x y => by
        by_cases z : q = p + i
        · rw [z]; exact e
        · exact hq q x (by omega)
      rw [if_neg (fun z => (ite10.mp z) ⟨by omega, e⟩), if_pos e, nI_1, cP_some, if_pos (show p + i < L by omega)]
      by_cases e8 : 8 ≤ i
      · rw [if_pos (show (8 : Int32) ≤ nI i from nI_le (a := 8) e8 (by omega))]
        exact ih (i + 1) (by omega) m f (by omega) h h4 hq' (by rw [show min (i + 1) 8 = min i 8 by omega]; exact h9)
      · rw [if_neg (show ¬ (8 : Int32) ≤ nI i from nI_ge (b := 8) (by omega) (by omega)), pt_eq]
        rw [show min i 8 = i by omega] at h9
        have hv : VW (wl bt i p) := ⟨by rw [wl_len]; omega, wl_mem i p hq⟩
        have hb : enc 256 0 (wl bt i p) * 256 < 2 ^ 63 := by
          have := enc_256 (wl bt i p) hv.2
          rw [wl_len] at this
          have h2 : 256 ^ i ≤ 256 ^ 7 := Nat.pow_le_pow_right (by decide) (by omega)
          have h3 : (256 : Nat) ^ 7 * 256 = 2 * 2 ^ 63 := by decide
          omega
        have hw : ((m.2.1 0 9) <<< (((8 : Int32)).toInt64 &&& 63)) ||| (nI (bt (p + i))).toInt64 = lN (enc 256 0 (wl bt (i + 1) p)) := by
          have o1 : bt (p + i) < 256 := by omega
          have o2 : enc 256 0 (wl bt i p) * 256 + bt (p + i) < 2 ^ 64 := by
            have : (2 : Nat) ^ 64 = 2 ^ 63 + 2 ^ 63 := by decide
            rw [this]
            exact Nat.add_lt_add hb (Nat.lt_of_lt_of_le o1 (by decide))
          have o3 := g_or (k := 8) (p := 256) (a := bt (p + i)) (b := enc 256 0 (wl bt i p)) rfl o1 o2
          rw [h9, show (8 : Int32) = nI 8 from rfl, wb_shl _ (by omega), nI_l (by omega)]
          exact o3
        rw [hw]
        have hm2 : lxM m (sL m 0 9 (lN (enc 256 0 (wl bt (i + 1) p)))) := lxM.rfl'.sL
        obtain ⟨m', a1, a2, a3, a4⟩ := ih (i + 1) (by omega) _ f (by omega) (h.lx lxC.rfl' hm2) h4 hq' (by rw [sL_at, show min (i + 1) 8 = i + 1 by omega])
        exact ⟨m', a1, hm2.trans a2, a3, a4⟩
    · rw [if_pos (ite10.mpr (fun z => e z.2)), if_neg e, show p + i - p = i by omega]
      exact fin i m (by omega) h4 h9
/-- the reference reads a number -/
theorem m_num (hL : L ≤ 1600) {p : Nat} : ∀ (j i : Nat), p + i + j = L → ∀ (m : Mem) (f : Nat), j < f → BT bt L c m → m.1 0 4 = nI p → (∀ q, p ≤ q → q < p + i → isD (bt q) = true) → m.1 0 8 = nI (nv bt (min i 4) p) → ∃ m', gX12_token f 2 (nI i) m = some m' ∧ lxM m m' ∧ m'.1 0 7 = m.1 0 7 ∧ m'.1 0 6 = nI (if run isD bt j (p + i) - p ≤ 4 ∧ ¬ (run isD bt j (p + i) < L ∧ isL (bt (run isD bt j (p + i))) = true) then 2 else 3) ∧ ((run isD bt j (p + i) - p ≤ 4 ∧ ¬ (run isD bt j (p + i) < L ∧ isL (bt (run isD bt j (p + i))) = true)) → m'.1 0 4 = nI (run isD bt j (p + i)) ∧ m'.1 0 8 = nI (nv bt (run isD bt j (p + i) - p) p)) := by
  have fin : ∀ (i : Nat) (m : Mem), BT bt L c m → p + i ≤ L → m.1 0 4 = nI p → m.1 0 8 = nI (nv bt (min i 4) p) → ∃ m', (if (4 : Int32) < nI i then (pt (sI m 0 6 (3 : Int32)) fun m7 => (if (m7.1 0 6) = (3 : Int32) then (some m7) else (pt (sI m7 0 4 ((m7.1 0 4) + nI i)) fun m9 => (some m9)))) else (cP (some (if p + i < L then nI (bt (p + i)) else -1)) fun r10 => (cP (fX12_isLetter r10) fun r12 => (if r12 = 0 then (pt (sI m 0 6 (2 : Int32)) fun m15 => (if (m15.1 0 6) = (3 : Int32) then (some m15) else (pt (sI m15 0 4 ((m15.1 0 4) + nI i)) fun m17 => (some m17)))) else (pt (sI m 0 6 (3 : Int32)) fun m18 => (if (m18.1 0 6) = (3 : Int32) then (some m18) else (pt (sI m18 0 4 ((m18.1 0 4) + nI i)) fun m20 => (some m20)))))))) = some m' ∧ lxM m m' ∧ m'.1 0 7 = m.1 0 7 ∧ m'.1 0 6 = nI (if i ≤ 4 ∧ ¬ (p + i < L ∧ isL (bt (p + i)) = true) then 2 else 3) ∧ ((i ≤ 4 ∧ ¬ (p + i < L ∧ isL (bt (p + i)) = true)) → m'.1 0 4 = nI (p + i) ∧ m'.1 0 8 = nI (nv bt i p)) := by
    intro i m h hi h4 h8
    have bad : ∃ m', (pt (sI m 0 6 (3 : Int32)) fun m18 => (if (m18.1 0 6) = (3 : Int32) then (some m18) else (pt (sI m18 0 4 ((m18.1 0 4) + nI i)) fun m20 => (some m20)))) = some m' ∧ lxM m m' ∧ m'.1 0 7 = m.1 0 7 ∧ m'.1 0 6 = nI 3 := by
      rw [pt_eq, sI_row, upd_at, if_pos rfl]
      exact ⟨_, rfl, lxM.rfl'.sI (by omega), by rw [sI_row, upd_ne (by omega)], by rw [sI_row, upd_at]; rfl⟩
    by_cases e : i ≤ 4
    · rw [if_neg (show ¬ (4 : Int32) < nI i from nI_nlt (a := 4) e (by omega)), cP_some, m_letter h, cP_some]
      by_cases e2 : p + i < L ∧ isL (bt (p + i)) = true
      · rw [if_neg (fun z => (ite10.mp z) e2), if_neg (fun z => z.2 e2)]
        obtain ⟨m', a1, a2, a3, a4⟩ := bad
        exact ⟨m', a1, a2, a3, a4, fun z => absurd e2 z.2⟩
      · rw [if_pos (ite10.mpr e2), if_pos ⟨e, e2⟩, pt_eq, sI_row, upd_at, if_neg (by decide), pt_eq, upd_ne (by omega), h4, nI_add]
        rw [show min i 4 = i by omega] at h8
        exact ⟨_, rfl, (lxM.rfl'.sI (by omega)).sI (by omega), by rw [sI_row, upd_ne (by omega), sI_row, upd_ne (by omega)], by rw [sI_row, upd_ne (by omega), sI_row, upd_at]; rfl, fun _ => ⟨by rw [sI_row, upd_at], by rw [sI_row, upd_ne (by omega), sI_row, upd_ne (by omega)]; exact h8⟩⟩
    · rw [if_pos (show (4 : Int32) < nI i from nI_lt (a := 4) (by omega) (by omega)), if_neg (fun z => e z.1)]
      obtain ⟨m', a1, a2, a3, a4⟩ := bad
      exact ⟨m', a1, a2, a3, a4, fun z => absurd z.1 e⟩
  intro j
  induction j with
  | zero =>
    intro i hi m f hf h h4 hq h8
    obtain ⟨f, rfl⟩ : ∃ g, f = g + 1 := ⟨f - 1, by omega⟩
    rw [run, show p + i - p = i by omega, gX12_token, m_here h h4 (by omega), cP_some, m_digit h, cP_some, if_pos (ite10.mpr (fun z => absurd z.1 (by omega)))]
    exact fin i m h (by omega) h4 h8
  | succ j ih =>
    intro i hi m f hf h h4 hq h8
    obtain ⟨f, rfl⟩ : ∃ g, f = g + 1 := ⟨f - 1, by omega⟩
    rw [run, gX12_token, m_here h h4 (by omega), cP_some, m_digit h, cP_some]
    by_cases e : isD (bt (p + i)) = true
    · have hr : 48 ≤ bt (p + i) ∧ bt (p + i) ≤ 57 := by unfold isD at e; simpa using e
      have hq' : ∀ q, p ≤ q → q < p + (i + 1) → isD (bt q) = true := fun q x y => by
        by_cases z : q = p + i
        · rw [z]; exact e
        · exact hq q x (by omega)
      rw [if_neg (fun z => (ite10.mp z) ⟨by omega, e⟩), if_pos e, nI_1, cP_some, if_pos (show p + i < L by omega)]
      by_cases e4 : 4 ≤ i
      · rw [if_pos (show (4 : Int32) ≤ nI i from nI_le (a := 4) e4 (by omega))]
        exact ih (i + 1) (by omega) m f (by omega) h h4 hq' (by rw [show min (i + 1) 4 = min i 4 by omega]; exact h8)
      · rw [if_neg (show ¬ (4 : Int32) ≤ nI i from nI_ge (b := 4) (by omega) (by omega)), pt_eq]
        rw [show min i 4 = i by omega] at h8
        rw [h8, Int32.mul_comm, num_ok _ _ (by omega)]
        have hm2 : lxM m (sI m 0 8 (nI (nv bt i p * 10 + (bt (p + i) - 48)))) := lxM.rfl'.sI (by omega)
        obtain ⟨m', a1, a2, a3, a4⟩ := ih (i + 1) (by omega) _ f (by omega) (h.lx lxC.rfl' hm2) (by rw [sI_row, upd_ne (by omega)]; exact h4) hq' (by rw [sI_row, upd_at, show min (i + 1) 4 = i + 1 by omega, nv])
        exact ⟨m', a1, hm2.trans a2, by rw [a3, sI_row, upd_ne (by omega)], a4⟩
    · rw [if_pos (ite10.mpr (fun z => e z.2)), if_neg e, show p + i - p = i by omega]
      exact fin i m h (by omega) h4 h8
/-- blanks are passed -/
theorem c_blank (hL : L ≤ 1600) : ∀ (j n : Nat), n + j = L → ∀ (c : Mem) (f : Nat), j < f → BT bt L c m → c.1 1 3 = nI n → ∃ c' f', f = f' + (run isB bt j n - n) ∧ gX10_advance f c = gX10_advance f' c' ∧ lxC c c' ∧ c'.1 1 3 = nI (run isB bt j n) := by
  intro j
  induction j with
  | zero =>
    intro n hn c f hf h h3
    exact ⟨c, f, by rw [run]; omega, rfl, lxC.rfl', by rw [run]; exact h3⟩
  | succ j ih =>
    intro n hn c f hf h h3
    rw [run]
    by_cases e : isB (bt n) = true
    · rw [if_pos e]
      obtain ⟨f, rfl⟩ : ∃ g, f = g + 1 := ⟨f - 1, by omega⟩
      obtain ⟨b1, b2, -⟩ := h.2.2.2.1 n (by omega)
      obtain ⟨⟨s1, s2⟩, -⟩ := sb_0 _ b1
      have hr : bt n = 32 ∨ bt n = 10 := by unfold isB at e; simpa using e
      have hc2 : lxC c (sI c 1 3 (nI (n + 1))) := lxC.rfl'.sI (by omega)
      obtain ⟨c', f', a0, a1, a2, a3⟩ := ih (n + 1) (by omega) _ f (by omega) (h.lx hc2 lxM.rfl') (by rw [sI_row, upd_at])
      have hle := run_le isB bt j (n + 1)
      refine ⟨c', f', by omega, ?_, hc2.trans a2, a3⟩
      rw [← a1, gX10_advance, h.2.1, if_neg (by rw [h3]; exact nI_ge (by omega) (by omega)), show ∀ Q : Int32 → Option Mem, rd (c.1 2) 1600 (c.1 1 3) Q = Q (sb (bt n)) from fun Q => by rw [h3, rd_ok (by omega) (by omega), b2]]
      rcases hr with z | z
      · rw [if_pos (s1.mpr z), pt_eq, h3, nI_1]
      · by_cases y : sb (bt n) = 32
        · rw [if_pos y, pt_eq, h3, nI_1]
        · rw [if_neg y, show ∀ Q : Int32 → Option Mem, rd (c.1 2) 1600 (c.1 1 3) Q = Q (sb (bt n)) from fun Q => by rw [h3, rd_ok (by omega) (by omega), b2], if_pos (s2.mpr z), pt_eq, h3, nI_1]
    · rw [if_neg e]
      exact ⟨c, f, by omega, rfl, lxC.rfl', h3⟩
theorem m_blank (hL : L ≤ 1600) : ∀ (j n : Nat), n + j = L → ∀ (m : Mem) (f : Nat), j < f → BT bt L c m → m.1 0 4 = nI n → ∃ m' f', f = f' + (run isB bt j n - n) ∧ gX12_token f 0 0 m = gX12_token f' 0 0 m' ∧ lxM m m' ∧ m'.1 0 4 = nI (run isB bt j n) := by
  intro j
  induction j with
  | zero =>
    intro n hn m f hf h h4
    exact ⟨m, f, by rw [run]; omega, rfl, lxM.rfl', by rw [run]; exact h4⟩
  | succ j ih =>
    intro n hn m f hf h h4
    rw [run]
    by_cases e : isB (bt n) = true
    · rw [if_pos e]
      obtain ⟨f, rfl⟩ : ∃ g, f = g + 1 := ⟨f - 1, by omega⟩
      have hh : fX12_here m 0 = _ := m_here h h4 (i := 0) (by omega)
      rw [Nat.add_zero, if_pos (show n < L by omega)] at hh
      have hm2 : lxM m (sI m 0 4 (nI (n + 1))) := lxM.rfl'.sI (by omega)
      obtain ⟨m', f', a0, a1, a2, a3⟩ := ih (n + 1) (by omega) _ f (by omega) (h.lx lxC.rfl' hm2) (by rw [sI_row, upd_at])
      have hle := run_le isB bt j (n + 1)
      refine ⟨m', f', by omega, ?_, hm2.trans a2, a3⟩
      rw [← a1, gX12_token, hh, cP_some]
      rcases (sgM_0 _ (h.2.2.2.1 n (by omega)).1).2.2.2.mpr e with z | z
      · rw [if_pos z, pt_eq, h4, nI_1]
      · by_cases y : nI (bt n) = 32
        · rw [if_pos y, pt_eq, h4, nI_1]
        · rw [if_neg y, cP_some, if_pos z, pt_eq, h4, nI_1]
    · rw [if_neg e]
      exact ⟨m, f, by omega, rfl, lxM.rfl', h4⟩
theorem rSort_sign : ∀ k, k < 256 → isS k = true → rSort k = k ∧ ¬ k = 0 ∧ ¬ k = 1 ∧ ¬ k = 2 ∧ ¬ k = 3 ∧ k < 128 := by decide +kernel
/-- both go on to the next token, the same one -/
theorem adv (h : BT bt L c m) {n : Nat} (hn : n ≤ L) (h3 : c.1 1 3 = nI n) (h4 : m.1 0 4 = nI n) : ∃ k p n' v w c' m', fX10_advance c = some c' ∧ fX12_token m = some m' ∧ n ≤ p ∧ BT bt L c' m' ∧ TK L k p n' v w c' m' ∧ lxC c c' ∧ lxM m m' := by
  have hL := h.1
  obtain ⟨c1, f1, a0, a1, a2, a3⟩ := c_blank hL (L - n) n (by omega) c 5000 (by omega) h h3
  obtain ⟨m1, g1, b0, b1, b2, b3⟩ := m_blank hL (L - n) n (by omega) m 5000 (by omega) h h4
  have hp1 := run_le isB bt (L - n) n
  have hpS := run_stop isB bt (L - n) n
  generalize hP : run isB bt (L - n) n = p at *
  have hpL : p ≤ L := by omega
  have h1 := h.lx a2 b2
  obtain ⟨f1, rfl⟩ : ∃ g, f1 = g + 1 := ⟨f1 - 1, by omega⟩
  obtain ⟨g1, rfl⟩ : ∃ g, g1 = g + 1 := ⟨g1 - 1, by omega⟩
  have hh : fX12_here m1 0 = _ := m_here h1 b3 (i := 0) (by omega)
  rw [Nat.add_zero] at hh
  unfold fX10_advance fX12_token
  rw [show gX12_token 5000 0 0 m = _ from b1, a1]
  -- the reference's state at the token
  have kpC : ∀ c2 : Mem, c2 = sI c1 1 5 (nI p) → lxC c c2 ∧ c2.1 1 3 = nI p ∧ c2.1 1 5 = nI p ∧ c2.2 = c1.2 := fun c2 e => by
    rw [e]
    exact ⟨a2.sI (by omega), by rw [sI_row, upd_ne (by omega)]; exact a3, by rw [sI_row, upd_at], rfl⟩
  have kpM : ∀ m2 : Mem, m2 = sI (sL (sI m1 0 7 (nI p)) 0 9 0) 0 8 0 → lxM m m2 ∧ m2.1 0 4 = nI p ∧ m2.1 0 7 = nI p ∧ m2.2.1 0 9 = lN 0 ∧ m2.1 0 8 = nI 0 := fun m2 e => by
    rw [e]
    refine ⟨((b2.sI (by omega)).sL).sI (by omega), by rw [sI_row, upd_ne (by omega), sL_1, sI_row, upd_ne (by omega)]; exact b3, by rw [sI_row, upd_ne (by omega), sL_1, sI_row, upd_at], ?_, by rw [sI_row, upd_at]; rfl⟩
    rw [sI_2, sL_at]
    rfl
  -- what the class does at the token, in one form for both roads
  have classAt : ∀ (R : Option Mem), (pt (sI c1 1 5 (c1.1 1 3)) fun m2 => (if (m2.1 1 3) < (m2.1 1 1) then (cP (fX10_isLetterAt m2 (m2.1 1 3)) fun r4 => (if r4 = 0 then (cP (fX10_isDigitAt m2 (m2.1 1 3)) fun r7 => (if r7 = 0 then (rd (m2.1 2) 1600 (m2.1 1 3) fun v10 => (nm (v10 &&& (255 : Int32)) fun v11 => (cP (fsigns ((v11).toUInt32 % 65536).toInt32) fun r12 => (if r12 < 0 then (pt (sI m2 1 4 (0 : Int32)) fun m14 => (pt (sI m14 1 3 ((m14.1 1 3) + (1 : Int32))) fun m15 => (some m15))) else (pt (sI m2 1 4 v11) fun m16 => (pt (sI m16 1 3 ((m16.1 1 3) + (1 : Int32))) fun m17 => (some m17))))))) else (cV (fX10_readNumber m2) fun m19 => (some m19)))) else (cV (fX10_readWord m2) fun m21 => (some m21)))) else (pt (sI m2 1 4 (1 : Int32)) fun m22 => (some m22)))) = R → gX10_advance (f1 + 1) c1 = R := by
    intro R hR
    rw [gX10_advance, h1.2.1]
    by_cases e : p < L
    · obtain ⟨d1, d2, d3⟩ := h1.2.2.2.1 p e
      obtain ⟨⟨s1, s2⟩, -⟩ := sb_0 _ d1
      have hb : isB (bt p) = false := hpS (by omega)
      have hb2 : ¬ (bt p = 32 ∨ bt p = 10) := by unfold isB at hb; simpa using hb
      have hrd : ∀ Q : Int32 → Option Mem, rd (c1.1 2) 1600 (c1.1 1 3) Q = Q (sb (bt p)) := fun Q => by rw [a3, rd_ok (by omega) (by omega), d2]
      rw [if_neg (by rw [a3]; exact nI_ge e (by omega)), hrd, if_neg (fun z => hb2 (Or.inl (s1.mp z))), hrd, if_neg (fun z => hb2 (Or.inr (s2.mp z)))]
      exact hR
    · rw [if_pos (by rw [a3]; exact nI_le (by omega) (by omega))]
      exact hR
  have refAt : ∀ (R : Option Mem), (pt (sI m1 0 7 (m1.1 0 4)) fun m8 => (cP (fX12_here m8 (0 : Int32)) fun r9 => (pt (sL m8 0 9 (0 : Int64)) fun m11 => (pt (sI m11 0 8 (0 : Int32)) fun m12 => (if 0 ≤ r9 then (cP (fX12_isLetter r9) fun r14 => (if r14 = 0 then (cP (fX12_isDigit r9) fun r17 => (if r17 = 0 then (cP (fX12_isSign r9) fun r20 => (if r20 = 0 then (pt (sI m12 0 6 (3 : Int32)) fun m23 => (if (m23.1 0 6) = (3 : Int32) then (some m23) else (pt (sI m23 0 4 ((m23.1 0 4) + (1 : Int32))) fun m25 => (some m25)))) else (pt (sI m12 0 6 r9) fun m26 => (if (m26.1 0 6) = (3 : Int32) then (some m26) else (pt (sI m26 0 4 ((m26.1 0 4) + (1 : Int32))) fun m28 => (some m28)))))) else (gX12_token g1 2 (0 : Int32) m12))) else (gX12_token g1 1 (0 : Int32) m12))) else (pt (sI m12 0 6 (0 : Int32)) fun m29 => (if (m29.1 0 6) = (3 : Int32) then (some m29) else (pt (sI m29 0 4 ((m29.1 0 4) + (0 : Int32))) fun m31 => (some m31))))))))) = R → gX12_token (g1 + 1) 0 0 m1 = R := by
    intro R hR
    rw [gX12_token, hh, cP_some, cP_some]
    by_cases e : p < L
    · have hb : isB (bt p) = false := hpS (by omega)
      have hb2 := (sgM_0 _ (h1.2.2.2.1 p e).1).2.2.2
      rw [if_pos e, if_neg (fun z => by rw [hb2.mp (Or.inl z)] at hb; cases hb), if_neg (fun z => by rw [hb2.mp (Or.inr z)] at hb; cases hb)]
      exact hR
    · rw [if_neg e, if_neg (by decide), if_neg (by decide)]
      exact hR
  obtain ⟨k1, k2, k3, k4⟩ := kpC _ rfl
  obtain ⟨y1, y2, y3, y4, y5⟩ := kpM _ rfl
  have hB2 : BT bt L (sI c1 1 5 (nI p)) (sI (sL (sI m1 0 7 (nI p)) 0 9 0) 0 8 0) := h.lx k1 y1
  have hh8 : fX12_here (sI m1 0 7 (nI p)) 0 = some (if p < L then nI (bt p) else -1) := by
    have := m_here (h1.lx lxC.rfl' (lxM.rfl'.sI (s := 7) (v := nI p) (by omega))) (a := p) (i := 0) (by rw [sI_row, upd_ne (by omega)]; exact b3) (by omega)
    rw [Nat.add_zero] at this
    exact this
  rw [pt_eq, a3] at classAt
  rw [pt_eq, b3] at refAt
  rw [hh8, cP_some, pt_eq, pt_eq] at refAt
  generalize sI c1 1 5 (nI p) = c2 at *
  generalize sI (sL (sI m1 0 7 (nI p)) 0 9 0) 0 8 0 = m2 at *
  rw [k2, hB2.2.1] at classAt
  by_cases e : p < L
  · rw [if_pos (nI_lt e (by omega)), c_letter hB2 (by omega), cP_some] at classAt
    obtain ⟨d1, d2, d3⟩ := hB2.2.2.2.1 p e
    rw [if_pos e, if_pos (nI_pos' (by omega)), (sgM_0 _ d1).2.1, cP_some] at refAt
    by_cases eL : isL (bt p) = true
    · rw [if_neg (fun z => (ite10.mp z) ⟨e, eL⟩)] at classAt
      rw [if_pos eL, if_neg i10] at refAt
      have hc3 : lxC c2 (sL c2 1 7 0) := lxC.rfl'.sL
      obtain ⟨c3, f3, w0, w1, w2, w3, w4, w5, w6⟩ := c_word (bt := bt) (m := m2) hL (L - p) p (by omega) (sL c2 1 7 0) 5000 (by omega) (hB2.lx hc3 lxM.rfl') (Nat.le_refl _) k2 k3 (by rw [sL_at, Nat.sub_self]; rfl)
      obtain ⟨m3, z1, z2, z3, z4, z5⟩ := m_word (bt := bt) (c := c2) hL (L - p) 0 (by omega) m2 g1 (by omega) hB2 y2 (fun q x y => by omega) y4
      rw [Nat.add_zero] at z4 z5
      have hr := run_le isL bt (L - p) p
      have hin := run_in isL bt (L - p) p
      have hgt : p < run isL bt (L - p) p := by
        rw [show L - p = (L - p - 1) + 1 by omega, run, if_pos eL]
        have := run_le isL bt (L - p - 1) (p + 1)
        omega
      generalize run isL bt (L - p) p = q at *
      have hrw : fX10_readWord c2 = gX10_readWord f3 1 0 c3 := w1
      by_cases e8 : q - p ≤ 8
      · rw [if_pos e8] at w5 z4
        obtain ⟨z6, z7⟩ := z5 e8
        have hvw : VW (wl bt (q - p) p) := ⟨by rw [wl_len]; exact e8, wl_mem _ _ (fun i x y => hin i x (by omega))⟩
        obtain ⟨K, c4, u1, u2, u3, u4, u5, u6, u7⟩ := c_kind hvw 19 0 (by omega) c3 f3 (by omega) (by rw [w2.2.2.2 3 (by omega), hc3.2.2.2 3 (by omega)]; exact hB2.2.2.2.2.1) w5 w6 (fun i hi => by omega)
        rw [hrw, show gX10_readWord f3 1 0 c3 = _ from u1, cV_some] at classAt
        have kC : lxC c c4 := k1.trans (hc3.trans (w2.trans u2))
        have kM : lxM m m3 := y1.trans z2
        refine ⟨K, p, q, 0, wl bt (q - p) p, c4, m3, classAt _ rfl, refAt _ z1, by omega, h.lx kC kM, ?_, kC, kM⟩
        have hK : ¬ K = 0 ∧ ¬ K = 1 ∧ ¬ K = 3 ∧ rSort K = 1 := by
          unfold rSort
          rcases u6 with rfl | z
          · exact ⟨by omega, by omega, by omega, rfl⟩
          · exact ⟨by omega, by omega, by omega, by rw [if_neg (by omega), if_neg (by omega), if_neg (by omega), if_pos (by omega)]⟩
        refine ⟨by omega, by omega, by omega, fun z => absurd z hK.2.1, fun _ _ => hgt, fun z => absurd z hK.2.1, u5, by rw [u4 5 (by omega)]; exact w4, fun _ => by rw [u4 3 (by omega)]; exact w3, fun z => absurd z hK.2.2.1, fun _ => by rw [u3]; exact w6, fun _ => ⟨hvw, z7, u7⟩, by rw [z4, hK.2.2.2], by rw [z3]; exact y3, fun _ => z6⟩
      · rw [if_neg e8] at w5 z4
        obtain ⟨f3, rfl⟩ : ∃ g, f3 = g + 1 := ⟨f3 - 1, by omega⟩
        rw [hrw, gX10_readWord, if_neg (by decide), w5, if_neg (by decide), cV_some] at classAt
        have kC : lxC c c3 := k1.trans (hc3.trans w2)
        have kM : lxM m m3 := y1.trans z2
        refine ⟨0, p, p, 0, [], c3, m3, classAt _ rfl, refAt _ z1, by omega, h.lx kC kM, ?_, kC, kM⟩
        exact ⟨by omega, by omega, by omega, fun z => by omega, fun z => absurd rfl z, fun z => by omega, w5, w4, fun z => absurd rfl z, fun z => by omega, fun z => by omega, fun z => by omega, z4, by rw [z3]; exact y3, fun z => absurd rfl z⟩
    · rw [if_pos (ite10.mpr (fun z => eL z.2)), c_digit hB2 (by omega), cP_some] at classAt
      rw [if_neg eL, if_pos rfl, (sgM_0 _ d1).2.2.1, cP_some] at refAt
      by_cases eD : isD (bt p) = true
      · rw [if_neg (fun z => (ite10.mp z) ⟨e, eD⟩)] at classAt
        rw [if_pos eD, if_neg i10] at refAt
        have hc3 : lxC c2 (sI c2 1 6 0) := lxC.rfl'.sI (by omega)
        obtain ⟨c3, w1, w2, w2', w3, w4, w5, w6⟩ := c_num (bt := bt) (m := m2) hL (L - p) p (by omega) (sI c2 1 6 0) 5000 (by omega) (hB2.lx hc3 lxM.rfl') (Nat.le_refl _) (by rw [sI_row, upd_ne (by omega)]; exact k2) (by rw [sI_row, upd_ne (by omega)]; exact k3) (by rw [sI_row, upd_at, Nat.sub_self]; rfl)
        obtain ⟨m3, z1, z2, z3, z4, z5⟩ := m_num (bt := bt) (c := c2) hL (L - p) 0 (by omega) m2 g1 (by omega) hB2 y2 (fun q x y => by omega) y5
        rw [Nat.add_zero] at z4 z5
        have hr := run_le isD bt (L - p) p
        have hin := run_in isD bt (L - p) p
        have hgt : p < run isD bt (L - p) p := by
          rw [show L - p = (L - p - 1) + 1 by omega, run, if_pos eD]
          have := run_le isD bt (L - p - 1) (p + 1)
          omega
        generalize run isD bt (L - p) p = q at *
        rw [show fX10_readNumber c2 = _ from w1, cV_some] at classAt
        have kC : lxC c c3 := k1.trans (hc3.trans w2)
        have kM : lxM m m3 := y1.trans z2
        by_cases e4 : q - p ≤ 4 ∧ ¬ (q < L ∧ isL (bt q) = true)
        · rw [if_pos e4] at w5 z4
          obtain ⟨z6, z7⟩ := z5 e4
          have hv : nv bt (q - p) p < 10000 := by
            have v1 := nv_lt bt (q - p) p (fun i x y => hin i x (by omega))
            have v2 : 10 ^ (q - p) ≤ 10 ^ 4 := Nat.pow_le_pow_right (by decide) e4.1
            omega
          refine ⟨3, p, q, nv bt (q - p) p, [], c3, m3, classAt _ rfl, refAt _ z1, by omega, h.lx kC kM, ?_, kC, kM⟩
          exact ⟨by omega, by omega, by omega, fun z => by omega, fun _ _ => hgt, fun z => by omega, w5, w4, fun _ => w3, fun _ => ⟨hv, w6, z7⟩, fun z => by omega, fun z => by omega, z4, by rw [z3]; exact y3, fun _ => z6⟩
        · rw [if_neg e4] at w5 z4
          refine ⟨0, p, p, 0, [], c3, m3, classAt _ rfl, refAt _ z1, by omega, h.lx kC kM, ?_, kC, kM⟩
          exact ⟨by omega, by omega, by omega, fun z => by omega, fun z => absurd rfl z, fun z => by omega, w5, w4, fun z => absurd rfl z, fun z => by omega, fun z => by omega, fun z => by omega, z4, by rw [z3]; exact y3, fun z => absurd rfl z⟩
      · rw [if_pos (ite10.mpr (fun z => eD z.2)), rd_ok (by omega) (by omega), d2, nm_eq, (sb_0 _ d1).2.2.2.2.2.1, sg_0 _ d1, cP_some, pt_eq, pt_eq, pt_eq, pt_eq] at classAt
        rw [if_neg eD, if_pos rfl, (sgM_0 _ d1).1, cP_some, pt_eq, pt_eq] at refAt
        have hneg := sg_neg _ d1
        by_cases eS : isS (bt p) = true
        · obtain ⟨r1, r2, r3, r4, r5, r6⟩ := rSort_sign _ d1 eS
          rw [if_neg (fun z => by rw [hneg.mp z] at eS; cases eS), sI_row, upd_ne (by omega), k2, nI_1] at classAt
          rw [if_pos eS, if_neg i10, pt_eq, sI_row, upd_at, if_neg (show ¬ nI (bt p) = (3 : Int32) from fun z => r5 ((nI_eq (b := 3) (by omega) (by omega)).mp z)), pt_eq, upd_ne (by omega), y2, nI_1] at refAt
          have kC : lxC c (sI (sI c2 1 4 (nI (bt p))) 1 3 (nI (p + 1))) := (k1.sI (by omega)).sI (by omega)
          have kM : lxM m (sI (sI m2 0 6 (nI (bt p))) 0 4 (nI (p + 1))) := (y1.sI (by omega)).sI (by omega)
          refine ⟨bt p, p, p + 1, 0, [], _, _, classAt _ rfl, refAt _ rfl, by omega, h.lx kC kM, ?_, kC, kM⟩
          exact ⟨Or.inr (Or.inl eS), by omega, by omega, fun z => absurd z r3, fun _ _ => by omega, fun z => absurd z r3, by rw [sI_row, upd_ne (by omega), sI_row, upd_at], by rw [sI_row, upd_ne (by omega), sI_row, upd_ne (by omega)]; exact k3, fun _ => by rw [sI_row, upd_at], fun z => absurd z r5, fun z => absurd z r4, fun z => by omega, by rw [sI_row, upd_ne (by omega), sI_row, upd_at, r1], by rw [sI_row, upd_ne (by omega), sI_row, upd_ne (by omega)]; exact y3, fun _ => by rw [sI_row, upd_at]⟩
        · rw [if_pos (hneg.mpr (by simpa using eS))] at classAt
          rw [if_neg eS, if_pos rfl, sI_row, upd_at, if_pos rfl] at refAt
          have kC : lxC c (sI (sI c2 1 4 0) 1 3 ((sI c2 1 4 0).1 1 3 + 1)) := (k1.sI (by omega)).sI (by omega)
          have kM : lxM m (sI m2 0 6 3) := y1.sI (by omega)
          refine ⟨0, p, p, 0, [], _, _, classAt _ rfl, refAt _ rfl, by omega, h.lx kC kM, ?_, kC, kM⟩
          exact ⟨by omega, by omega, by omega, fun z => by omega, fun z => absurd rfl z, fun z => by omega, by rw [sI_row, upd_ne (by omega), sI_row, upd_at]; rfl, by rw [sI_row, upd_ne (by omega), sI_row, upd_ne (by omega)]; exact k3, fun z => absurd rfl z, fun z => by omega, fun z => by omega, fun z => by omega, by rw [sI_row, upd_at]; rfl, by rw [sI_row, upd_ne (by omega)]; exact y3, fun z => absurd rfl z⟩
  · rw [if_neg (nI_nlt (by omega) (by omega)), pt_eq] at classAt
    rw [if_neg e, if_neg (by decide), pt_eq, sI_row, upd_at, if_neg (by decide), pt_eq, upd_ne (by omega), y2, i_az] at refAt
    have kC : lxC c (sI c2 1 4 1) := k1.sI (by omega)
    have kM : lxM m (sI (sI m2 0 6 0) 0 4 (nI p)) := (y1.sI (by omega)).sI (by omega)
    refine ⟨1, p, p, 0, [], _, _, classAt _ rfl, refAt _ rfl, by omega, h.lx kC kM, ?_, kC, kM⟩
    exact ⟨by omega, by omega, by omega, fun _ => by omega, fun _ z => absurd rfl z, fun _ => by omega, by rw [sI_row, upd_at]; rfl, by rw [sI_row, upd_ne (by omega)]; exact k3, fun _ => by rw [sI_row, upd_ne (by omega)]; exact k2, fun z => by omega, fun z => by omega, fun z => by omega, by rw [sI_row, upd_ne (by omega), sI_row, upd_at]; rfl, by rw [sI_row, upd_ne (by omega), sI_row, upd_ne (by omega)]; exact y3, fun _ => by rw [sI_row, upd_at]⟩
end
