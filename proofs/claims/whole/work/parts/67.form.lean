/-! ===== formulas are worked out ===== -/
def stk (f : Nat → Int32) : List Int32 → Prop
  | [] => True
  | x :: r => f r.length = x ∧ stk f r
theorem stk_upd {f : Nat → Int32} {k : Nat} {v : Int32} : ∀ {st : List Int32}, st.length ≤ k → stk f st → stk (upd f k v) st
  | [], _, _ => trivial
  | x :: r, h, hs => ⟨by rw [upd_ne (by simp at h; omega)]; exact hs.1, stk_upd (by simp at h; omega) hs.2⟩
theorem stk_push {f : Nat → Int32} {k : Nat} {v : Int32} {st : List Int32} (h : st.length = k) (hs : stk f st) : stk (upd f k v) (v :: st) := ⟨by subst h; exact upd_at _ _ _, stk_upd (by omega) hs⟩
theorem gFm_ok {β : Type} {p : Nat} {E : Option β} (h : p = 17 ∨ p = 20 ∨ p = 23 ∨ p = 44 ∨ p = 47 ∨ p = 50) : gFm p E = E := if_pos h
theorem rd_z {β : Type} {f : Nat → Int32} {n : Nat} {K : Int32 → Option β} (h : 0 < n) (hn : n < 2 ^ 31) : rd f n (0 : Int32) K = K (f 0) := rd_ok (k := 0) h hn
theorem rd_1 {β : Type} {f : Nat → Int32} {n : Nat} {K : Int32 → Option β} (h : 1 < n) (hn : n < 2 ^ 31) : rd f n (1 : Int32) K = K (f 1) := rd_ok (k := 1) h hn
theorem rd_2 {β : Type} {f : Nat → Int32} {n : Nat} {K : Int32 → Option β} (h : 2 < n) (hn : n < 2 ^ 31) : rd f n (2 : Int32) K = K (f 2) := rd_ok (k := 2) h hn
theorem wr_z {β : Type} {m : Mem} {q n : Nat} {x : Int32} {K : Mem → Option β} (h : 0 < n) (hn : n < 2 ^ 31) : wr m q n (0 : Int32) x K = K (sI m q 0 x) := wr_ok (k := 0) h hn
theorem wr_1 {β : Type} {m : Mem} {q n : Nat} {x : Int32} {K : Mem → Option β} (h : 1 < n) (hn : n < 2 ^ 31) : wr m q n (1 : Int32) x K = K (sI m q 1 x) := wr_ok (k := 1) h hn
theorem wr_2 {β : Type} {m : Mem} {q n : Nat} {x : Int32} {K : Mem → Option β} (h : 2 < n) (hn : n < 2 ^ 31) : wr m q n (2 : Int32) x K = K (sI m q 2 x) := wr_ok (k := 2) h hn
theorem wr_3 {β : Type} {m : Mem} {q n : Nat} {x : Int32} {K : Mem → Option β} (h : 3 < n) (hn : n < 2 ^ 31) : wr m q n (3 : Int32) x K = K (sI m q 3 x) := wr_ok (k := 3) h hn
theorem join_some (c x y : Int32) : fX3_join c x y = some ((fX3_join c x y).getD 0) := by
  cases h : fX3_join c x y with
  | some v => rfl
  | none =>
    exfalso
    revert h
    unfold fX3_join dv
    repeat' split
    all_goals simp_all
theorem leaf_eq (c d h l f : Int32) : fX3_leafOf c d h l f = some (if c = -1 then d else if c = -2 then h else if c = -3 then l else if c = -4 then f else c) := by
  unfold fX3_leafOf
  by_cases a : c = -4
  · subst a; rfl
  by_cases b : c = -3
  · subst b; rfl
  by_cases e : c = -2
  · subst e; rfl
  rw [if_neg a, if_neg b, if_neg e, if_neg e, if_neg b, if_neg a]
  split <;> rfl
theorem pk_m2 {n : Nat} : nI (n + 2) + (-1 : Int32) - 1 = nI n := by rw [pk_m1, nI_pred]
theorem c_valG {x0 n : Nat} (hx : x0 = 17 ∨ x0 = 20 ∨ x0 = 23 ∨ x0 = 44 ∨ x0 = 47 ∨ x0 = 50) (hn : n ≤ 120) (d h l f v : Int32) : ∀ (rest : List Int32) (i : Nat) (st : List Int32) (m : Mem) (fu : Nat), i + rest.length = n → rest.length < fu → (∀ j, j < rest.length → m.1 (x0 + 1) (i + j) = rest.getD j 0) → m.1 x0 2 = nI n → stk (m.1 (x0 + 2)) st → st.length ≤ 30 → depC 30 rest st.length = some 1 → rest.foldl (stepC d h l f) st = [v] → ∃ m', gX3_valueOf fu x0 d h l f (nI st.length) (nI i) m = some (v, m') ∧ keeps [x0 + 2] m m' := by
  intro rest
  induction rest with
  | nil =>
    intro i st m fu hi hf hc hs hk hle hd hv
    obtain ⟨fu, rfl⟩ : ∃ k, fu = k + 1 := ⟨fu - 1, by simp at hf; omega⟩
    rw [List.foldl_nil] at hv
    subst hv
    simp only [List.length_nil, Nat.add_zero] at hi
    subst hi
    rw [gX3_valueOf, gFm_ok hx, hs, if_pos (nI_le (Nat.le_refl _) (by omega)), rd_z (by omega) (by omega)]
    exact ⟨m, by rw [show m.1 (x0 + 2) 0 = v from hk.1], keeps.rfl'⟩
  | cons c r ih =>
    intro i st m fu hi hf hc hs hk hle hd hv
    obtain ⟨fu, rfl⟩ : ∃ k, fu = k + 1 := ⟨fu - 1, by simp at hf; omega⟩
    simp only [List.length_cons] at hi hf
    have h0 : m.1 (x0 + 1) i = c := hc 0 (by simp)
    have hc' : ∀ j, j < r.length → m.1 (x0 + 1) (i + 1 + j) = r.getD j 0 := fun j hj => by
      have := hc (j + 1) (by simp; omega)
      rw [show i + 1 + j = i + (j + 1) by omega, this]
      rfl
    rw [List.foldl_cons] at hv
    rw [gX3_valueOf, gFm_ok hx, hs, if_neg (nI_ge (by omega) (by omega)), if_neg (show ¬ (120 : Int32) ≤ nI i from nI_ge (b := 120) (by omega) (by omega)), rd_ok (by omega) (by omega), h0]
    have nx : nI i + (1 : Int32) = nI (i + 1) := nI_1 i
    have hr1 : ∀ k (w : Int32), (sI m (x0 + 2) k w).1 (x0 + 1) = m.1 (x0 + 1) := fun k w => sI_oth (by omega)
    have hr2 : ∀ k (w : Int32), (sI m (x0 + 2) k w).1 x0 = m.1 x0 := fun k w => sI_oth (by omega)
    have hkp : ∀ k (w : Int32), keeps [x0 + 2] m (sI m (x0 + 2) k w) := fun k w => keeps.rfl'.sI (by simp)
    by_cases c1 : (-5 : Int32) < c
    · rw [if_neg (Int32.not_le.mpr c1)]
      rw [depC, if_pos c1] at hd
      split at hd
      · rename_i hlt
        rw [if_neg (show ¬ (30 : Int32) ≤ nI st.length from nI_ge (b := 30) hlt (by omega)), leaf_eq, cP_some, wr_ok hlt (by omega), nx, nI_1]
        generalize hw : (if c = -1 then d else if c = -2 then h else if c = -3 then l else if c = -4 then f else c) = w
        have hstep : stepC d h l f st c = w :: st := by unfold stepC; rw [if_pos c1, hw]
        rw [hstep] at hv
        obtain ⟨m', q1, q2⟩ := ih (i + 1) (w :: st) (sI m (x0 + 2) st.length w) fu (by omega) (by omega) (fun j hj => by rw [hr1]; exact hc' j hj) (by rw [hr2]; exact hs) (by rw [sI_row]; exact stk_push rfl hk) (by simp; omega) hd hv
        exact ⟨m', q1, (hkp _ _).trans q2⟩
      · cases hd
    · rw [if_pos (Int32.not_lt.mp c1)]
      rw [depC, if_neg c1] at hd
      by_cases c2 : c = -5
      · rw [if_pos c2] at hd
        split at hd
        · rename_i hge
          obtain ⟨x, s, rfl⟩ : ∃ x s, st = x :: s := by
            cases st with
            | nil => simp at hge
            | cons x s => exact ⟨x, s, rfl⟩
          simp only [List.length_cons] at hle
          have hstep : stepC d h l f (x :: s) c = (if x = 0 then 1 else 0) :: s := by unfold stepC; rw [if_neg c1, if_pos c2]
          rw [hstep] at hv
          have hx0 : m.1 (x0 + 2) s.length = x := hk.1
          rw [if_pos c2, List.length_cons, if_neg (show ¬ nI (s.length + 1) < (1 : Int32) from nI_nlt (b := 1) (by omega) (by omega)), nI_pred, rd_ok (by omega) (by omega), hx0, wr_ok (by omega) (by omega), wr_ok (by omega) (by omega), nx]
          have key : ∀ w : Int32, (if x = 0 then (1 : Int32) else 0) = w → ∃ m', gX3_valueOf fu x0 d h l f (nI (s.length + 1)) (nI (i + 1)) (sI m (x0 + 2) s.length w) = some (v, m') ∧ keeps [x0 + 2] m m' := by
            intro w hw
            rw [hw] at hv
            obtain ⟨m', q1, q2⟩ := ih (i + 1) (w :: s) (sI m (x0 + 2) s.length w) fu (by omega) (by omega) (fun j hj => by rw [hr1]; exact hc' j hj) (by rw [hr2]; exact hs) (by rw [sI_row]; exact stk_push rfl hk.2) (by simp; omega) hd hv
            exact ⟨m', q1, (hkp _ _).trans q2⟩
          by_cases cx : x = 0
          · rw [if_pos cx]
            exact key 1 (by rw [if_pos cx])
          · rw [if_neg cx]
            exact key 0 (by rw [if_neg cx])
        · cases hd
      · rw [if_neg c2] at hd
        split at hd
        · rename_i hge
          obtain ⟨y, x, s, rfl⟩ : ∃ y x s, st = y :: x :: s := by
            cases st with
            | nil => simp at hge
            | cons y s => cases s with
              | nil => simp at hge
              | cons x s => exact ⟨y, x, s, rfl⟩
          simp only [List.length_cons] at hle hd
          have hstep : stepC d h l f (y :: x :: s) c = ((fX3_join c x y).getD 0) :: s := by unfold stepC; rw [if_neg c1, if_neg c2]
          rw [hstep] at hv
          have hy0 : m.1 (x0 + 2) (s.length + 1) = y := hk.1
          have hx0 : m.1 (x0 + 2) s.length = x := hk.2.1
          have c3 : ¬ (-5 : Int32) ≤ c := fun q => c1 (fa_le_ne q (fun e => c2 e.symm))
          rw [if_neg c2, if_neg c3, List.length_cons, List.length_cons, if_neg (show ¬ nI (s.length + 1 + 1) < (2 : Int32) from nI_nlt (b := 2) (by omega) (by omega)), pk_m2, pk_m1, rd_ok (by omega) (by omega), rd_ok (by omega) (by omega), hx0, hy0, join_some, cP_some, wr_ok (by omega) (by omega), nx]
          obtain ⟨m', q1, q2⟩ := ih (i + 1) ((fX3_join c x y).getD 0 :: s) (sI m (x0 + 2) s.length ((fX3_join c x y).getD 0)) fu (by omega) (by omega) (fun j hj => by rw [hr1]; exact hc' j hj) (by rw [hr2]; exact hs) (by rw [sI_row]; exact stk_push rfl hk.2.2) (by simp; omega) hd hv
          exact ⟨m', q1, (hkp _ _).trans q2⟩
        · cases hd
theorem c_val {x0 : Nat} {m : Mem} (hx : x0 = 17 ∨ x0 = 20 ∨ x0 = 23 ∨ x0 = 44 ∨ x0 = 47 ∨ x0 = 50) {cs : List Int32} (hl : cs.length ≤ 120) (hs : m.1 x0 2 = nI cs.length) (hc : ∀ i, i < cs.length → m.1 (x0 + 1) i = cs.getD i 0) (hd : depC 30 cs 0 = some 1) {d h l f v : Int32} (hv : cs.foldl (stepC d h l f) [] = [v]) : ∃ m', fX3_valueOf m x0 d h l f = some (v, m') ∧ keeps [x0 + 2] m m' :=
  c_valG hx hl d h l f v cs 0 [] m 5000 (by omega) (by omega) (fun j hj => by rw [Nat.zero_add]; exact hc j hj) hs trivial (by simp) hd hv
theorem FC.val {T : Tn} {m : Mem} (hT : TC T m) (h : FC T m) {w : Nat} (hw : w < 3) (ht : told T w = 1) (d hh l f : Int32) : ∃ m', fX3_valueOf m (tP T + (12 + 3 * w)) d hh l f = some (T.2 w d hh l f, m') ∧ keeps [tP T + (12 + 3 * w) + 2] m m' := by
  obtain ⟨_, h2⟩ := h w hw
  obtain ⟨cs, a1, a2, a3, a4, a5⟩ := h2 ht
  exact c_val (by rcases hT.pl with p | p <;> rw [p] <;> omega) a1 a2 a3 a4 (a5 d hh l f)
/-! the reference -/
theorem done_some (c x y : Int32) : fX12_done c x y = some ((fX12_done c x y).getD 0) := by
  have h : (fX12_done c x y).isSome = true := by
    unfold fX12_done dv
    by_cases hy : y = 0
    · simp only [hy, if_true]
      repeat (first | rfl | refine is_ite ?_ ?_)
    · simp only [hy, if_false]
      repeat (first | rfl | refine is_ite ?_ ?_)
  obtain ⟨v, hv⟩ := Option.isSome_iff_exists.mp h
  rw [hv]
  rfl
theorem m_valG {n w : Nat} (hw : w < 3) (hn : n ≤ 320) (d h l f v lo up : Int32) : ∀ (rest : List (Int32 × Int32)) (i : Nat) (st : List Int32) (m : Mem) (fu : Nat), i + rest.length = n → rest.length < fu → (∀ j, j < rest.length → m.1 6 (320 * w + (i + j)) = (rest.getD j (0, 0)).1 ∧ m.1 7 (320 * w + (i + j)) = (rest.getD j (0, 0)).2) → m.1 8 w = nI n → m.1 13 0 = d → m.1 13 1 = h → m.1 13 2 = l → m.1 13 3 = f → stk (m.1 10) st → st.length ≤ 60 → depM 60 rest st.length = some 1 → rest.foldl (stepM d h l f) st = [v] → ∃ m', gX12_worked fu (nI w) lo up (nI st.length) (nI (320 * w + i)) m = some (if lo ≤ v then (if v ≤ up then v else up) else lo, m') ∧ keeps [10] m m' := by
  intro rest
  have e320 : (320 : Int32) * nI w = nI (320 * w) := pk_mul 320 w
  induction rest with
  | nil =>
    intro i st m fu hi hf hc hs h0 h1 h2 h3 hk hle hd hv
    obtain ⟨fu, rfl⟩ : ∃ k, fu = k + 1 := ⟨fu - 1, by simp at hf; omega⟩
    rw [List.foldl_nil] at hv
    subst hv
    simp only [List.length_nil, Nat.add_zero] at hi
    subst hi
    rw [gX12_worked, rd_ok (by omega) (by omega), hs, e320, nI_add, if_pos (nI_le (Nat.le_refl _) (by omega)), rd_z (by omega) (by omega), rd_z (by omega) (by omega), rd_z (by omega) (by omega), show m.1 10 0 = v from hk.1]
    refine ⟨m, ?_, keeps.rfl'⟩
    split
    · split <;> rfl
    · rfl
  | cons c r ih =>
    intro i st m fu hi hf hc hs h0 h1 h2 h3 hk hle hd hv
    obtain ⟨fu, rfl⟩ : ∃ k, fu = k + 1 := ⟨fu - 1, by simp at hf; omega⟩
    simp only [List.length_cons] at hi hf
    have g1 : m.1 6 (320 * w + i) = c.1 := (hc 0 (by simp)).1
    have g2 : m.1 7 (320 * w + i) = c.2 := (hc 0 (by simp)).2
    have hc' : ∀ j, j < r.length → m.1 6 (320 * w + (i + 1 + j)) = (r.getD j (0, 0)).1 ∧ m.1 7 (320 * w + (i + 1 + j)) = (r.getD j (0, 0)).2 := fun j hj => by
      have := hc (j + 1) (by simp; omega)
      rw [show i + 1 + j = i + (j + 1) by omega]
      exact this
    rw [List.foldl_cons] at hv
    have nx : nI (320 * w + i) + (1 : Int32) = nI (320 * w + (i + 1)) := nI_1 _
    have hr : ∀ k (x : Int32) q, q ≠ 10 → (sI m 10 k x).1 q = m.1 q := fun k x q hq => sI_oth hq
    have hkp : ∀ k (x : Int32), keeps [10] m (sI m 10 k x) := fun k w => keeps.rfl'.sI (by simp)
    rw [gX12_worked, rd_ok (by omega) (by omega), hs, e320, nI_add, if_neg (nI_ge (by omega) (by omega))]
    rw [rd_ok (by omega) (by omega), g1]
    have go : ∀ (k : Nat) (x : Int32) (s : List Int32), stk (m.1 10) s → s.length = k → k ≤ 59 → depM 60 r (k + 1) = some 1 → r.foldl (stepM d h l f) (x :: s) = [v] → ∃ m', gX12_worked fu (nI w) lo up (nI (k + 1)) (nI (320 * w + (i + 1))) (sI m 10 k x) = some (if lo ≤ v then (if v ≤ up then v else up) else lo, m') ∧ keeps [10] m m' := by
      intro k x s hs1 hs2 hs3 hd1 hv1
      subst hs2
      obtain ⟨m', q1, q2⟩ := ih (i + 1) (x :: s) (sI m 10 s.length x) fu (by omega) (by omega) (fun j hj => by rw [hr _ _ 6 (by omega), hr _ _ 7 (by omega)]; exact hc' j hj) (by rw [hr _ _ 8 (by omega)]; exact hs) (by rw [hr _ _ 13 (by omega)]; exact h0) (by rw [hr _ _ 13 (by omega)]; exact h1) (by rw [hr _ _ 13 (by omega)]; exact h2) (by rw [hr _ _ 13 (by omega)]; exact h3) (by rw [sI_row]; exact stk_push rfl hs1) (by simp; omega) hd1 hv1
      exact ⟨m', q1, (hkp _ _).trans q2⟩
    by_cases c0 : c.1 = 0
    · rw [if_pos c0, rd_ok (by omega) (by omega), g1, if_pos c0, rd_ok (by omega) (by omega), g2]
      rw [depM, if_pos c0] at hd
      split at hd
      · rename_i hlt
        have hstep : stepM d h l f st c = c.2 :: st := by unfold stepM; rw [if_pos c0]
        rw [hstep] at hv
        rw [wr_ok (by omega) (by omega), nx, nI_1]
        exact go st.length c.2 st hk rfl (by omega) hd hv
      · cases hd
    rw [if_neg c0, rd_ok (by omega) (by omega), g1]
    rw [depM, if_neg c0] at hd
    by_cases c1 : c.1 = 1
    · rw [if_pos c1] at hd
      split at hd
      · rename_i hlt
        obtain ⟨hlt, ha⟩ := hlt
        have hstep : stepM d h l f st c = (if c.2 = 0 then d else if c.2 = 1 then h else if c.2 = 2 then l else f) :: st := by unfold stepM; rw [if_neg c0, if_pos c1]
        rw [hstep] at hv
        have hrd : ∀ (K : Int32 → Option (Int32 × Mem)), rd (m.1 13) 4 c.2 K = K (if c.2 = 0 then d else if c.2 = 1 then h else if c.2 = 2 then l else f) := by
          intro K
          rcases ha with e | e | e | e
          · rw [e, if_pos rfl, rd_z (by omega) (by omega), h0]
          · rw [e, if_neg (by decide), if_pos rfl, rd_1 (by omega) (by omega), h1]
          · rw [e, if_neg (by decide), if_neg (by decide), if_pos rfl, rd_2 (by omega) (by omega), h2]
          · rw [e, if_neg (by decide), if_neg (by decide), if_neg (by decide), ← h3]
            exact rd_ok (k := 3) (by omega) (by omega)
        rw [if_pos c1, rd_ok (by omega) (by omega), g1, if_neg c0, rd_ok (by omega) (by omega), g2, hrd, wr_ok (by omega) (by omega), nx, nI_1]
        exact go st.length _ st hk rfl (by omega) hd hv
      · cases hd
    rw [if_neg c1] at hd
    rw [if_neg c1, rd_ok (by omega) (by omega), g1]
    by_cases c2 : c.1 = 2
    · rw [if_pos c2] at hd
      split at hd
      · rename_i hge
        obtain ⟨x, s, rfl⟩ : ∃ x s, st = x :: s := by
          cases st with
          | nil => simp at hge
          | cons x s => exact ⟨x, s, rfl⟩
        simp only [List.length_cons] at hle hd
        have hstep : stepM d h l f (x :: s) c = (if x = 0 then 1 else 0) :: s := by unfold stepM; rw [if_neg c0, if_neg c1, if_pos c2]
        rw [hstep] at hv
        have hx0 : m.1 10 s.length = x := hk.1
        rw [if_pos c2, List.length_cons, nI_pred, rd_ok (by omega) (by omega), hx0]
        by_cases cx : x = 0
        · rw [if_pos cx] at hv
          rw [if_pos cx, show fX12_truth 1 = some 1 from rfl, cP_some, wr_ok (by omega) (by omega), nx]
          exact go s.length 1 s hk.2 rfl (by omega) hd hv
        · rw [if_neg cx] at hv
          rw [if_neg cx, show fX12_truth 0 = some 0 from rfl, cP_some, wr_ok (by omega) (by omega), nx]
          exact go s.length 0 s hk.2 rfl (by omega) hd hv
      · cases hd
    · rw [if_neg c2] at hd
      split at hd
      · rename_i hge
        obtain ⟨y, x, s, rfl⟩ : ∃ y x s, st = y :: x :: s := by
          cases st with
          | nil => simp at hge
          | cons y s => cases s with
            | nil => simp at hge
            | cons x s => exact ⟨y, x, s, rfl⟩
        simp only [List.length_cons] at hle hd
        have hstep : stepM d h l f (y :: x :: s) c = ((fX12_done c.2 x y).getD 0) :: s := by unfold stepM; rw [if_neg c0, if_neg c1, if_neg c2]
        rw [hstep] at hv
        have hy0 : m.1 10 (s.length + 1) = y := hk.1
        have hx0 : m.1 10 s.length = x := hk.2.1
        rw [if_neg c2, rd_ok (by omega) (by omega), g2, List.length_cons, List.length_cons, pk_m2, pk_m1, rd_ok (by omega) (by omega), rd_ok (by omega) (by omega), hx0, hy0, done_some, cP_some, wr_ok (by omega) (by omega), nx]
        exact go s.length _ s hk.2.2 rfl (by omega) hd hv
      · cases hd
/-- a number between two others -/
theorem cl_m {lo up : Nat} (h : lo ≤ up) (hu : up < 2 ^ 31) (v : Int32) : (if nI lo ≤ v then (if v ≤ nI up then v else nI up) else nI lo) = nI (clN lo up v) := by
  unfold clN
  by_cases c : v < nI lo
  · rw [if_neg (Int32.not_le.mpr c), if_pos c]
  · rw [if_pos (Int32.not_lt.mp c), if_neg c]
    by_cases c2 : nI up < v
    · rw [if_neg (Int32.not_le.mpr c2), if_pos c2]
    · rw [if_pos (Int32.not_lt.mp c2), if_neg c2]
      have h0 : ¬ v < 0 := fun q => c (fa_trans q (nI_pos' (by omega)))
      obtain ⟨j, hj, rfl⟩ := nI_of h0
      rw [nI_clamp hj]
theorem cl_c {lo up : Nat} (h : lo ≤ up) (hu : up < 2 ^ 31) (v : Int32) : imax (nI lo) (imin v (nI up)) = nI (clN lo up v) := by
  rw [← cl_m h hu]
  have hlu : nI lo ≤ nI up := nI_le h hu
  unfold imax imin
  by_cases c2 : nI up < v
  · have c3 : nI lo ≤ v := Int32.le_trans hlu (Int32.le_of_lt c2)
    rw [if_pos c2, if_pos c3, if_neg (Int32.not_le.mpr c2)]
    by_cases c4 : nI lo < nI up
    · rw [if_pos c4]
    · rw [if_neg c4]
      exact Int32.le_antisymm hlu (Int32.not_lt.mp c4)
  · rw [if_neg c2]
    by_cases c4 : nI lo < v
    · rw [if_pos c4, if_pos (Int32.le_of_lt c4), if_pos (Int32.not_lt.mp c2)]
    · rw [if_neg c4]
      by_cases c5 : nI lo ≤ v
      · rw [if_pos c5, if_pos (Int32.not_lt.mp c2)]
        exact Int32.le_antisymm c5 (Int32.not_lt.mp c4)
      · rw [if_neg c5]
theorem clN_le {lo up : Nat} (h : lo ≤ up) (hu : up < 2 ^ 31) (v : Int32) : lo ≤ clN lo up v ∧ clN lo up v ≤ up := by
  unfold clN
  by_cases c : v < nI lo
  · rw [if_pos c]; omega
  · rw [if_neg c]
    by_cases c2 : nI up < v
    · rw [if_pos c2]; omega
    · rw [if_neg c2]
      have h0 : ¬ v < 0 := fun q => c (fa_trans q (nI_pos' (by omega)))
      obtain ⟨j, hj, rfl⟩ := nI_of h0
      rw [nI_clamp hj]
      exact ⟨(nI_leI (by omega) hj).mp (Int32.not_lt.mp c), (nI_leI hj hu).mp (Int32.not_lt.mp c2)⟩
theorem m_work {T : Tn} {m : Mem} (hT : TOK T) (h : FM T m) {w : Nat} (hw : w < 3) {lo up : Nat} (hlu : lo ≤ up) (hu : up < 2 ^ 31) (oth : Int32) : ∃ m', fX12_worked m (nI w) oth (nI lo) (nI up) = some (nI (clN lo up (if told T w = 1 then T.2 w (m.1 13 0) (m.1 13 1) (m.1 13 2) (m.1 13 3) else oth)), m') ∧ keeps [10] m m' := by
  obtain ⟨a1, a2, a3⟩ := h w hw
  have e320 : (320 : Int32) * nI w = nI (320 * w) := pk_mul 320 w
  unfold fX12_worked
  rw [wr_z (by omega) (by omega), nm_eq, e320]
  have kp : keeps [10] m (sI m 10 0 oth) := keeps.rfl'.sI (by simp)
  by_cases ht : told T w = 1
  · obtain ⟨cs, b1, b2, b3, b4, b5⟩ := a3 ht
    obtain ⟨m', q1, q2⟩ := m_valG hw b1 (m.1 13 0) (m.1 13 1) (m.1 13 2) (m.1 13 3) (T.2 w (m.1 13 0) (m.1 13 1) (m.1 13 2) (m.1 13 3)) (nI lo) (nI up) cs 0 [] (sI m 10 0 oth) 5000 (by omega) (by omega) (fun j hj => by rw [sI_oth (by omega), sI_oth (by omega), Nat.zero_add]; exact b3 j hj) (by rw [sI_oth (by omega)]; exact b2) (by rw [sI_oth (by omega)]) (by rw [sI_oth (by omega)]) (by rw [sI_oth (by omega)]) (by rw [sI_oth (by omega)]) trivial (by simp) b4 (b5 _ _ _ _)
    refine ⟨m', ?_, kp.trans q2⟩
    rw [if_pos ht, ← cl_m hlu hu]
    exact q1
  · have h0 : told T w = 0 := by have := hT.2.2.2.2.2.2.2.2 w hw; omega
    refine ⟨_, ?_, kp⟩
    rw [if_neg ht, ← cl_m hlu hu, gX12_worked, rd_ok (by omega) (by omega), sI_oth (by omega), a2 h0, e320, if_pos (show nI (320 * w) + (0 : Int32) ≤ nI (320 * w) by rw [Int32.add_zero]; exact nI_le (by omega) (by omega)), rd_z (by omega) (by omega), rd_z (by omega) (by omega), rd_z (by omega) (by omega), sI_row, upd_at]
    split
    · split <;> rfl
    · rfl
