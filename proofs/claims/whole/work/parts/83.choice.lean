/-! ===== sums of ints; weights between any two ===== -/
def zs (f : Nat → Int32) : Nat → Int32
  | 0 => 0
  | n + 1 => zs f n + f n
theorem zs_cong {f g : Nat → Int32} : ∀ {n : Nat}, (∀ k, k < n → f k = g k) → zs f n = zs g n
  | 0, _ => rfl
  | n + 1, h => by rw [zs, zs, zs_cong (fun k hk => h k (by omega)), h n (by omega)]
theorem i_az (x : Int32) : x + 0 = x := Int32.add_zero x
theorem i_sz (x : Int32) : x - nI 0 = x := by rw [nI_0, Int32.sub_zero]
theorem i_aac (x y z : Int32) : x + y + z = x + z + y := by rw [Int32.add_assoc, Int32.add_comm y z, ← Int32.add_assoc]
theorem zs_bump {f g : Nat → Int32} {a : Nat} {w : Int32} : ∀ {n : Nat}, (∀ j, j < n → f j = g j + (if j = a then w else 0)) → zs f n = zs g n + (if a < n then w else 0)
  | 0, _ => by rw [if_neg (by omega)]; rfl
  | n + 1, h => by
    rw [zs, zs, zs_bump (n := n) (fun j hj => h j (by omega)), h n (by omega)]
    by_cases c : n = a
    · rw [if_pos c, if_neg (by omega), if_pos (by omega), i_az, Int32.add_assoc]
    · rw [if_neg c, i_az]
      by_cases c2 : a < n
      · rw [if_pos c2, if_pos (by omega), i_aac]
      · rw [if_neg c2, if_neg (by omega), i_az, i_az]
def bump (M : Nat → Int32) (i : Nat) (v : Int32) : Nat → Int32 := upd M i (M i + v)
theorem bump_at {M : Nat → Int32} {i j : Nat} {v : Int32} : bump M i v j = M j + (if j = i then v else 0) := by
  unfold bump
  by_cases c : j = i
  · rw [c, upd_at, if_pos rfl]
  · rw [upd_ne c, if_neg c, i_az]
theorem idx_inj {p x o y a s b u : Nat} (h1 : o < 7) (h2 : b < 7) (h3 : x < 3) (h4 : y < 3) (h5 : s < 3) (h6 : u < 3) : ((p * 3 + x) * 21 + (o * 3 + y) = (a * 3 + s) * 21 + (b * 3 + u)) ↔ (p = a ∧ x = s ∧ o = b ∧ y = u) := by
  constructor
  · intro h
    have h7 : p * 3 + x = a * 3 + s := by omega
    omega
  · rintro ⟨rfl, rfl, rfl, rfl⟩
    rfl
/-- all bliss of the first n by the sides t; joy of one -/
def phi (t : Nat → Nat) (M : Nat → Int32) (n : Nat) : Int32 := zs (fun p => zs (fun o => M ((p * 3 + t p) * 21 + (o * 3 + t o))) p) n
def psi (p : Nat) (t : Nat → Nat) (M : Nat → Int32) (n : Nat) : Int32 := zs (fun o => if o = p then 0 else M ((p * 3 + t p) * 21 + (o * 3 + t o))) n
theorem phi_bump {t : Nat → Nat} {M : Nat → Int32} {n a s b u : Nat} {v : Int32} (hn : n ≤ 7) (ht : ∀ p, p < n → t p < 3) (ha : a < n) (hb : b < n) (hs : s < 3) (hu : u < 3) : phi t (bump M ((a * 3 + s) * 21 + (b * 3 + u)) v) n = phi t M n + (if b < a ∧ s = t a ∧ u = t b then v else 0) := by
  unfold phi
  refine (zs_bump (a := a) (w := if b < a ∧ s = t a ∧ u = t b then v else 0) (fun p hp => ?_)).trans (by rw [if_pos ha])
  refine (zs_bump (a := b) (w := if p = a ∧ s = t a ∧ u = t b then v else 0) (g := fun o => M ((p * 3 + t p) * 21 + (o * 3 + t o))) (fun o ho => ?_)).trans ?_
  · have h1 := ht p hp
    have h2 := ht o (by omega)
    rw [bump_at]
    congr 1
    by_cases c : o = b
    · subst c
      rw [if_pos rfl]
      by_cases c2 : p = a ∧ s = t a ∧ u = t o
      · obtain ⟨rfl, rfl, rfl⟩ := c2
        rw [if_pos rfl, if_pos ⟨rfl, rfl, rfl⟩]
      · rw [if_neg c2, if_neg]
        intro z
        obtain ⟨z1, z2, z3, z4⟩ := (idx_inj (by omega) (by omega) h1 h2 hs hu).mp z
        exact c2 ⟨z1, by rw [← z1]; exact z2.symm, z4.symm⟩
    · rw [if_neg c, if_neg]
      intro z
      exact c ((idx_inj (by omega) (by omega) h1 h2 hs hu).mp z).2.2.1
  · congr 1
    by_cases c : p = a
    · subst c
      rw [if_pos rfl]
      by_cases c2 : b < p
      · rw [if_pos c2]
        by_cases c3 : s = t p ∧ u = t b
        · rw [if_pos ⟨rfl, c3⟩, if_pos ⟨c2, c3⟩]
        · rw [if_neg (fun z => c3 z.2), if_neg (fun z => c3 z.2)]
      · rw [if_neg c2, if_neg (fun z => c2 z.1)]
    · rw [if_neg c, show (if p = a ∧ s = t a ∧ u = t b then v else 0) = 0 from if_neg (fun z => c z.1)]
      split <;> rfl
theorem psi_bump {p : Nat} {t : Nat → Nat} {M : Nat → Int32} {n a s b u : Nat} {v : Int32} (hn : n ≤ 7) (ht : ∀ p, p < n → t p < 3) (hp : p < n) (ha : a < n) (hb : b < n) (hab : a ≠ b) (hs : s < 3) (hu : u < 3) : psi p t (bump M ((a * 3 + s) * 21 + (b * 3 + u)) v) n = psi p t M n + (if a = p ∧ s = t a ∧ u = t b then v else 0) := by
  unfold psi
  refine (zs_bump (a := b) (w := if a = p ∧ s = t a ∧ u = t b then v else 0) (fun o ho => ?_)).trans (by rw [if_pos hb])
  have h1 := ht p hp
  have h2 := ht o ho
  by_cases c : o = p
  · rw [if_pos c, if_pos c]
    by_cases c2 : o = b
    · rw [if_pos c2, if_neg (fun z => hab (by omega)), i_az]
    · rw [if_neg c2, i_az]
  · rw [if_neg c, if_neg c, bump_at]
    congr 1
    by_cases c2 : o = b
    · subst c2
      rw [if_pos rfl]
      by_cases c3 : a = p ∧ s = t a ∧ u = t o
      · obtain ⟨rfl, rfl, rfl⟩ := c3
        rw [if_pos rfl, if_pos ⟨rfl, rfl, rfl⟩]
      · rw [if_neg c3, if_neg]
        intro z
        obtain ⟨z1, z2, z3, z4⟩ := (idx_inj (by omega) (by omega) h1 h2 hs hu).mp z
        exact c3 ⟨z1.symm, by rw [← z1]; exact z2.symm, z4.symm⟩
    · rw [if_neg c2, if_neg]
      intro z
      exact c2 ((idx_inj (by omega) (by omega) h1 h2 hs hu).mp z).2.2.1
theorem i_nine : ∀ i, i < 9 → nI i / (3 : Int32) = nI (i / 3) ∧ nI i - nI i / (3 : Int32) * (3 : Int32) = nI (i % 3) := by decide +kernel
theorem i_place (a s : Nat) : nI a * (3 : Int32) + nI s = nI (a * 3 + s) := by
  rw [show (3 : Int32) = nI 3 from rfl, pk_mul, nI_add]
theorem i_idx (x y : Nat) : nI x * (21 : Int32) + nI y = nI (x * 21 + y) := by
  rw [show (21 : Int32) = nI 21 from rfl, pk_mul, nI_add]
theorem place_ok (a s : Nat) : fX1_placeOf (nI a) (nI s) = some (nI (a * 3 + s)) := by unfold fX1_placeOf; rw [i_place]
def mGain (T : Tn) (d x i : Nat) (m m' : Mem) : Prop := ∀ t : Nat → Nat, (∀ p, p < tnp T → t p < 3) → phi t (m'.1 61) (tnp T) = phi t (m.1 61) (tnp T) + (if i ≤ 3 * t (tA T x) + t (tB T x) ∧ ¬ com T d (t (tA T x)) (t (tB T x)) < tH T x then nI (tW T x) else 0) ∧ ∀ p, p < tnp T → psi p t (m'.1 60) (tnp T) = psi p t (m.1 60) (tnp T) + (if (tA T x = p ∨ tB T x = p) ∧ i ≤ 3 * t (tA T x) + t (tB T x) ∧ ¬ com T d (t (tA T x)) (t (tB T x)) < tH T x then nI (tW T x) else 0)
section
variable {T : Tn} {d : Nat} {sd : Nat → Nat} {q : Nat} {m : Mem}
theorem meet9 (hT : TOK T) {x : Nat} (hx : x < tnm T) : ∀ (k i : Nat), i + k = 9 → ∀ (m : Mem) (f : Nat), k < f → CD T d sd q m → ∃ m', gX1_weighMeet f (tP T) (nI x) (nI i) m = some m' ∧ keeps [60, 61] m m' ∧ mGain T d x i m m' := by
  have h7 := hT.1
  have h10 := hT.2.1
  obtain ⟨hA, hB, hAB, -, hH, -, -⟩ := hT.2.2.2.2.2.1 x hx
  intro k
  induction k with
  | zero =>
    intro i hi m f hf h
    obtain ⟨f, rfl⟩ : ∃ g, f = g + 1 := ⟨f - 1, by omega⟩
    have ei : i = 9 := by omega
    subst ei
    refine ⟨m, by rw [gX1_weighMeet, if_pos (by decide)], keeps.rfl', fun t ht => ?_⟩
    have h1 := ht _ hA
    have h2 := ht _ hB
    refine ⟨by rw [if_neg (by omega), i_az], fun p hp => by rw [if_neg (by omega), i_az]⟩
  | succ k ih =>
    intro i hi m f hf h
    obtain ⟨f, rfl⟩ : ∃ g, f = g + 1 := ⟨f - 1, by omega⟩
    have hi9 : i < 9 := by omega
    have hs3 : i / 3 < 3 := by omega
    have hu3 : i % 3 < 3 := by omega
    obtain ⟨e1, e2⟩ := i_nine i hi9
    obtain ⟨g1, g2, g3, g4⟩ := h.1.1.2.2.2.2.2.2.2.2.1 x hx
    have hc := com_lt T d (i / 3) (i % 3)
    rw [gX1_weighMeet, if_neg (show ¬ (9 : Int32) ≤ nI i from nI_ge (b := 9) (by omega) (by omega)), nm_eq, nm_eq, e1, show nI i - nI (i / 3) * (3 : Int32) = nI (i % 3) by rw [← e1]; exact e2, rd_ok hs3 (by omega), rd_ok hu3 (by omega), h.2.2.2.2 _ hs3, h.2.2.2.2 _ hu3, nm_eq, com_bc T d hs3 hu3, cP_some, gPl_ok h.1.1.pl, rd_ok (by omega) (by omega), g3, nI_1]
    by_cases c : com T d (i / 3) (i % 3) < tH T x
    · rw [if_pos (nI_lt c (by omega))]
      obtain ⟨m', a1, a2, a3⟩ := ih (i + 1) (by omega) m f (by omega) h
      refine ⟨m', a1, a2, fun t ht => ?_⟩
      have h1 := ht _ hA
      have h2 := ht _ hB
      have key : (i + 1 ≤ 3 * t (tA T x) + t (tB T x) ∧ ¬ com T d (t (tA T x)) (t (tB T x)) < tH T x) ↔ (i ≤ 3 * t (tA T x) + t (tB T x) ∧ ¬ com T d (t (tA T x)) (t (tB T x)) < tH T x) := by
        by_cases c2 : i = 3 * t (tA T x) + t (tB T x)
        · have z1 : t (tA T x) = i / 3 := by omega
          have z2 : t (tB T x) = i % 3 := by omega
          rw [z1, z2]
          exact ⟨fun z => absurd c z.2, fun z => absurd c z.2⟩
        · exact ⟨fun z => ⟨by omega, z.2⟩, fun z => ⟨by omega, z.2⟩⟩
      obtain ⟨b1, b2⟩ := a3 t ht
      refine ⟨by rw [b1]; simp only [key], fun p hp => by rw [b2 p hp]; simp only [key]⟩
    · rw [if_neg (nI_nlt (by omega) (by omega)), rd_ok (by omega) (by omega), g1, place_ok, cP_some, rd_ok (by omega) (by omega), g2, place_ok, cP_some, rd_ok (by omega) (by omega), g4, nm_eq, i_idx, rd_ok (by omega) (by omega), wr_ok (by omega) (by omega), nm_eq, i_idx, rd_ok (by omega) (by omega), wr_ok (by omega) (by omega), nm_eq, rd_ok (by omega) (by omega), wr_ok (by omega) (by omega), nm_eq, rd_ok (by omega) (by omega), wr_ok (by omega) (by omega)]
      have step : ∀ m1 : Mem, keeps [60, 61] m m1 → m1.1 60 = bump (bump (m.1 60) ((tA T x * 3 + i / 3) * 21 + (tB T x * 3 + i % 3)) (nI (tW T x))) ((tB T x * 3 + i % 3) * 21 + (tA T x * 3 + i / 3)) (nI (tW T x)) → m1.1 61 = bump (bump (m.1 61) ((tA T x * 3 + i / 3) * 21 + (tB T x * 3 + i % 3)) (nI (tW T x))) ((tB T x * 3 + i % 3) * 21 + (tA T x * 3 + i / 3)) (nI (tW T x)) → ∃ m', gX1_weighMeet f (tP T) (nI x) (nI (i + 1)) m1 = some m' ∧ keeps [60, 61] m m' ∧ mGain T d x i m m' := by
        intro m1 kp r60 r61
        obtain ⟨m', a1, a2, a3⟩ := ih (i + 1) (by omega) m1 f (by omega) (h.kp kp (by simp <;> omega))
        refine ⟨m', a1, kp.trans a2, fun t ht => ?_⟩
        have h1 := ht _ hA
        have h2 := ht _ hB
        obtain ⟨b1, b2⟩ := a3 t ht
        rw [b1, r61, phi_bump h7 ht hB hA hu3 hs3, phi_bump h7 ht hA hB hs3 hu3]
        by_cases c2 : i = 3 * t (tA T x) + t (tB T x)
        · have z1 : t (tA T x) = i / 3 := by omega
          have z2 : t (tB T x) = i % 3 := by omega
          refine ⟨?_, fun p hp => ?_⟩
          · rw [z1, z2, if_neg (show ¬ (i + 1 ≤ 3 * (i / 3) + i % 3 ∧ ¬ com T d (i / 3) (i % 3) < tH T x) from fun z => by omega), if_pos (show i ≤ 3 * (i / 3) + i % 3 ∧ ¬ com T d (i / 3) (i % 3) < tH T x from ⟨by omega, c⟩), i_az]
            rcases Nat.lt_or_gt_of_ne hAB with z | z
            · rw [if_neg (show ¬ (tB T x < tA T x ∧ i / 3 = i / 3 ∧ i % 3 = i % 3) from fun y => by omega), i_az, if_pos ⟨z, rfl, rfl⟩]
            · rw [if_pos (show tB T x < tA T x ∧ i / 3 = i / 3 ∧ i % 3 = i % 3 from ⟨z, rfl, rfl⟩), if_neg (show ¬ (tA T x < tB T x ∧ i % 3 = i % 3 ∧ i / 3 = i / 3) from fun y => by omega), i_az]
          · rw [b2 p hp, r60, psi_bump h7 ht hp hB hA (Ne.symm hAB) hu3 hs3, psi_bump h7 ht hp hA hB hAB hs3 hu3, z1, z2, if_neg (show ¬ ((tA T x = p ∨ tB T x = p) ∧ i + 1 ≤ 3 * (i / 3) + i % 3 ∧ ¬ com T d (i / 3) (i % 3) < tH T x) from fun z => by omega), i_az]
            by_cases y1 : tA T x = p
            · rw [if_pos (show tA T x = p ∧ i / 3 = i / 3 ∧ i % 3 = i % 3 from ⟨y1, rfl, rfl⟩), if_neg (show ¬ (tB T x = p ∧ i % 3 = i % 3 ∧ i / 3 = i / 3) from fun y => by omega), i_az, if_pos ⟨Or.inl y1, by omega, c⟩]
            · rw [if_neg (show ¬ (tA T x = p ∧ i / 3 = i / 3 ∧ i % 3 = i % 3) from fun y => y1 y.1), i_az]
              by_cases y2 : tB T x = p
              · rw [if_pos (show tB T x = p ∧ i % 3 = i % 3 ∧ i / 3 = i / 3 from ⟨y2, rfl, rfl⟩), if_pos ⟨Or.inr y2, by omega, c⟩]
              · rw [if_neg (show ¬ (tB T x = p ∧ i % 3 = i % 3 ∧ i / 3 = i / 3) from fun y => y2 y.1), i_az, if_neg (fun z => z.1.elim y1 y2), i_az]
        · have n1 : ∀ (P : Prop) [Decidable P] (v : Int32), (P → i / 3 = t (tA T x) ∧ i % 3 = t (tB T x)) → (if P then v else 0) = 0 := fun P _ v hP => if_neg (fun z => c2 (by have := hP z; omega))
          have key : (i + 1 ≤ 3 * t (tA T x) + t (tB T x) ∧ ¬ com T d (t (tA T x)) (t (tB T x)) < tH T x) ↔ (i ≤ 3 * t (tA T x) + t (tB T x) ∧ ¬ com T d (t (tA T x)) (t (tB T x)) < tH T x) := ⟨fun z => ⟨by omega, z.2⟩, fun z => ⟨by omega, z.2⟩⟩
          refine ⟨?_, fun p hp => ?_⟩
          · rw [n1 _ _ (fun z => ⟨z.2.1, z.2.2⟩), n1 _ _ (fun z => ⟨z.2.2, z.2.1⟩), i_az, i_az]
            simp only [key]
          · rw [b2 p hp, r60, psi_bump h7 ht hp hB hA (Ne.symm hAB) hu3 hs3, psi_bump h7 ht hp hA hB hAB hs3 hu3, n1 _ _ (fun z => ⟨z.2.1, z.2.2⟩), n1 _ _ (fun z => ⟨z.2.2, z.2.1⟩), i_az, i_az]
            simp only [key]
      refine step _ ((((keeps.rfl'.sI (by simp)).sI (by simp)).sI (by simp)).sI (by simp)) ?_ ?_
      · rw [sI_oth (by omega), sI_oth (by omega), sI_row, sI_row]
        rfl
      · rw [sI_row, sI_row, sI_oth (by omega), sI_oth (by omega)]
        rfl
theorem c_wmeet (hT : TOK T) {x : Nat} (hx : x < tnm T) (h : CD T d sd q m) : ∃ m', fX1_weighMeet m (tP T) (nI x) = some m' ∧ keeps [60, 61] m m' ∧ ∀ t : Nat → Nat, (∀ p, p < tnp T → t p < 3) → phi t (m'.1 61) (tnp T) = phi t (m.1 61) (tnp T) + nI (if canN T d t x = 0 then 0 else tW T x) ∧ ∀ p, p < tnp T → psi p t (m'.1 60) (tnp T) = psi p t (m.1 60) (tnp T) + nI (if tA T x = p ∨ tB T x = p then (if canN T d t x = 0 then 0 else tW T x) else 0) := by
  obtain ⟨m', a1, a2, a3⟩ := meet9 (d := d) (sd := sd) (q := q) hT hx 9 0 (by omega) m 5000 (by omega) h
  refine ⟨m', a1, a2, fun t ht => ?_⟩
  obtain ⟨b1, b2⟩ := a3 t ht
  by_cases c : com T d (t (tA T x)) (t (tB T x)) < tH T x
  · have hz : canN T d t x = 0 := by unfold canN; rw [if_pos c]
    refine ⟨by rw [b1, if_neg (fun z => z.2 c), if_pos hz]; rfl, fun p hp => by rw [b2 p hp, if_neg (fun z => z.2.2 c), if_pos hz]; split <;> rfl⟩
  · have hz : ¬ canN T d t x = 0 := by unfold canN; rw [if_neg c]; decide
    refine ⟨by rw [b1, if_pos ⟨Nat.zero_le _, c⟩, if_neg hz], fun p hp => ?_⟩
    rw [b2 p hp, if_neg hz]
    by_cases y : tA T x = p ∨ tB T x = p
    · rw [if_pos ⟨y, Nat.zero_le _, c⟩, if_pos y]
    · rw [if_neg (fun z => y z.1), if_neg y]; rfl
end
/-- a noise's weights: maker o, sleeper p at an hour -/
def nGain (T : Tn) (d o p h w i : Nat) (m m' : Mem) : Prop := ∀ t : Nat → Nat, (∀ p, p < tnp T → t p < 3) → phi t (m'.1 61) (tnp T) = phi t (m.1 61) (tnp T) + (if i ≤ 3 * t p + t o ∧ awN T d (t p) h = 0 ∧ ¬ awN T d (t o) h = 0 then -nI w else 0) ∧ ∀ r, r < tnp T → psi r t (m'.1 60) (tnp T) = psi r t (m.1 60) (tnp T) + (if p = r ∧ i ≤ 3 * t p + t o ∧ awN T d (t p) h = 0 ∧ ¬ awN T d (t o) h = 0 then -nI w else 0)
section
variable {T : Tn} {d : Nat} {sd : Nat → Nat} {q : Nat} {m : Mem}
theorem noise9 (hT : TOK T) {o p h w : Nat} (ho : o < tnp T) (hp : p < tnp T) (hop : p ≠ o) (hh : h < 24) : ∀ (k i : Nat), i + k = 9 → ∀ (m : Mem) (f : Nat), k < f → CD T d sd q m → ∃ m', gX1_weighNoise f (nI p) (nI o) (nI h) (nI w) (nI i) m = some m' ∧ keeps [60, 61] m m' ∧ nGain T d o p h w i m m' := by
  have h7 := hT.1
  intro k
  induction k with
  | zero =>
    intro i hi m f hf hc
    obtain ⟨f, rfl⟩ : ∃ g, f = g + 1 := ⟨f - 1, by omega⟩
    have ei : i = 9 := by omega
    subst ei
    refine ⟨m, by rw [gX1_weighNoise, if_pos (by decide)], keeps.rfl', fun t ht => ?_⟩
    have h1 := ht _ hp
    have h2 := ht _ ho
    refine ⟨by rw [if_neg (by omega), i_az], fun r hr => by rw [if_neg (by omega), i_az]⟩
  | succ k ih =>
    intro i hi m f hf hc
    obtain ⟨f, rfl⟩ : ∃ g, f = g + 1 := ⟨f - 1, by omega⟩
    have hi9 : i < 9 := by omega
    have hs3 : i / 3 < 3 := by omega
    have hu3 : i % 3 < 3 := by omega
    obtain ⟨e1, e2⟩ := i_nine i hi9
    have skip : ¬ (awN T d (i / 3) h = 0 ∧ ¬ awN T d (i % 3) h = 0) → ∃ m', gX1_weighNoise f (nI p) (nI o) (nI h) (nI w) (nI (i + 1)) m = some m' ∧ keeps [60, 61] m m' ∧ nGain T d o p h w i m m' := fun c => by
      obtain ⟨m', a1, a2, a3⟩ := ih (i + 1) (by omega) m f (by omega) hc
      refine ⟨m', a1, a2, fun t ht => ?_⟩
      have h1 := ht _ hp
      have h2 := ht _ ho
      have key : (i + 1 ≤ 3 * t p + t o ∧ awN T d (t p) h = 0 ∧ ¬ awN T d (t o) h = 0) ↔ (i ≤ 3 * t p + t o ∧ awN T d (t p) h = 0 ∧ ¬ awN T d (t o) h = 0) := by
        by_cases c2 : i = 3 * t p + t o
        · have z1 : t p = i / 3 := by omega
          have z2 : t o = i % 3 := by omega
          rw [z1, z2]
          exact ⟨fun z => absurd z.2 c, fun z => absurd z.2 c⟩
        · exact ⟨fun z => ⟨by omega, z.2⟩, fun z => ⟨by omega, z.2⟩⟩
      obtain ⟨b1, b2⟩ := a3 t ht
      refine ⟨by rw [b1]; simp only [key], fun r hr => by rw [b2 r hr]; simp only [key]⟩
    rw [gX1_weighNoise, if_neg (show ¬ (9 : Int32) ≤ nI i from nI_ge (b := 9) (by omega) (by omega)), nm_eq, nm_eq, e1, show nI i - nI (i / 3) * (3 : Int32) = nI (i % 3) by rw [← e1]; exact e2, hc.wakes hs3 hh, cP_some, hc.wakes hu3 hh, cP_some, nI_1]
    by_cases c1 : awN T d (i / 3) h = 0
    · rw [if_pos (by rw [c1]; rfl)]
      by_cases c2 : awN T d (i % 3) h = 0
      · rw [if_pos (by rw [c2]; rfl)]
        exact skip (fun z => z.2 c2)
      · rw [if_neg (fun z => c2 ((nI_b0 (awN_lt _ _ _ _)).mp z)), place_ok, cP_some, place_ok, cP_some, nm_eq, i_idx, rd_ok (by omega) (by omega), wr_ok (by omega) (by omega), nm_eq, rd_ok (by omega) (by omega), wr_ok (by omega) (by omega), nm_eq, i_idx, rd_ok (by omega) (by omega), wr_ok (by omega) (by omega)]
        have step : ∀ m1 : Mem, keeps [60, 61] m m1 → m1.1 60 = bump (m.1 60) ((p * 3 + i / 3) * 21 + (o * 3 + i % 3)) (-nI w) → m1.1 61 = bump (bump (m.1 61) ((p * 3 + i / 3) * 21 + (o * 3 + i % 3)) (-nI w)) ((o * 3 + i % 3) * 21 + (p * 3 + i / 3)) (-nI w) → ∃ m', gX1_weighNoise f (nI p) (nI o) (nI h) (nI w) (nI (i + 1)) m1 = some m' ∧ keeps [60, 61] m m' ∧ nGain T d o p h w i m m' := by
          intro m1 kp r60 r61
          obtain ⟨m', a1, a2, a3⟩ := ih (i + 1) (by omega) m1 f (by omega) (hc.kp kp (by simp <;> omega))
          refine ⟨m', a1, kp.trans a2, fun t ht => ?_⟩
          have h1 := ht _ hp
          have h2 := ht _ ho
          obtain ⟨b1, b2⟩ := a3 t ht
          rw [b1, r61, phi_bump h7 ht ho hp hu3 hs3, phi_bump h7 ht hp ho hs3 hu3]
          by_cases c3 : i = 3 * t p + t o
          · have z1 : t p = i / 3 := by omega
            have z2 : t o = i % 3 := by omega
            refine ⟨?_, fun r hr => ?_⟩
            · rw [z1, z2, if_neg (show ¬ (i + 1 ≤ 3 * (i / 3) + i % 3 ∧ awN T d (i / 3) h = 0 ∧ ¬ awN T d (i % 3) h = 0) from fun z => by omega), if_pos (show i ≤ 3 * (i / 3) + i % 3 ∧ awN T d (i / 3) h = 0 ∧ ¬ awN T d (i % 3) h = 0 from ⟨by omega, c1, c2⟩), i_az]
              rcases Nat.lt_or_gt_of_ne hop with z | z
              · rw [if_neg (show ¬ (o < p ∧ i / 3 = i / 3 ∧ i % 3 = i % 3) from fun y => by omega), i_az, if_pos ⟨z, rfl, rfl⟩]
              · rw [if_pos (show o < p ∧ i / 3 = i / 3 ∧ i % 3 = i % 3 from ⟨z, rfl, rfl⟩), if_neg (show ¬ (p < o ∧ i % 3 = i % 3 ∧ i / 3 = i / 3) from fun y => by omega), i_az]
            · rw [b2 r hr, r60, psi_bump h7 ht hr hp ho hop hs3 hu3, z1, z2, if_neg (show ¬ (p = r ∧ i + 1 ≤ 3 * (i / 3) + i % 3 ∧ awN T d (i / 3) h = 0 ∧ ¬ awN T d (i % 3) h = 0) from fun z => by omega), i_az]
              by_cases y : p = r
              · rw [if_pos (show p = r ∧ i / 3 = i / 3 ∧ i % 3 = i % 3 from ⟨y, rfl, rfl⟩), if_pos ⟨y, by omega, c1, c2⟩]
              · rw [if_neg (show ¬ (p = r ∧ i / 3 = i / 3 ∧ i % 3 = i % 3) from fun z => y z.1), if_neg (fun z => y z.1)]
          · have n1 : ∀ (P : Prop) [Decidable P] (v : Int32), (P → i / 3 = t p ∧ i % 3 = t o) → (if P then v else 0) = 0 := fun P _ v hP => if_neg (fun z => c3 (by have := hP z; omega))
            have key : (i + 1 ≤ 3 * t p + t o ∧ awN T d (t p) h = 0 ∧ ¬ awN T d (t o) h = 0) ↔ (i ≤ 3 * t p + t o ∧ awN T d (t p) h = 0 ∧ ¬ awN T d (t o) h = 0) := ⟨fun z => ⟨by omega, z.2⟩, fun z => ⟨by omega, z.2⟩⟩
            refine ⟨?_, fun r hr => ?_⟩
            · rw [n1 _ _ (fun z => ⟨z.2.1, z.2.2⟩), n1 _ _ (fun z => ⟨z.2.2, z.2.1⟩), i_az, i_az]
              simp only [key]
            · rw [b2 r hr, r60, psi_bump h7 ht hr hp ho hop hs3 hu3, n1 _ _ (fun z => ⟨z.2.1, z.2.2⟩), i_az]
              simp only [key]
        refine step _ (((keeps.rfl'.sI (by simp)).sI (by simp)).sI (by simp)) ?_ ?_
        · rw [sI_oth (by omega), sI_oth (by omega), sI_row, bump, Int32.sub_eq_add_neg]
        · rw [sI_row, sI_row, sI_oth (by omega), bump, bump, Int32.sub_eq_add_neg, Int32.sub_eq_add_neg]
    · rw [if_neg (fun z => c1 ((nI_b0 (awN_lt _ _ _ _)).mp z))]
      exact skip (fun z => c1 z.1)
theorem c_wnoise (hT : TOK T) {k p : Nat} (hk : k < tnn T) (hp : p < tnp T) (hq : q / 2 ^ (tO T k) % 2 = 0) (h : CD T d sd q m) : ∃ m', fX1_weighNoise m (nI k) (nI p) = some m' ∧ keeps [tP T + 20, 60, 61] m m' ∧ CD T d sd q m' ∧ ∀ t : Nat → Nat, (∀ p, p < tnp T → t p < 3) → phi t (m'.1 61) (tnp T) = phi t (m.1 61) (tnp T) - nI (harmN T d t q k p) ∧ ∀ r, r < tnp T → psi r t (m'.1 60) (tnp T) = psi r t (m.1 60) (tnp T) - nI (if p = r then harmN T d t q k p else 0) := by
  have h7 := hT.1
  have h8 := hT.2.2.1
  obtain ⟨n1, n2, n3, n4⟩ := hT.2.2.2.2.2.2.1 k hk
  obtain ⟨g1, g2, g3⟩ := h.1.1.2.2.2.2.2.2.2.2.2 k hk
  have hP := h.1.1.pl
  unfold fX1_weighNoise
  rw [gPl_T h.1.1, h.1.1.2.1, rd_ok (by omega) (by omega), g1]
  by_cases c : tO T k = p
  · rw [if_pos (by rw [c])]
    refine ⟨m, rfl, keeps.rfl', h, fun t ht => ?_⟩
    have hz : harmN T d t q k p = 0 := by unfold harmN; rw [if_pos c]
    refine ⟨by rw [hz, i_sz], fun r hr => ?_⟩
    rw [hz, show (if p = r then 0 else 0) = 0 by split <;> rfl, i_sz]
  · rw [if_neg (fun z => c ((nI_eq (by omega) (by omega)).mp z)), rd_ok (by omega) (by omega), g2]
    obtain ⟨m1, a1, a2⟩ := h.hurt hT hk hp
    rw [a1, cI_some]
    have h1 := h.kp a2 (by simp)
    obtain ⟨m', b1, b2, b3⟩ := noise9 (w := hurtN T d k p) hT n1 hp (fun z => c z.symm) n2 9 0 (by omega) m1 5000 (by omega) h1
    refine ⟨m', b1, (a2.mono (by simp)).trans (b2.mono (by simp)), h1.kp b2 (by simp <;> omega), fun t ht => ?_⟩
    obtain ⟨e1, e2⟩ := b3 t ht
    have r60 : m1.1 60 = m.1 60 := a2.2 60 (by simp <;> omega)
    have r61 : m1.1 61 = m.1 61 := a2.2 61 (by simp <;> omega)
    rw [r61] at e1
    rw [r60] at e2
    have hz : harmN T d t q k p = if awN T d (t p) (tT T k) = 0 ∧ ¬ awN T d (t (tO T k)) (tT T k) = 0 then hurtN T d k p else 0 := by
      unfold harmN
      rw [if_neg c, if_neg (by omega)]
      by_cases y1 : awN T d (t (tO T k)) (tT T k) = 0
      · rw [if_pos y1, if_neg (fun z => z.2 y1)]
      · rw [if_neg y1]
        by_cases y2 : awN T d (t p) (tT T k) = 0
        · rw [if_pos y2, if_pos ⟨y2, y1⟩]
        · rw [if_neg y2, if_neg (fun z => y2 z.1)]
    by_cases y : awN T d (t p) (tT T k) = 0 ∧ ¬ awN T d (t (tO T k)) (tT T k) = 0
    · rw [if_pos y] at hz
      rw [hz]
      refine ⟨by rw [e1, if_pos ⟨Nat.zero_le _, y⟩, Int32.sub_eq_add_neg], fun r hr => ?_⟩
      rw [e2 r hr]
      by_cases y3 : p = r
      · rw [if_pos ⟨y3, Nat.zero_le _, y⟩, if_pos y3, Int32.sub_eq_add_neg]
      · rw [if_neg (fun z => y3 z.1), if_neg y3, i_sz, i_az]
    · rw [if_neg y] at hz
      rw [hz]
      refine ⟨by rw [e1, if_neg (fun z => y z.2), i_sz, i_az], fun r hr => ?_⟩
      rw [e2 r hr, if_neg (fun z => y z.2.2), show (if p = r then 0 else 0) = 0 by split <;> rfl, i_sz, i_az]
/-- weights as far as they are weighed -/
def WS (T : Tn) (A : (Nat → Nat) → Int32) (B : Nat → (Nat → Nat) → Int32) (m : Mem) : Prop := ∀ t : Nat → Nat, (∀ p, p < tnp T → t p < 3) → phi t (m.1 61) (tnp T) = A t ∧ ∀ p, p < tnp T → psi p t (m.1 60) (tnp T) = B p t
theorem weigh0 (hT : TOK T) : ∀ (k i : Nat), i + k = tnm T → ∀ (m : Mem) (f : Nat), k < f → CD T d sd q m → WS T (fun t => nI (mw T d t i)) (fun p t => nI (jw T d t p i)) m → ∃ m' f', f = f' + (k + 1) ∧ gX1_weigh f 0 (nI i) 0 0 m = gX1_weigh f' 1 0 0 0 m' ∧ keeps [60, 61] m m' ∧ CD T d sd q m' ∧ WS T (fun t => nI (mw T d t (tnm T))) (fun p t => nI (jw T d t p (tnm T))) m' := by
  have h10 := hT.2.1
  intro k
  induction k with
  | zero =>
    intro i hi m f hf h hW
    obtain ⟨f, rfl⟩ : ∃ g, f = g + 1 := ⟨f - 1, by omega⟩
    have ei : i = tnm T := by omega
    subst ei
    exact ⟨m, f, rfl, by rw [gX1_weigh, gPl_T h.1.1, h.1.1.2.1, h.1.1.2.2.2.2.1, if_pos (nI_le (by omega) (by omega))], keeps.rfl', h, hW⟩
  | succ k ih =>
    intro i hi m f hf h hW
    obtain ⟨f, rfl⟩ : ∃ g, f = g + 1 := ⟨f - 1, by omega⟩
    obtain ⟨m1, a1, a2, a3⟩ := c_wmeet hT (show i < tnm T by omega) h
    rw [gX1_weigh, gPl_T h.1.1, h.1.1.2.1, h.1.1.2.2.2.2.1, if_neg (nI_ge (by omega) (by omega)), a1, cV_some, nI_1]
    obtain ⟨m', f', q0, q1, q2, q3, q4⟩ := ih (i + 1) (by omega) m1 f (by omega) (h.kp a2 (by simp <;> omega)) (fun t ht => by
      obtain ⟨b1, b2⟩ := a3 t ht
      obtain ⟨w1, w2⟩ := hW t ht
      refine ⟨?_, fun p hp => ?_⟩
      · rw [b1, w1, nI_add]; rfl
      · rw [b2 p hp, w2 p hp, nI_add]; rfl)
    exact ⟨m', f', by omega, q1, a2.trans q2, q3, q4⟩
def hN (T : Tn) (d : Nat) (t : Nat → Nat) (q : Nat) : Nat → Nat := fb_sm (fun k => fb_sm (fun p => harmN T d t q k p) (tnp T))
theorem weigh2 (hT : TOK T) {k : Nat} (hk : k < tnn T) (hq : q / 2 ^ (tO T k) % 2 = 0) {A : (Nat → Nat) → Int32} {B : Nat → (Nat → Nat) → Int32} : ∀ (j p : Nat), p + j = tnp T → ∀ (m : Mem) (f : Nat), j < f → CD T d sd q m → m.1 58 0 = nI (tnp T) → WS T (fun t => A t - nI (fb_sm (fun p => harmN T d t q k p) p)) (fun r t => B r t - nI (if r < p then harmN T d t q k r else 0)) m → ∃ m' f', f = f' + (j + 1) ∧ gX1_weigh f 2 (nI k) 0 (nI p) m = gX1_weigh f' 1 (nI (k + 1)) 0 0 m' ∧ keeps [tP T + 20, 60, 61] m m' ∧ CD T d sd q m' ∧ WS T (fun t => A t - nI (fb_sm (fun p => harmN T d t q k p) (tnp T))) (fun r t => B r t - nI (if r < tnp T then harmN T d t q k r else 0)) m' := by
  have h7 := hT.1
  intro j
  induction j with
  | zero =>
    intro p hp m f hf h h58 hW
    obtain ⟨f, rfl⟩ : ∃ g, f = g + 1 := ⟨f - 1, by omega⟩
    have ei : p = tnp T := by omega
    subst ei
    exact ⟨m, f, rfl, by rw [gX1_weigh, h58, if_pos (nI_le (by omega) (by omega)), nI_1], keeps.rfl', h, hW⟩
  | succ j ih =>
    intro p hp m f hf h h58 hW
    obtain ⟨f, rfl⟩ : ∃ g, f = g + 1 := ⟨f - 1, by omega⟩
    have hP := h.1.1.pl
    obtain ⟨m1, a1, a2, a3, a4⟩ := c_wnoise hT hk (show p < tnp T by omega) hq h
    rw [gX1_weigh, h58, if_neg (nI_ge (by omega) (by omega)), if_pos rfl, a1, cV_some, nI_1]
    obtain ⟨m', f', q0, q1, q2, q3, q4⟩ := ih (p + 1) (by omega) m1 f (by omega) a3 (by rw [a2.2 58 (by simp <;> omega)]; exact h58) (fun t ht => by
      obtain ⟨b1, b2⟩ := a4 t ht
      obtain ⟨w1, w2⟩ := hW t ht
      refine ⟨?_, fun r hr => ?_⟩
      · rw [b1, w1, i_ss, nI_add]; rfl
      · rw [b2 r hr, w2 r hr, i_ss, nI_add]
        congr 2
        by_cases y : p = r
        · subst y; rw [if_pos rfl, if_neg (by omega), if_pos (by omega), Nat.zero_add]
        · rw [if_neg y, Nat.add_zero]
          by_cases y2 : r < p
          · rw [if_pos y2, if_pos (by omega)]
          · rw [if_neg y2, if_neg (by omega)])
    exact ⟨m', f', by omega, q1, a2.trans q2, q3, q4⟩
theorem weigh1 (hT : TOK T) {A : (Nat → Nat) → Int32} {B : Nat → (Nat → Nat) → Int32} : ∀ (j k : Nat), k + j = tnn T → ∀ (m : Mem) (f : Nat), 10 * j < f → CD T d sd q m → m.1 58 0 = nI (tnp T) → WS T (fun t => A t - nI (hN T d t q k)) (fun r t => B r t - nI (hOn T d t q r k)) m → ∃ m', gX1_weigh f 1 (nI k) 0 0 m = some m' ∧ keeps [tP T + 20, 60, 61] m m' ∧ CD T d sd q m' ∧ WS T (fun t => A t - nI (hN T d t q (tnn T))) (fun r t => B r t - nI (hOn T d t q r (tnn T))) m' := by
  have h7 := hT.1
  have h8 := hT.2.2.1
  intro j
  induction j with
  | zero =>
    intro k hk m f hf h h58 hW
    obtain ⟨f, rfl⟩ : ∃ g, f = g + 1 := ⟨f - 1, by omega⟩
    have ei : k = tnn T := by omega
    subst ei
    exact ⟨m, by rw [gX1_weigh, gPl_T h.1.1, h.1.1.2.1, h.1.1.2.2.2.2.2.1, if_pos (nI_le (by omega) (by omega))], keeps.rfl', h, hW⟩
  | succ j ih =>
    intro k hk m f hf h h58 hW
    obtain ⟨f, rfl⟩ : ∃ g, f = g + 1 := ⟨f - 1, by omega⟩
    have hP := h.1.1.pl
    obtain ⟨n1, n2, n3, n4⟩ := hT.2.2.2.2.2.2.1 k (by omega)
    obtain ⟨g1, g2, g3⟩ := h.1.1.2.2.2.2.2.2.2.2.2 k (by omega)
    rw [gX1_weigh, gPl_T h.1.1, h.1.1.2.1, h.1.1.2.2.2.2.2.1, if_neg (nI_ge (by omega) (by omega)), rd_ok (by omega) (by omega), g1, h.1.quiet (by omega), cP_some]
    by_cases c : q / 2 ^ (tO T k) % 2 = 0
    · obtain ⟨m1, f1, a0, a1, a2, a3, a4⟩ := weigh2 (A := fun t => A t - nI (hN T d t q k)) (B := fun r t => B r t - nI (hOn T d t q r k)) hT (show k < tnn T by omega) c (tnp T) 0 (by omega) m f (by omega) h h58 (fun t ht => by
        obtain ⟨w1, w2⟩ := hW t ht
        exact ⟨by rw [w1]; exact (i_sz _).symm, fun r hr => by rw [w2 r hr]; dsimp only; rw [if_neg (by omega)]; exact (i_sz _).symm⟩)
      rw [c, show gX1_weigh f 2 (nI k) (nI 0) 0 m = _ from a1]
      obtain ⟨m', q1, q2, q3, q4⟩ := ih (k + 1) (by omega) m1 f1 (by omega) a3 (by rw [a2.2 58 (by simp <;> omega)]; exact h58) (fun t ht => by
        obtain ⟨w1, w2⟩ := a4 t ht
        refine ⟨?_, fun r hr => ?_⟩
        · rw [w1]; dsimp only; rw [i_ss, nI_add]; rfl
        · rw [w2 r hr]; dsimp only; rw [i_ss, nI_add, if_pos hr]; rfl)
      exact ⟨m', q1, a2.trans q2, q3, q4⟩
    · obtain ⟨f, rfl⟩ : ∃ g, f = g + 1 := ⟨f - 1, by omega⟩
      have c1 : q / 2 ^ (tO T k) % 2 = 1 := by omega
      have hz : ∀ t p, harmN T d t q k p = 0 := fun t p => by unfold harmN; rw [if_pos c1]; split <;> rfl
      have hcol : gX1_weigh (f + 1) 2 (nI k) (nI (q / 2 ^ (tO T k) % 2)) 0 m = gX1_weigh f 1 (nI (k + 1)) 0 0 m := by
        rw [gX1_weigh, if_neg (show ¬ nI (q / 2 ^ (tO T k) % 2) = 0 by rw [c1]; decide), nI_1]
        split <;> rfl
      rw [hcol]
      exact ih (k + 1) (by omega) m f (by omega) h h58 (fun t ht => by
        obtain ⟨w1, w2⟩ := hW t ht
        refine ⟨?_, fun r hr => ?_⟩
        · rw [w1]; dsimp only; rw [show hN T d t q (k + 1) = hN T d t q k from by unfold hN; rw [fb_sm_succ, show fb_sm (fun p => harmN T d t q k p) (tnp T) = fb_sm (fun _ => 0) (tnp T) from fb_sm_cong (fun p _ => hz t p), fb_sm_const]; omega]
        · rw [w2 r hr]; dsimp only; rw [show hOn T d t q r (k + 1) = hOn T d t q r k from by unfold hOn; rw [fb_sm_succ, hz]; rfl])
theorem zs_zero {f : Nat → Int32} : ∀ {n : Nat}, (∀ j, j < n → f j = 0) → zs f n = 0
  | 0, _ => rfl
  | n + 1, h => by rw [zs, zs_zero (fun j hj => h j (by omega)), h n (by omega)]; rfl
theorem c_weigh (hT : TOK T) {dt : Nat} (h : CB T sd q m) (hd : m.1 27 6 = nI dt) (hl : dt < 365) : ∃ m', fX1_weigh m = some m' ∧ keeps [tP T + 14, tP T + 17, tP T + 20, 53, 54, 55, 58, 59, 60, 61] m m' ∧ CD T dt sd q m' ∧ m'.1 58 0 = nI (tnp T) ∧ (∀ p, p < tnp T → m'.1 59 p = nI (sd p)) ∧ WS T (fun t => blI T dt t q) (fun p t => joI T dt t q p) m' := by
  have h7 := hT.1
  have h8 := hT.2.2.1
  have h10 := hT.2.1
  have hP := h.1.pl
  obtain ⟨m1, a1, a2, a3⟩ := today_ok hT h hd hl
  unfold fX1_weigh
  rw [a1, cR_some, gEq_ok, gPl_T a3.1.1, a3.1.1.2.1, a3.1.1.2.2.2.1, pt_eq, show ∀ (x : Mem) (K : Mem → Option Mem), cpy x 28 7 59 7 (0 : Int32) (0 : Int32) (7 : Int32) K = K (sW x 59 (va_cpy (x.1 28) (x.1 59) 0 0 7)) from fun x K => cpy_ok (sp := 0) (dp := 0) (n := 7) (by omega) (by omega) (by omega) (by omega), pt_eq, pt_eq]
  have step : ∀ m2 : Mem, keeps [58, 59, 60, 61] m1 m2 → m2.1 58 0 = nI (tnp T) → (∀ p, p < 7 → m2.1 59 p = m1.1 28 p) → (∀ j, j < 441 → m2.1 60 j = 0 ∧ m2.1 61 j = 0) → ∃ m', gX1_weigh 5000 0 0 0 0 m2 = some m' ∧ keeps [tP T + 14, tP T + 17, tP T + 20, 53, 54, 55, 58, 59, 60, 61] m m' ∧ CD T dt sd q m' ∧ m'.1 58 0 = nI (tnp T) ∧ (∀ p, p < tnp T → m'.1 59 p = nI (sd p)) ∧ WS T (fun t => blI T dt t q) (fun p t => joI T dt t q p) m' := by
    intro m2 k2 e58 e59 ez
    have hc2 : CD T dt sd q m2 := a3.kp k2 (by simp <;> omega)
    obtain ⟨m3, f3, b0, b1, b2, b3, b4⟩ := weigh0 (d := dt) (sd := sd) (q := q) hT (tnm T) 0 (by omega) m2 5000 (by omega) hc2 (fun t ht => ⟨by
      refine zs_zero (fun p hp => zs_zero (fun o ho => (ez _ ?_).2))
      have := ht p hp
      have := ht o (by omega)
      omega, fun p hp => by
      refine zs_zero (fun o ho => ?_)
      have := ht p hp
      have := ht o ho
      by_cases c : o = p
      · rw [if_pos c]
      · rw [if_neg c]; exact (ez _ (by omega)).1⟩)
    rw [show gX1_weigh 5000 0 0 0 0 m2 = _ from b1]
    have e58' : m3.1 58 0 = nI (tnp T) := by rw [b2.2 58 (by simp)]; exact e58
    obtain ⟨m', z1, z2, z3, z4⟩ := weigh1 (A := fun t => nI (mw T dt t (tnm T))) (B := fun r t => nI (jw T dt t r (tnm T))) hT (tnn T) 0 (by omega) m3 f3 (by omega) b3 e58' (fun t ht => by
      obtain ⟨w1, w2⟩ := b4 t ht
      exact ⟨by rw [w1]; exact (i_sz _).symm, fun r hr => by rw [w2 r hr]; exact (i_sz _).symm⟩)
    refine ⟨m', z1, ?_, z3, by rw [z2.2 58 (by simp <;> omega)]; exact e58', fun p hp => by rw [z2.2 59 (by simp <;> omega), b2.2 59 (by simp), e59 p (by omega)]; exact (a3.1.2.2.2.1 p hp).2, fun t ht => ?_⟩
    · exact (a2.mono (by simp <;> omega)).trans ((k2.mono (by simp <;> omega)).trans ((b2.mono (by simp <;> omega)).trans (z2.mono (by simp <;> omega))))
    · obtain ⟨w1, w2⟩ := z4 t ht
      refine ⟨?_, w2⟩
      rw [w1]
      unfold blI hAll hOn hN
      dsimp only
      rw [fub (fun k p => harmN T dt t q k p) (tnn T) (tnp T)]
  refine step _ ((((keeps.rfl'.sI (by simp)).sW (by simp)).sW (by simp)).sW (by simp)) ?_ ?_ ?_
  · rw [fil, fil, sW_oth (by omega), sW_oth (by omega), sW_oth (by omega), sI_row, upd_at]
  · intro p hp
    rw [fil, fil, sW_oth (by omega), sW_oth (by omega), sW_row, sI_oth (by omega)]
    unfold va_cpy
    rw [if_pos (by omega), Nat.zero_add, Nat.sub_zero]
  · intro j hj
    rw [fil, sW_row, sW_oth (by omega), fil, sW_row]
    exact ⟨if_pos hj, if_pos hj⟩
end
