/-! ===== rows that hold a list; lights that were seen: fits, sure, ask ===== -/
def rowIs (f : Nat → Int32) : Nat → List Int32 → Prop
  | _, [] => True
  | o, v :: r => f o = v ∧ rowIs f (o + 1) r
theorem rowIs_app {f : Nat → Int32} : ∀ {A B : List Int32} {o : Nat}, rowIs f o (A ++ B) ↔ rowIs f o A ∧ rowIs f (o + A.length) B
  | [], B, o => by simp [rowIs]
  | v :: A, B, o => by
    have ih := rowIs_app (f := f) (A := A) (B := B) (o := o + 1)
    rw [List.cons_append, rowIs, rowIs, ih, and_assoc, List.length_cons, show o + 1 + A.length = o + (A.length + 1) by omega]
theorem rowIs_upd {f : Nat → Int32} {k : Nat} {x : Int32} : ∀ {A : List Int32} {o : Nat}, (k < o ∨ o + A.length ≤ k) → rowIs f o A → rowIs (upd f k x) o A
  | [], _, _, _ => trivial
  | v :: A, o, h, hr => by
    rw [List.length_cons] at h
    exact ⟨by rw [upd_ne (by omega)]; exact hr.1, rowIs_upd (by omega) hr.2⟩
theorem rowIs_push {f : Nat → Int32} {A : List Int32} {x : Int32} {k : Nat} (hk : k = A.length) (h : rowIs f 0 A) : rowIs (upd f k x) 0 (A ++ [x]) := by
  rw [rowIs_app]
  refine ⟨rowIs_upd (by omega) h, ?_, trivial⟩
  rw [Nat.zero_add, hk, upd_at]
theorem rowIs_get {f : Nat → Int32} : ∀ {A : List Int32} {o j : Nat}, rowIs f o A → j < A.length → f (o + j) = A.getD j 0
  | [], _, _, _, h => absurd h (by simp)
  | v :: A, o, 0, h, _ => h.1
  | v :: A, o, j + 1, h, hj => by
    have := rowIs_get (j := j) h.2 (by simpa using hj)
    rw [show o + (j + 1) = o + 1 + j by omega, this]
    rfl
theorem rowIs_of {f : Nat → Int32} : ∀ {A : List Int32} {o : Nat}, (∀ j, j < A.length → f (o + j) = A.getD j 0) → rowIs f o A
  | [], _, _ => trivial
  | v :: A, o, h => by
    refine ⟨h 0 (by simp), rowIs_of (fun j hj => ?_)⟩
    have := h (j + 1) (by simp; omega)
    rw [show o + 1 + j = o + (j + 1) by omega, this]
    rfl
theorem rowIs_cong {f g : Nat → Int32} : ∀ {A : List Int32} {o : Nat}, (∀ j, o ≤ j → j < o + A.length → g j = f j) → rowIs f o A → rowIs g o A
  | [], _, _, _ => trivial
  | v :: A, o, h, hr => by
    rw [List.length_cons] at h
    exact ⟨by rw [h o (by omega) (by omega)]; exact hr.1, rowIs_cong (fun j a b => h j (by omega) (by omega)) hr.2⟩
theorem and0 (a b : Nat) : a &&& b = 0 ↔ ∀ i, ¬ (a.testBit i = true ∧ b.testBit i = true) := by
  constructor
  · intro h i hi
    have : (a &&& b).testBit i = true := by rw [Nat.testBit_and, hi.1, hi.2]; rfl
    rw [h, Nat.zero_testBit] at this
    cases this
  · intro h
    refine Nat.eq_of_testBit_eq (fun i => ?_)
    rw [Nat.testBit_and, Nat.zero_testBit]
    have := h i
    cases ha : a.testBit i <;> cases hb : b.testBit i <;> simp_all
theorem night_day : ∀ a, a < 12 → ∀ b, b < 24 → 12 ≤ b → ∀ h, h < 24 → hrsN a b 1 / 2 ^ h % 2 = 1 - hrsN a b 0 / 2 ^ h % 2 := by decide +kernel
theorem aw_nd (T : Tn) (d : Nat) {h : Nat} (hh : h < 24) : awN T d 1 h = 1 - awN T d 0 h := night_day _ (dwn_lt T d) _ (dsk_lt T d).2 (dsk_lt T d).1 h hh
def homeN (T : Tn) (w : Nat) : Nat := orB (fun p => if th T p = w then 1 else 0) (tnp T)
theorem home_bit (T : Tn) (w i : Nat) : (homeN T w).testBit i = true ↔ i < tnp T ∧ th T i = w := by
  unfold homeN
  rw [orB_bit, Bool.and_eq_true, decide_eq_true_iff, decide_eq_true_iff]
  by_cases c : th T i = w
  · simp [c]
  · simp [c]
theorem home_lt {T : Tn} (hT : TOK T) (w : Nat) : homeN T w < 128 := Nat.lt_of_lt_of_le (orB_lt _ _) (pow_np hT.1)
def laN (T : Tn) (d w v : Nat) : Nat → Nat
  | 0 => 0
  | n + 1 => laN T d w v n ||| (if th T n = w then hrsN (dwn T d) (dsk T d) (v / 2 ^ n % 2) else 0)
theorem laN_lt (T : Tn) (d w v : Nat) : ∀ n, laN T d w v n < 2 ^ 24
  | 0 => by rw [laN]; decide
  | n + 1 => by
    rw [laN]
    refine Nat.or_lt_two_pow (laN_lt T d w v n) ?_
    split
    · exact hrs_lt T d (by omega)
    · decide
def lbN (T : Tn) (d w v h : Nat) : Nat := laN T d w v (tnp T) / 2 ^ h % 2
theorem lbN_lt (T : Tn) (d w v h : Nat) : lbN T d w v h < 2 := Nat.mod_lt _ (by decide)
theorem laN_bit (T : Tn) (d w v h : Nat) : ∀ n, (laN T d w v n).testBit h = true ↔ ∃ p, p < n ∧ th T p = w ∧ awN T d (v / 2 ^ p % 2) h = 1
  | 0 => by
    rw [laN, Nat.zero_testBit]
    constructor
    · intro z; cases z
    · rintro ⟨p, a, _⟩; omega
  | n + 1 => by
    rw [laN, Nat.testBit_or, Bool.or_eq_true, laN_bit T d w v h n]
    constructor
    · rintro (⟨p, a, b, c⟩ | a)
      · exact ⟨p, by omega, b, c⟩
      · by_cases c : th T n = w
        · rw [if_pos c, tb_dm, decide_eq_true_iff] at a
          exact ⟨n, by omega, c, a⟩
        · rw [if_neg c, Nat.zero_testBit] at a
          cases a
    · rintro ⟨p, a, b, c⟩
      by_cases e : p = n
      · subst e
        refine Or.inr ?_
        rw [if_pos b, tb_dm, decide_eq_true_iff]
        exact c
      · exact Or.inl ⟨p, by omega, b, c⟩
theorem lbN_1 (T : Tn) (d w v h : Nat) : lbN T d w v h = 1 ↔ ∃ p, p < tnp T ∧ th T p = w ∧ awN T d (v / 2 ^ p % 2) h = 1 := by
  rw [← laN_bit, tb_dm, decide_eq_true_iff]
  exact Iff.rfl
theorem isLit_ok {T : Tn} (hT : TOK T) (d : Nat) {w v h : Nat} (hv : v < 128) (hh : h < 24) : fX5_isLit (nI v) (nI (homeN T w)) (nI (awN T d 0 h)) = some (nI (lbN T d w v h)) := by
  have h1 := home_lt hT w
  have hnd := aw_nd T d hh
  have ha := awN_lt T d 0 h
  have hl := lbN_lt T d w v h
  have hb : ∀ p, v / 2 ^ p % 2 = 0 ∨ v / 2 ^ p % 2 = 1 := fun p => by omega
  have h7 := hT.1
  unfold fX5_isLit
  rcases (show awN T d 0 h = 0 ∨ awN T d 0 h = 1 by omega) with e | e
  · rw [e, if_pos (show nI 0 = 0 from rfl), fa_and]
    have key : nI (homeN T w &&& v) = 0 ↔ ¬ lbN T d w v h = 1 := by
      rw [nI_eq0 (Nat.lt_of_le_of_lt Nat.and_le_left (by omega)), and0, lbN_1]
      constructor
      · rintro a ⟨p, b1, b2, b3⟩
        refine a p ⟨(home_bit T w p).mpr ⟨b1, b2⟩, ?_⟩
        rw [tb_dm, decide_eq_true_iff]
        rcases hb p with z | z
        · rw [z, e] at b3; omega
        · exact z
      · rintro a i ⟨b1, b2⟩
        obtain ⟨c1, c2⟩ := (home_bit T w i).mp b1
        rw [tb_dm, decide_eq_true_iff] at b2
        exact a ⟨i, c1, c2, by rw [b2]; omega⟩
    by_cases c : lbN T d w v h = 1
    · rw [if_neg (fun z => key.mp z c), c]; rfl
    · rw [if_pos (key.mpr c), show lbN T d w v h = 0 by omega]; rfl
  · rw [e, if_neg (show ¬ nI 1 = 0 by decide), show (-1 : Int32) = nI 4294967295 from rfl, fb_xorI, fa_and]
    have key : nI (homeN T w &&& (v ^^^ 4294967295)) = 0 ↔ ¬ lbN T d w v h = 1 := by
      rw [nI_eq0 (Nat.lt_of_le_of_lt Nat.and_le_left (by omega)), and0, lbN_1]
      have hx : ∀ i, i < 32 → ((v ^^^ 4294967295).testBit i = true ↔ v / 2 ^ i % 2 = 0) := fun i hi => by
        have z1 : (4294967295 : Nat).testBit i = true := by
          rw [show (4294967295 : Nat) = 2 ^ 32 - 1 from rfl, Nat.testBit_two_pow_sub_one]
          exact decide_eq_true hi
        rw [Nat.testBit_xor, z1, tb_dm]
        rcases hb i with z | z <;> rw [z] <;> decide
      constructor
      · rintro a ⟨p, b1, b2, b3⟩
        refine a p ⟨(home_bit T w p).mpr ⟨b1, b2⟩, (hx p (by omega)).mpr ?_⟩
        rcases hb p with z | z
        · exact z
        · rw [z, hnd, e] at b3; omega
      · rintro a i ⟨b1, b2⟩
        obtain ⟨c1, c2⟩ := (home_bit T w i).mp b1
        exact a ⟨i, c1, c2, by rw [(hx i (by omega)).mp b2]; exact e⟩
    by_cases c : lbN T d w v h = 1
    · rw [if_neg (fun z => key.mp z c), c]; rfl
    · rw [if_pos (key.mpr c), show lbN T d w v h = 0 by omega]; rfl
/-- lights: houses, hours, whether there was one, which count -/
def fitB (T : Tn) (d : Nat) (H R W : Nat → Nat) (K : Nat → Bool) : Nat → Nat → Bool
  | 0, _ => true
  | n + 1, v => fitB T d H R W K n v && (!K n || decide (lbN T d (H n) v (R n) = W n))
theorem fitB_no {T : Tn} {d : Nat} {H R W : Nat → Nat} {K : Nat → Bool} {v : Nat} {i : Nat} (h : fitB T d H R W K i v = false) : ∀ j, fitB T d H R W K (i + j) v = false
  | 0 => h
  | j + 1 => by rw [← Nat.add_assoc, fitB, fitB_no h j]; rfl
def sumL (f : Nat → Nat) : List Nat → Nat
  | [] => 0
  | v :: r => f v + sumL f r
theorem sumL_app (f : Nat → Nat) : ∀ A B, sumL f (A ++ B) = sumL f A + sumL f B
  | [], B => by rw [List.nil_append, sumL, Nat.zero_add]
  | v :: A, B => by rw [List.cons_append, sumL, sumL, sumL_app f A B, Nat.add_assoc]
theorem sumL_filter (f : Nat → Nat) (p : Nat → Bool) : ∀ n, sumL f ((List.range n).filter p) = fb_sm (fun u => if p u = true then f u else 0) n
  | 0 => rfl
  | n + 1 => by
    rw [List.range_succ, List.filter_append, sumL_app, sumL_filter f p n, fb_sm_succ]
    cases c : p n <;> simp [List.filter_cons, c, sumL]
theorem len_filter (p : Nat → Bool) : ∀ n, ((List.range n).filter p).length = fb_ct p n
  | 0 => rfl
  | n + 1 => by
    rw [List.range_succ, List.filter_append, List.length_append, len_filter p n, fb_ct_succ]
    cases c : p n <;> simp [List.filter_cons, c]
theorem sumL_le {f : Nat → Nat} (hf : ∀ v, f v < 2) : ∀ L : List Nat, sumL f L ≤ L.length
  | [] => Nat.le_refl _
  | v :: L => by
    have := sumL_le hf L
    have := hf v
    rw [sumL, List.length_cons]
    omega
section
variable {T : Tn} {d : Nat} {sd : Nat → Nat} {q : Nat} {m : Mem}
theorem c_livesG (hT : TOK T) (h : TC T m) {w : Nat} (hw : w < 10) : ∀ (k i : Nat), i + k = tnp T → ∀ f, k < f → gX6_whoLivesAt m f (tP T) (nI w) (nI (orB (fun p => if th T p = w then 1 else 0) i)) (nI i) = some (nI (homeN T w)) := by
  have h7 := hT.1
  intro k
  induction k with
  | zero =>
    intro i hi f hf
    obtain ⟨f, rfl⟩ : ∃ g, f = g + 1 := ⟨f - 1, by omega⟩
    have ei : i = tnp T := by omega
    subst ei
    rw [gX6_whoLivesAt, gPl_ok h.pl, h.2.2.2.1, if_pos (nI_le (by omega) (by omega))]
    rfl
  | succ k ih =>
    intro i hi f hf
    obtain ⟨f, rfl⟩ : ∃ g, f = g + 1 := ⟨f - 1, by omega⟩
    have hth := (hT.2.2.2.2.1 i (by omega)).1
    rw [gX6_whoLivesAt, gPl_ok h.pl, h.2.2.2.1, if_neg (nI_ge (by omega) (by omega)), rd_ok (by omega) (by omega), (h.2.2.2.2.2.2.2.1 i (by omega)).1, nm_eq, nm_eq, nI_1]
    by_cases c : th T i = w
    · rw [if_pos (by rw [c]), sh_pow i (by omega), fa_or]
      have e : orB (fun p => if th T p = w then 1 else 0) (i + 1) = orB (fun p => if th T p = w then 1 else 0) i ||| 2 ^ i := orB_y (by simp [c])
      rw [← e]
      exact ih (i + 1) (by omega) f (by omega)
    · rw [if_neg (fun e => c ((nI_eq (by omega) (by omega)).mp e)), or_z]
      have e : orB (fun p => if th T p = w then 1 else 0) (i + 1) = orB (fun p => if th T p = w then 1 else 0) i := orB_n (by simp [c])
      rw [← e]
      exact ih (i + 1) (by omega) f (by omega)
theorem c_lives (hT : TOK T) (h : TC T m) {w : Nat} (hw : w < 10) : fX6_whoLivesAt m (tP T) (nI w) = some (nI (homeN T w)) := c_livesG hT h hw (tnp T) 0 (by omega) 5000 (by have := hT.1; omega)
theorem dropG (hT : TOK T) {w h W l n : Nat} (hh : h < 24) (hl : l < 30) (hW : W < 2) (hn : n ≤ 128) : ∀ (rest A : List Nat) (i : Nat) (m : Mem) (f : Nat), i + rest.length = n → A.length ≤ i → rest.length < f → (∀ v, v ∈ rest → v < 128) → m.1 65 8 = nI n → m.1 68 l = nI W → rowIs (m.1 71) 0 (A.map nI) → rowIs (m.1 71) i (rest.map nI) → ∃ m', gX5_dropAgainst f (nI l) (nI (homeN T w)) (nI (awN T d 0 h)) (nI A.length) (nI i) m = some m' ∧ keeps [65, 71] m m' ∧ (∀ s, s ≠ 8 → m'.1 65 s = m.1 65 s) ∧ m'.1 65 8 = nI (A ++ rest.filter (fun v => decide (lbN T d w v h = W))).length ∧ rowIs (m'.1 71) 0 ((A ++ rest.filter (fun v => decide (lbN T d w v h = W))).map nI) := by
  intro rest
  induction rest with
  | nil =>
    intro A i m f hi hA hf hr h8 h68 r1 r2
    obtain ⟨f, rfl⟩ : ∃ g, f = g + 1 := ⟨f - 1, by omega⟩
    rw [List.length_nil] at hi
    refine ⟨sI m 65 8 (nI A.length), ?_, keeps.rfl'.sI (by simp), fun s hs => by rw [sI_row, upd_ne hs], ?_, ?_⟩
    · rw [gX5_dropAgainst, h8, if_pos (nI_le (by omega) (by omega)), pt_eq]
    · rw [sI_row, upd_at, List.filter_nil, List.append_nil]
    · rw [sI_oth (by omega), List.filter_nil, List.append_nil]; exact r1
  | cons v rest ih =>
    intro A i m f hi hA hf hr h8 h68 r1 r2
    obtain ⟨f, rfl⟩ : ∃ g, f = g + 1 := ⟨f - 1, by omega⟩
    rw [List.length_cons] at hi hf
    have hv := hr v (by simp)
    have hr' : ∀ u, u ∈ rest → u < 128 := fun u hu => hr u (by simp [hu])
    rw [List.map_cons] at r2
    obtain ⟨e71, r3⟩ := r2
    rw [gX5_dropAgainst, h8, if_neg (nI_ge (by omega) (by omega)), rd_ok (by omega) (by omega), e71, isLit_ok hT d hv hh, cP_some, rd_ok hl (by omega), h68, rd_ok (by omega) (by omega), e71, wr_ok (by omega) (by omega), nI_1, nI_1]
    have hlb := lbN_lt T d w v h
    by_cases c : lbN T d w v h = W
    · rw [if_pos (by rw [c]), List.filter_cons, if_pos (by simp [c])]
      obtain ⟨m', a1, a2, a3, a4, a5⟩ := ih (A ++ [v]) (i + 1) (sI m 71 A.length (nI v)) f (by omega) (by rw [List.length_append]; simp; omega) (by omega) hr' (by rw [sI_oth (by omega)]; exact h8) (by rw [sI_oth (by omega)]; exact h68) (by rw [sI_row, List.map_append]; exact rowIs_push (by simp) r1) (by rw [sI_row]; exact rowIs_upd (by omega) r3)
      rw [List.append_assoc, List.singleton_append] at a4 a5
      refine ⟨m', ?_, (keeps.rfl'.sI (by simp)).trans a2, fun s hs => by rw [a3 s hs, sI_oth (by omega)], a4, a5⟩
      rw [List.length_append] at a1
      exact a1
    · rw [if_neg (fun z => c ((nI_eq (by omega) (by omega)).mp z)), List.filter_cons, if_neg (by simp [c])]
      exact ih A (i + 1) m f (by omega) (by omega) (by omega) hr' h8 h68 r1 r3
/-- what lights are told -/
def LiC (ct : Nat) (H R W : Nat → Nat) (x : Int32) (K : Nat → Bool) (c : Mem) : Prop := ct ≤ 30 ∧ c.1 65 0 = nI ct ∧ ∀ i, i < ct → H i < 10 ∧ c.1 66 i = nI (H i) ∧ R i < 24 ∧ c.1 67 i = nI (R i) ∧ W i < 2 ∧ c.1 68 i = nI (W i) ∧ ((c.1 70 i = -1 ∧ (K i = true ↔ ¬ x < c.1 69 i)) ∨ (¬ c.1 70 i = -1 ∧ (K i = true ↔ ¬ x < c.1 69 i ∧ x < c.1 70 i)))
theorem LiC.kp {ct : Nat} {H R W : Nat → Nat} {x : Int32} {K : Nat → Bool} {c c' : Mem} (h : LiC ct H R W x K c) (hk : keeps [65, 71] c c') (h0 : c'.1 65 0 = c.1 65 0) : LiC ct H R W x K c' := by
  refine ⟨h.1, by rw [h0]; exact h.2.1, fun i hi => ?_⟩
  rw [hk.2 66 (by simp), hk.2 67 (by simp), hk.2 68 (by simp), hk.2 69 (by simp), hk.2 70 (by simp)]
  exact h.2.2 i hi
theorem c_drop (hT : TOK T) {ct : Nat} {H R W : Nat → Nat} {x : Int32} {K : Nat → Bool} (h : CD T d sd q m) (hL : LiC ct H R W x K m) {l : Nat} (hl : l < ct) {L : List Nat} (hn : L.length ≤ 128) (hv : ∀ v, v ∈ L → v < 128) (h8 : m.1 65 8 = nI L.length) (hr : rowIs (m.1 71) 0 (L.map nI)) : ∃ m', fX5_dropAgainst m (nI l) (tP T) = some m' ∧ keeps [65, 71] m m' ∧ (∀ s, s ≠ 8 → m'.1 65 s = m.1 65 s) ∧ m'.1 65 8 = nI (L.filter (fun v => decide (lbN T d (H l) v (R l) = W l))).length ∧ rowIs (m'.1 71) 0 ((L.filter (fun v => decide (lbN T d (H l) v (R l) = W l))).map nI) := by
  obtain ⟨a1, a2, a3, a4, a5, a6, -⟩ := hL.2.2 l hl
  have := hL.1
  have hw0 : fX2_wakes m (0 : Int32) (nI (R l)) = some (nI (awN T d 0 (R l))) := h.wakes (s := 0) (by omega) a3
  unfold fX5_dropAgainst
  rw [rd_ok (by omega) (by omega), a2, gPl_ok h.1.1.pl, c_lives hT h.1.1 a1, cP_some, rd_ok (by omega) (by omega), a4, hw0, cP_some]
  exact dropG (n := L.length) hT a3 (by omega) a5 hn L [] 0 m 5000 (by omega) (by simp) (by omega) hv h8 a6 trivial hr
theorem lookF {N : Nat} (hN : N ≤ 128) (x : Int32) : ∀ (k i : Nat), i + k = N → ∀ (m : Mem) (f : Nat), k < f → m.1 65 8 = nI N → rowIs (m.1 71) 0 ((List.range i).map nI) → ∃ m' f', f = f' + (k + 1) ∧ gX5_lookAt f 0 x (nI i) m = gX5_lookAt f' 1 x 0 m' ∧ keeps [71] m m' ∧ rowIs (m'.1 71) 0 ((List.range N).map nI) := by
  intro k
  induction k with
  | zero =>
    intro i hi m f hf h8 hr
    obtain ⟨f, rfl⟩ : ∃ g, f = g + 1 := ⟨f - 1, by omega⟩
    have ei : i = N := by omega
    subst ei
    exact ⟨m, f, rfl, by rw [gX5_lookAt, h8, if_pos (nI_le (by omega) (by omega))], keeps.rfl', hr⟩
  | succ k ih =>
    intro i hi m f hf h8 hr
    obtain ⟨f, rfl⟩ : ∃ g, f = g + 1 := ⟨f - 1, by omega⟩
    rw [gX5_lookAt, h8, if_neg (nI_ge (by omega) (by omega)), wr_ok (by omega) (by omega), nI_1]
    obtain ⟨m', f', a0, a1, a2, a3⟩ := ih (i + 1) (by omega) (sI m 71 i (nI i)) f (by omega) (by rw [sI_oth (by omega)]; exact h8) (by rw [sI_row, List.range_succ, List.map_append]; exact rowIs_push (by simp) hr)
    exact ⟨m', f', by omega, a1, (keeps.rfl'.sI (by simp)).trans a2, a3⟩
theorem fit_step {H R W : Nat → Nat} {K : Nat → Bool} {i N : Nat} (c : K i = true) : ((List.range N).filter (fitB T d H R W K i)).filter (fun v => decide (lbN T d (H i) v (R i) = W i)) = (List.range N).filter (fitB T d H R W K (i + 1)) := by
  rw [List.filter_filter]
  congr 1
  funext v
  rw [fitB, c, Bool.and_comm]
  rfl
theorem fit_skip {H R W : Nat → Nat} {K : Nat → Bool} {i N : Nat} (c : ¬ K i = true) : (List.range N).filter (fitB T d H R W K i) = (List.range N).filter (fitB T d H R W K (i + 1)) := by
  congr 1
  funext v
  rw [fitB, show K i = false by simpa using c]
  simp
theorem lookG (hT : TOK T) {ct N : Nat} {H R W : Nat → Nat} {x : Int32} {K : Nat → Bool} (hN : N ≤ 128) : ∀ (k i : Nat), i + k = ct → ∀ (m : Mem) (f : Nat), k < f → CD T d sd q m → LiC ct H R W x K m → m.1 65 8 = nI ((List.range N).filter (fitB T d H R W K i)).length → rowIs (m.1 71) 0 (((List.range N).filter (fitB T d H R W K i)).map nI) → ∃ m', gX5_lookAt f 1 x (nI i) m = some m' ∧ keeps [65, 71] m m' ∧ (∀ s, s ≠ 8 → m'.1 65 s = m.1 65 s) ∧ m'.1 65 8 = nI ((List.range N).filter (fitB T d H R W K ct)).length ∧ rowIs (m'.1 71) 0 (((List.range N).filter (fitB T d H R W K ct)).map nI) := by
  intro k
  induction k with
  | zero =>
    intro i hi m f hf h hL h8 hr
    obtain ⟨f, rfl⟩ : ∃ g, f = g + 1 := ⟨f - 1, by omega⟩
    have ei : i = ct := by omega
    subst ei
    have := hL.1
    exact ⟨m, by rw [gX5_lookAt, hL.2.1, if_pos (nI_le (by omega) (by omega))], keeps.rfl', fun _ _ => rfl, h8, hr⟩
  | succ k ih =>
    intro i hi m f hf h hL h8 hr
    obtain ⟨f, rfl⟩ : ∃ g, f = g + 1 := ⟨f - 1, by omega⟩
    have h30 := hL.1
    obtain ⟨a1, a2, a3, a4, a5, a6, a7⟩ := hL.2.2 i (by omega)
    have hlen : ((List.range N).filter (fitB T d H R W K i)).length ≤ 128 := by
      have := List.length_filter_le (fitB T d H R W K i) (List.range N)
      rw [List.length_range] at this
      omega
    have hmem : ∀ v, v ∈ (List.range N).filter (fitB T d H R W K i) → v < 128 := fun v hv => by
      have := List.mem_range.mp (List.mem_filter.mp hv).1
      omega
    have skip : ¬ K i = true → ∃ m', gX5_lookAt f 1 x (nI (i + 1)) m = some m' ∧ keeps [65, 71] m m' ∧ (∀ s, s ≠ 8 → m'.1 65 s = m.1 65 s) ∧ m'.1 65 8 = nI ((List.range N).filter (fitB T d H R W K ct)).length ∧ rowIs (m'.1 71) 0 (((List.range N).filter (fitB T d H R W K ct)).map nI) := fun c => by
      rw [fit_skip c] at h8 hr
      exact ih (i + 1) (by omega) m f (by omega) h hL h8 hr
    have take : K i = true → ∃ m', (cV (fX5_dropAgainst m (nI i) (tP T)) fun m7 => gX5_lookAt f 1 x (nI (i + 1)) m7) = some m' ∧ keeps [65, 71] m m' ∧ (∀ s, s ≠ 8 → m'.1 65 s = m.1 65 s) ∧ m'.1 65 8 = nI ((List.range N).filter (fitB T d H R W K ct)).length ∧ rowIs (m'.1 71) 0 (((List.range N).filter (fitB T d H R W K ct)).map nI) := fun c => by
      obtain ⟨m1, b1, b2, b3, b4, b5⟩ := c_drop hT h hL (show i < ct by omega) hlen hmem h8 hr
      rw [fit_step c] at b4 b5
      rw [b1, cV_some]
      obtain ⟨m', z1, z2, z3, z4, z5⟩ := ih (i + 1) (by omega) m1 f (by omega) (h.kp b2 (by simp <;> omega)) (hL.kp b2 (b3 0 (by omega))) b4 b5
      exact ⟨m', z1, b2.trans z2, fun s hs => by rw [z3 s hs, b3 s hs], z4, z5⟩
    have hrd : ∀ (r : Nat) (Q : Int32 → Option Mem), rd (m.1 r) 30 (nI i) Q = Q (m.1 r i) := fun r Q => rd_ok (by omega) (by omega)
    rw [gX5_lookAt, hL.2.1, if_neg (nI_ge (by omega) (by omega)), h.1.1.2.1, nI_1]
    simp only [hrd]
    rcases a7 with ⟨e, c⟩ | ⟨e, c⟩
    · rw [if_pos e]
      by_cases c1 : x < m.1 69 i
      · rw [if_pos c1]; exact skip (fun z => c.mp z c1)
      · rw [if_neg c1]; exact take (c.mpr c1)
    · rw [if_neg e]
      by_cases c1 : x < m.1 69 i
      · rw [if_pos c1]
        have := skip (fun z => (c.mp z).1 c1)
        split <;> exact this
      · rw [if_neg c1]
        by_cases c2 : x < m.1 70 i
        · rw [if_pos c2]; exact take (c.mpr ⟨c1, c2⟩)
        · rw [if_neg c2, if_neg c1]; exact skip (fun z => c2 (c.mp z).2)
theorem c_look (hT : TOK T) {dt ct : Nat} {H R W : Nat → Nat} {x : Int32} {K : Nat → Bool} (h : CB T sd q m) (hd : m.1 27 6 = nI dt) (hl : dt < 365) (hL : LiC ct H R W x K m) : ∃ m', fX5_lookAt m x = some m' ∧ keeps [tP T + 14, tP T + 17, tP T + 20, 53, 54, 55, 65, 71] m m' ∧ (∀ s, s ≠ 8 → m'.1 65 s = m.1 65 s) ∧ CD T dt sd q m' ∧ m'.1 65 8 = nI ((List.range (2 ^ tnp T)).filter (fitB T dt H R W K ct)).length ∧ rowIs (m'.1 71) 0 (((List.range (2 ^ tnp T)).filter (fitB T dt H R W K ct)).map nI) := by
  have h7 := hT.1
  have hN := pow_np h7
  have h30 := hL.1
  have hP := h.1.pl
  obtain ⟨m1, a1, a2, a3⟩ := today_ok hT h hd hl
  unfold fX5_lookAt
  rw [a1, cR_some, gEq_ok, gPl_T a3.1.1, a3.1.1.2.1, a3.1.1.2.2.2.1, sh_pow (tnp T) (by omega), pt_eq]
  have hmin : imin (nI (2 ^ tnp T)) 128 = nI (2 ^ tnp T) := by
    unfold imin
    rw [if_neg (show ¬ (128 : Int32) < nI (2 ^ tnp T) from nI_nlt (a := 128) hN (by omega))]
  rw [hmin]
  have kp1 : keeps [65, 71] m1 (sI m1 65 8 (nI (2 ^ tnp T))) := keeps.rfl'.sI (by simp)
  obtain ⟨m2, f2, b0, b1, b2, b3⟩ := lookF hN x (2 ^ tnp T) 0 (by omega) (sI m1 65 8 (nI (2 ^ tnp T))) 5000 (by omega) (by rw [sI_row, upd_at]) trivial
  rw [show gX5_lookAt 5000 0 x 0 (sI m1 65 8 (nI (2 ^ tnp T))) = _ from b1]
  have kp2 : keeps [65, 71] m1 m2 := kp1.trans (b2.mono (by simp))
  have e65 : ∀ s, s ≠ 8 → m2.1 65 s = m1.1 65 s := fun s hs => by rw [b2.2 65 (by simp), sI_row, upd_ne hs]
  have hL1 : LiC ct H R W x K m1 := by
    refine ⟨hL.1, by rw [a2.2 65 (by simp <;> omega)]; exact hL.2.1, fun i hi => ?_⟩
    rw [a2.2 66 (by simp <;> omega), a2.2 67 (by simp <;> omega), a2.2 68 (by simp <;> omega), a2.2 69 (by simp <;> omega), a2.2 70 (by simp <;> omega)]
    exact hL.2.2 i hi
  have hall : (List.range (2 ^ tnp T)).filter (fitB T dt H R W K 0) = List.range (2 ^ tnp T) := List.filter_eq_self.mpr (fun v _ => rfl)
  obtain ⟨m3, z1, z2, z3, z4, z5⟩ := lookG hT (sd := sd) (q := q) (d := dt) (x := x) (K := K) (H := H) (R := R) (W := W) hN ct 0 (by omega) m2 f2 (by omega) (a3.kp kp2 (by simp <;> omega)) (hL1.kp kp2 (e65 0 (by omega))) (by rw [hall, List.length_range, b2.2 65 (by simp), sI_row, upd_at]) (by rw [hall]; exact b3)
  refine ⟨m3, z1, ?_, fun s hs => by rw [z3 s hs, e65 s hs, a2.2 65 (by simp <;> omega)], a3.kp (kp2.trans z2) (by simp <;> omega), z4, z5⟩
  exact (a2.mono (by simp <;> omega)).trans ((kp2.trans z2).mono (by simp <;> omega))
def finS (n s : Nat) : Int32 := if nI n = 0 then -1 else if nI s = 0 then 0 else if nI s = nI n then 1 else -2
theorem sideG {p n : Nat} (hp : p < 7) (hn : n ≤ 128) (h8 : m.1 65 8 = nI n) : ∀ (rest : List Nat) (i a f : Nat), i + rest.length = n → rest.length < f → (∀ v, v ∈ rest → v < 128) → rowIs (m.1 71) i (rest.map nI) → gX5_sideOf m f (nI p) (nI a) (nI i) = some (finS n (a + sumL (fun v => v / 2 ^ p % 2) rest)) := by
  intro rest
  induction rest with
  | nil =>
    intro i a f hi hf hv hr
    obtain ⟨f, rfl⟩ : ∃ g, f = g + 1 := ⟨f - 1, by omega⟩
    rw [List.length_nil] at hi
    rw [gX5_sideOf, h8, if_pos (nI_le (by omega) (by omega)), sumL, Nat.add_zero, finS]
    rw [apply_ite some, apply_ite some, apply_ite some]
  | cons v rest ih =>
    intro i a f hi hf hv hr
    obtain ⟨f, rfl⟩ : ∃ g, f = g + 1 := ⟨f - 1, by omega⟩
    rw [List.length_cons] at hi hf
    rw [List.map_cons] at hr
    have := hv v (by simp)
    rw [gX5_sideOf, h8, if_neg (nI_ge (by omega) (by omega)), rd_ok (by omega) (by omega), hr.1, nm_eq, bitN (by omega) (by omega), nI_add, nI_1, ih (i + 1) _ f (by omega) (by omega) (fun u hu => hv u (by simp [hu])) hr.2, sumL, Nat.add_assoc]
theorem leftG (hT : TOK T) {w h n : Nat} (hh : h < 24) (hn : n ≤ 128) (h8 : m.1 65 8 = nI n) : ∀ (rest : List Nat) (i a f : Nat), i + rest.length = n → rest.length < f → (∀ v, v ∈ rest → v < 128) → rowIs (m.1 71) i (rest.map nI) → gX5_mostLeft f (nI (homeN T w)) (nI (awN T d 0 h)) (nI a) (nI i) m = some (imax (nI (a + sumL (fun v => lbN T d w v h) rest)) (nI n - nI (a + sumL (fun v => lbN T d w v h) rest)), m) := by
  intro rest
  induction rest with
  | nil =>
    intro i a f hi hf hv hr
    obtain ⟨f, rfl⟩ : ∃ g, f = g + 1 := ⟨f - 1, by omega⟩
    rw [List.length_nil] at hi
    rw [gX5_mostLeft, h8, if_pos (nI_le (by omega) (by omega)), sumL, Nat.add_zero]
  | cons v rest ih =>
    intro i a f hi hf hv hr
    obtain ⟨f, rfl⟩ : ∃ g, f = g + 1 := ⟨f - 1, by omega⟩
    rw [List.length_cons] at hi hf
    rw [List.map_cons] at hr
    have := hv v (by simp)
    have hlb := lbN_lt T d w v h
    rw [gX5_mostLeft, h8, if_neg (nI_ge (by omega) (by omega)), rd_ok (by omega) (by omega), hr.1, isLit_ok hT d (hv v (by simp)) hh, cP_some, nm_eq, nm_eq, nI_1, nI_1, sumL, ← Nat.add_assoc]
    rcases (show lbN T d w v h = 0 ∨ lbN T d w v h = 1 by omega) with e | e
    · rw [e, if_pos (show nI 0 = 0 from rfl), add_z, Nat.add_zero]
      exact ih (i + 1) a f (by omega) (by omega) (fun u hu => hv u (by simp [hu])) hr.2
    · rw [e, if_neg (show ¬ nI 1 = 0 by decide)]
      exact ih (i + 1) (a + 1) f (by omega) (by omega) (fun u hu => hv u (by simp [hu])) hr.2
def ownN (n t : Nat) : Nat := if t < n - t then n - t else t
theorem own_c {n t : Nat} (ht : t ≤ n) (hn : n ≤ 128) : imax (nI t) (nI n - nI t) = nI (ownN n t) := by
  unfold imax ownN
  rw [pk_sub ht]
  by_cases c : t < n - t
  · rw [if_pos (nI_lt c (by omega)), if_pos c]
  · rw [if_neg (nI_nlt (by omega) (by omega)), if_neg c]
theorem own_m {n t : Nat} (ht : t ≤ n) (hn : n ≤ 128) {β : Type} (A : Int32 → β) : (if nI t ≤ nI n - nI t then A (nI n - nI t) else A (nI t)) = A (nI (ownN n t)) := by
  rw [pk_sub ht]
  unfold ownN
  by_cases e : t ≤ n - t
  · rw [if_pos (nI_le e (by omega))]
    by_cases e2 : t < n - t
    · rw [if_pos e2]
    · rw [if_neg e2, show n - t = t by omega]
  · rw [if_neg (nI_ge (by omega) (by omega)), if_neg (by omega)]
theorem c_left (hT : TOK T) (h : CD T d sd q m) (hd : m.1 27 6 = nI d) {L : List Nat} (hn : L.length ≤ 128) (h8 : m.1 65 8 = nI L.length) (hv : ∀ v, v ∈ L → v < 128) (hr : rowIs (m.1 71) 0 (L.map nI)) {w hh : Nat} (hw : w < 10) (h24 : hh < 24) : fX5_mostLeft m (nI w) (nI hh) = some (nI (ownN L.length (sumL (fun v => lbN T d w v hh) L)), m) := by
  have ht : fX9_today m = some (53, m) := by unfold fX9_today; rw [hd, h.again, cR_some, gEq_ok]
  have hs := sumL_le (f := fun v => lbN T d w v hh) (fun v => lbN_lt T d w v hh) L
  have hw0 : fX2_wakes m (0 : Int32) (nI hh) = some (nI (awN T d 0 hh)) := h.wakes (s := 0) (by omega) h24
  unfold fX5_mostLeft
  rw [gPl_T h.1.1, h.1.1.2.1, c_lives hT h.1.1 hw, cP_some, ht, cR_some, gEq_ok, hw0, cP_some]
  have := leftG (d := d) (w := w) (h := hh) (n := L.length) hT h24 hn h8 L 0 0 5000 (by omega) (by omega) hv hr
  rw [show gX5_mostLeft 5000 (nI (homeN T w)) (nI (awN T d 0 hh)) 0 0 m = _ from this, Nat.zero_add, own_c hs hn]
def LiM (ct : Nat) (H R W : Nat → Nat) (x : Int32) (K : Nat → Bool) (m : Mem) : Prop := ct ≤ 30 ∧ m.1 0 69 = nI ct ∧ ∀ i, i < ct → H i < 10 ∧ m.1 39 i = nI (H i) ∧ R i < 24 ∧ m.1 40 i = nI (R i) ∧ W i < 2 ∧ m.1 43 i = nI (W i) ∧ ((m.1 42 i < 0 ∧ (K i = true ↔ ¬ x < m.1 41 i)) ∨ (¬ m.1 42 i < 0 ∧ (K i = true ↔ ¬ x < m.1 41 i ∧ x < m.1 42 i)))
theorem LiM.kp {ct : Nat} {H R W : Nat → Nat} {x : Int32} {K : Nat → Bool} {m m' : Mem} {Rs : List Nat} (h : LiM ct H R W x K m) (hk : keeps Rs m m') (hR : ∀ r, (r = 0 ∨ 39 ≤ r ∧ r ≤ 43) → r ∉ Rs) : LiM ct H R W x K m' := by
  refine ⟨h.1, by rw [hk.2 0 (hR 0 (by omega))]; exact h.2.1, fun i hi => ?_⟩
  rw [hk.2 39 (hR 39 (by omega)), hk.2 40 (hR 40 (by omega)), hk.2 41 (hR 41 (by omega)), hk.2 42 (hR 42 (by omega)), hk.2 43 (hR 43 (by omega))]
  exact h.2.2 i hi
theorem MD.kp2 (h : MD T d sd q m) {m' : Mem} (hk : keeps [44, 45] m m') : MD T d sd q m' := by
  refine ⟨h.1.kp hk (by simp <;> omega), ?_, ?_, ?_, ?_⟩
  · rw [hk.2 35 (by simp)]; exact h.2.1
  · rw [hk.2 36 (by simp)]; exact h.2.2.1
  · rw [hk.2 34 (by simp)]; exact h.2.2.2.1
  · rw [hk.2 34 (by simp)]; exact h.2.2.2.2
theorem m_laG (hT : TOK T) (h : MD T d sd q m) {w v : Nat} (hw : w < 10) (hv : v < 128) : ∀ (k i : Nat), i + k = tnp T → ∀ f, k < f → gX12_lightsAt m f (nI w) (nI v) (nI (laN T d w v i)) (nI i) = some (nI (laN T d w v (tnp T))) := by
  have h7 := hT.1
  intro k
  induction k with
  | zero =>
    intro i hi f hf
    obtain ⟨f, rfl⟩ : ∃ g, f = g + 1 := ⟨f - 1, by omega⟩
    have ei : i = tnp T := by omega
    subst ei
    rw [gX12_lightsAt, h.1.1, if_pos (nI_le (by omega) (by omega))]
  | succ k ih =>
    intro i hi f hf
    obtain ⟨f, rfl⟩ : ∃ g, f = g + 1 := ⟨f - 1, by omega⟩
    have hth := (hT.2.2.2.2.1 i (by omega)).1
    rw [gX12_lightsAt, h.1.1, if_neg (nI_ge (by omega) (by omega)), rd_ok (by omega) (by omega), (h.1.2.2.2.2.1 i (by omega)).1, bitN (by omega) (by omega), rd_ok (by omega) (by omega), nm_eq, nm_eq, nI_1, h.2.1 _ (by omega), hrs]
    by_cases c : th T i = w
    · rw [if_pos (by rw [c]), fa_or]
      have e : laN T d w v (i + 1) = laN T d w v i ||| hrsN (dwn T d) (dsk T d) (v / 2 ^ i % 2) := by rw [laN, if_pos c]
      rw [← e]
      exact ih (i + 1) (by omega) f (by omega)
    · rw [if_neg (fun e => c ((nI_eq (by omega) (by omega)).mp e)), or_z]
      have e : laN T d w v (i + 1) = laN T d w v i := by rw [laN, if_neg c, Nat.or_zero]
      rw [← e]
      exact ih (i + 1) (by omega) f (by omega)
theorem m_la (hT : TOK T) (h : MD T d sd q m) {w v : Nat} (hw : w < 10) (hv : v < 128) : fX12_lightsAt m (nI w) (nI v) = some (nI (laN T d w v (tnp T))) := m_laG hT h hw hv (tnp T) 0 (by omega) 5000 (by have := hT.1; omega)
theorem m_fitG (hT : TOK T) (h : MD T d sd q m) {ct v : Nat} {H R W : Nat → Nat} {x : Int32} {K : Nat → Bool} (hL : LiM ct H R W x K m) (hv : v < 128) : ∀ (k i : Nat), i + k = ct → ∀ f, k + 1 < f → fitB T d H R W K i v = true → gX12_isFit m f (nI v) x 1 (nI i) = some (nI (if fitB T d H R W K ct v = true then 1 else 0)) := by
  have h30 := hL.1
  intro k
  induction k with
  | zero =>
    intro i hi f hf hb
    obtain ⟨f, rfl⟩ : ∃ g, f = g + 1 := ⟨f - 1, by omega⟩
    have ei : i = ct := by omega
    subst ei
    rw [gX12_isFit, hL.2.1, if_pos (nI_le (by omega) (by omega)), tz_1, if_pos hb]
    rfl
  | succ k ih =>
    intro i hi f hf hb
    obtain ⟨f, rfl⟩ : ∃ g, f = g + 1 := ⟨f - 1, by omega⟩
    obtain ⟨a1, a2, a3, a4, a5, a6, a7⟩ := hL.2.2 i (by omega)
    have hlt := laN_lt T d (H i) v (tnp T)
    have skip : ¬ K i = true → gX12_isFit m f (nI v) x 1 (nI (i + 1)) = some (nI (if fitB T d H R W K ct v = true then 1 else 0)) := fun c => by
      refine ih (i + 1) (by omega) f (by omega) ?_
      rw [fitB, hb, show K i = false by simpa using c]
      rfl
    have no : K i = true → ¬ lbN T d (H i) v (R i) = W i → gX12_isFit m f (nI v) x 0 (nI (i + 1)) = some (nI (if fitB T d H R W K ct v = true then 1 else 0)) := fun c c2 => by
      obtain ⟨f, rfl⟩ : ∃ g, f = g + 1 := ⟨f - 1, by omega⟩
      have hf0 : fitB T d H R W K (i + 1) v = false := by rw [fitB, c, decide_eq_false c2]; simp
      have := fitB_no hf0 k
      rw [show i + 1 + k = ct by omega] at this
      rw [gX12_isFit, this, tz_0, if_pos (show (0 : Int32) = 0 from rfl), if_neg (show ¬ false = true by decide)]
      split <;> rfl
    have yes : K i = true → lbN T d (H i) v (R i) = W i → gX12_isFit m f (nI v) x 1 (nI (i + 1)) = some (nI (if fitB T d H R W K ct v = true then 1 else 0)) := fun c c2 => by
      refine ih (i + 1) (by omega) f (by omega) ?_
      rw [fitB, hb, decide_eq_true c2]
      simp
    have hrd : ∀ (r : Nat) (Q : Int32 → Option Int32), rd (m.1 r) 30 (nI i) Q = Q (m.1 r i) := fun r Q => rd_ok (by omega) (by omega)
    have take : K i = true → (cP (fX12_lightsAt m (nI (H i)) (nI v)) fun r8 => (if ((r8 >>> (nI (R i) &&& 31)) &&& (1 : Int32)) = (1 : Int32) then (if (1 : Int32) = nI (W i) then (gX12_isFit m f (nI v) x (1 : Int32) (nI (i + 1))) else (gX12_isFit m f (nI v) x (0 : Int32) (nI (i + 1)))) else (if (0 : Int32) = nI (W i) then (gX12_isFit m f (nI v) x (1 : Int32) (nI (i + 1))) else (gX12_isFit m f (nI v) x (0 : Int32) (nI (i + 1)))))) = some (nI (if fitB T d H R W K ct v = true then 1 else 0)) := fun c => by
      have hlb := lbN_lt T d (H i) v (R i)
      have hbit : (nI (laN T d (H i) v (tnp T)) >>> (nI (R i) &&& 31)) &&& (1 : Int32) = nI (lbN T d (H i) v (R i)) := bitN (by omega) (by omega)
      rw [m_la hT h a1 hv, cP_some, hbit]
      rcases (show lbN T d (H i) v (R i) = 0 ∨ lbN T d (H i) v (R i) = 1 by omega) with e | e
      · rw [e, if_neg (show ¬ nI 0 = (1 : Int32) by decide)]
        by_cases c2 : W i = 0
        · rw [if_pos (by rw [c2]; rfl)]; exact yes c (by omega)
        · rw [if_neg (fun z => c2 ((nI_eq0 (by omega)).mp z.symm))]; exact no c (by omega)
      · rw [e, if_pos (show nI 1 = (1 : Int32) from rfl)]
        by_cases c2 : W i = 1
        · rw [if_pos (by rw [c2]; rfl)]; exact yes c (by omega)
        · rw [if_neg (fun z => c2 ((nI_eq (b := 1) (by omega) (by omega)).mp z.symm))]; exact no c (by omega)
    rw [gX12_isFit, hL.2.1, if_neg (nI_ge (by omega) (by omega)), if_neg (show ¬ (1 : Int32) = 0 by decide), nI_1]
    simp only [hrd, a2, a4, a6]
    rcases a7 with ⟨e, c⟩ | ⟨e, c⟩
    · by_cases c1 : x < m.1 41 i
      · rw [if_pos c1]; exact skip (fun z => c.mp z c1)
      · rw [if_neg c1, if_pos e]; exact take (c.mpr c1)
    · by_cases c1 : x < m.1 41 i
      · rw [if_pos c1]; exact skip (fun z => (c.mp z).1 c1)
      · rw [if_neg c1, if_neg e]
        by_cases c2 : x < m.1 42 i
        · rw [if_pos c2]; exact take (c.mpr ⟨c1, c2⟩)
        · rw [if_neg c2]; exact skip (fun z => c2 (c.mp z).2)
theorem m_lf0 (x1 x2 : Int32) : ∀ (k i : Nat), i + k = 7 → ∀ (m : Mem) (f : Nat), k < f → (∀ j, j < i → m.1 44 j = 0) → ∃ m' f', f = f' + (k + 1) ∧ gX12_layFits f 0 x1 x2 (nI i) 0 0 m = gX12_layFits f' 1 x1 x2 0 0 0 m' ∧ keeps [44] m m' ∧ ∀ j, j < 7 → m'.1 44 j = 0 := by
  intro k
  induction k with
  | zero =>
    intro i hi m f hf hz
    obtain ⟨f, rfl⟩ : ∃ g, f = g + 1 := ⟨f - 1, by omega⟩
    have ei : i = 7 := by omega
    subst ei
    exact ⟨m, f, rfl, by rw [gX12_layFits, if_pos (by decide)], keeps.rfl', hz⟩
  | succ k ih =>
    intro i hi m f hf hz
    obtain ⟨f, rfl⟩ : ∃ g, f = g + 1 := ⟨f - 1, by omega⟩
    rw [gX12_layFits, if_neg (show ¬ (7 : Int32) ≤ nI i from nI_ge (b := 7) (by omega) (by omega)), wr_ok (by omega) (by omega), nI_1]
    obtain ⟨m', f', a0, a1, a2, a3⟩ := ih (i + 1) (by omega) (sI m 44 i 0) f (by omega) (fun j hj => by
      rw [sI_row]
      by_cases c : j = i
      · rw [c, upd_at]
      · rw [upd_ne c]; exact hz j (by omega))
    exact ⟨m', f', by omega, a1, (keeps.rfl'.sI (by simp)).trans a2, a3⟩
theorem m_lf1 (x1 x2 : Int32) : ∀ (k i : Nat), i + k = 24 → ∀ (m : Mem) (f : Nat), k < f → (∀ j, j < i → m.1 45 j = 0) → ∃ m' f', f = f' + (k + 1) ∧ gX12_layFits f 1 x1 x2 (nI i) 0 0 m = gX12_layFits f' 2 x1 x2 0 0 0 m' ∧ keeps [45] m m' ∧ ∀ j, j < 24 → m'.1 45 j = 0 := by
  intro k
  induction k with
  | zero =>
    intro i hi m f hf hz
    obtain ⟨f, rfl⟩ : ∃ g, f = g + 1 := ⟨f - 1, by omega⟩
    have ei : i = 24 := by omega
    subst ei
    exact ⟨m, f, rfl, by rw [gX12_layFits, if_pos (by decide)], keeps.rfl', hz⟩
  | succ k ih =>
    intro i hi m f hf hz
    obtain ⟨f, rfl⟩ : ∃ g, f = g + 1 := ⟨f - 1, by omega⟩
    rw [gX12_layFits, if_neg (show ¬ (24 : Int32) ≤ nI i from nI_ge (b := 24) (by omega) (by omega)), wr_ok (by omega) (by omega), nI_1]
    obtain ⟨m', f', a0, a1, a2, a3⟩ := ih (i + 1) (by omega) (sI m 45 i 0) f (by omega) (fun j hj => by
      rw [sI_row]
      by_cases c : j = i
      · rw [c, upd_at]
      · rw [upd_ne c]; exact hz j (by omega))
    exact ⟨m', f', by omega, a1, (keeps.rfl'.sI (by simp)).trans a2, a3⟩
theorem m_lf3 (hT : TOK T) {v : Nat} (hv : v < 128) (x1 x2 x3 : Int32) : ∀ (k i : Nat), i + k = tnp T → ∀ (m : Mem) (f : Nat), k < f → TM T m → ∃ m' f', f = f' + (k + 1) ∧ gX12_layFits f 3 x1 x2 x3 (nI v) (nI i) m = gX12_layFits f' 4 x1 x2 x3 (nI v) 0 m' ∧ keeps [44] m m' ∧ (∀ j, j < i → m'.1 44 j = m.1 44 j) ∧ ∀ j, i ≤ j → j < tnp T → m'.1 44 j = m.1 44 j + nI (v / 2 ^ j % 2) := by
  have h7 := hT.1
  intro k
  induction k with
  | zero =>
    intro i hi m f hf h
    obtain ⟨f, rfl⟩ : ∃ g, f = g + 1 := ⟨f - 1, by omega⟩
    exact ⟨m, f, rfl, by rw [gX12_layFits, h.1, if_pos (nI_le (by omega) (by omega))], keeps.rfl', fun _ _ => rfl, fun j a b => by omega⟩
  | succ k ih =>
    intro i hi m f hf h
    obtain ⟨f, rfl⟩ : ∃ g, f = g + 1 := ⟨f - 1, by omega⟩
    rw [gX12_layFits, h.1, if_neg (nI_ge (by omega) (by omega)), rd_ok (by omega) (by omega), wr_ok (by omega) (by omega), bitN (by omega) (by omega), nI_1]
    have kp : keeps [44] m (sI m 44 i (m.1 44 i + nI (v / 2 ^ i % 2))) := keeps.rfl'.sI (by simp)
    obtain ⟨m', f', a0, a1, a2, a3, a4⟩ := ih (i + 1) (by omega) _ f (by omega) (h.kp kp (by simp <;> omega))
    refine ⟨m', f', by omega, a1, kp.trans a2, fun j hj => by rw [a3 j (by omega), sI_row, upd_ne (by omega)], fun j x y => ?_⟩
    by_cases c : j = i
    · rw [c, a3 i (by omega), sI_row, upd_at]
    · rw [a4 j (by omega) y, sI_row, upd_ne c]
theorem m_lf4 (hT : TOK T) {w v : Nat} (hw : w < 10) (hv : v < 128) (x2 x3 : Int32) : ∀ (k i : Nat), i + k = 24 → ∀ (m : Mem) (f : Nat), k < f → MD T d sd q m → ∃ m' f', f = f' + (k + 1) ∧ gX12_layFits f 4 (nI w) x2 x3 (nI v) (nI i) m = gX12_layFits f' 2 (nI w) x2 x3 (nI (v + 1)) 0 m' ∧ keeps [45] m m' ∧ (∀ j, j < i → m'.1 45 j = m.1 45 j) ∧ ∀ j, i ≤ j → j < 24 → m'.1 45 j = m.1 45 j + nI (lbN T d w v j) := by
  intro k
  induction k with
  | zero =>
    intro i hi m f hf h
    obtain ⟨f, rfl⟩ : ∃ g, f = g + 1 := ⟨f - 1, by omega⟩
    have ei : i = 24 := by omega
    subst ei
    exact ⟨m, f, rfl, by rw [gX12_layFits, if_pos (by decide), nI_1], keeps.rfl', fun _ _ => rfl, fun j a b => by omega⟩
  | succ k ih =>
    intro i hi m f hf h
    obtain ⟨f, rfl⟩ : ∃ g, f = g + 1 := ⟨f - 1, by omega⟩
    have hlt := laN_lt T d w v (tnp T)
    have hbit : (nI (laN T d w v (tnp T)) >>> (nI i &&& 31)) &&& (1 : Int32) = nI (lbN T d w v i) := bitN (by omega) (by omega)
    rw [gX12_layFits, if_neg (show ¬ (24 : Int32) ≤ nI i from nI_ge (b := 24) (by omega) (by omega)), rd_ok (by omega) (by omega), m_la hT h hw hv, cP_some, wr_ok (by omega) (by omega), hbit, nI_1]
    have kp : keeps [45] m (sI m 45 i (m.1 45 i + nI (lbN T d w v i))) := keeps.rfl'.sI (by simp)
    obtain ⟨m', f', a0, a1, a2, a3, a4⟩ := ih (i + 1) (by omega) _ f (by omega) (h.kp2 (kp.mono (by simp)))
    refine ⟨m', f', by omega, a1, kp.trans a2, fun j hj => by rw [a3 j (by omega), sI_row, upd_ne (by omega)], fun j x y => ?_⟩
    by_cases c : j = i
    · rw [c, a3 i (by omega), sI_row, upd_at]
    · rw [a4 j (by omega) y, sI_row, upd_ne c]
theorem m_lf2 (hT : TOK T) {w ct : Nat} (hw : w < 10) {H R W : Nat → Nat} {x : Int32} {K : Nat → Bool} : ∀ (k v : Nat), v + k = 2 ^ tnp T → ∀ (m : Mem) (f : Nat), 34 * k < f → MD T d sd q m → LiM ct H R W x K m → (∀ j, j < tnp T → m.1 44 j = nI (fb_sm (fun u => if fitB T d H R W K ct u = true then u / 2 ^ j % 2 else 0) v)) → (∀ j, j < 24 → m.1 45 j = nI (fb_sm (fun u => if fitB T d H R W K ct u = true then lbN T d w u j else 0) v)) → ∃ m', gX12_layFits f 2 (nI w) x (nI (fb_ct (fitB T d H R W K ct) v)) (nI v) 0 m = some (nI (fb_ct (fitB T d H R W K ct) (2 ^ tnp T)), m') ∧ keeps [44, 45] m m' ∧ (∀ j, j < tnp T → m'.1 44 j = nI (fb_sm (fun u => if fitB T d H R W K ct u = true then u / 2 ^ j % 2 else 0) (2 ^ tnp T))) ∧ ∀ j, j < 24 → m'.1 45 j = nI (fb_sm (fun u => if fitB T d H R W K ct u = true then lbN T d w u j else 0) (2 ^ tnp T)) := by
  have h7 := hT.1
  have hN := pow_np h7
  intro k
  induction k with
  | zero =>
    intro v hv m f hf h hL r1 r2
    obtain ⟨f, rfl⟩ : ∃ g, f = g + 1 := ⟨f - 1, by omega⟩
    have ei : v = 2 ^ tnp T := by omega
    subst ei
    exact ⟨m, by rw [gX12_layFits, h.1.1, sh_pow (tnp T) (by omega), if_pos (nI_le (by omega) (by omega))], keeps.rfl', r1, r2⟩
  | succ k ih =>
    intro v hv m f hf h hL r1 r2
    obtain ⟨f, rfl⟩ : ∃ g, f = g + 1 := ⟨f - 1, by omega⟩
    have hv8 : v < 128 := by omega
    have h30 := hL.1
    have hfit : fX12_isFit m (nI v) x = _ := m_fitG hT h hL hv8 ct 0 (by omega) 5000 (by omega) rfl
    rw [gX12_layFits, h.1.1, sh_pow (tnp T) (by omega), if_neg (nI_ge (by omega) (by omega)), hfit, cP_some]
    by_cases c : fitB T d H R W K ct v = true
    · rw [if_pos c, if_neg (show ¬ nI 1 = 0 by decide), nI_1]
      obtain ⟨m1, f1, a0, a1, a2, a3, a4⟩ := m_lf3 hT hv8 (nI w) x (nI (fb_ct (fitB T d H R W K ct) v + 1)) (tnp T) 0 (by omega) m f (by omega) h.1
      have h1 := h.kp2 (a2.mono (by simp))
      obtain ⟨m2, f2, b0, b1, b2, b3, b4⟩ := m_lf4 hT hw hv8 x (nI (fb_ct (fitB T d H R W K ct) v + 1)) 24 0 (by omega) m1 f1 (by omega) h1
      rw [show gX12_layFits f 3 (nI w) x (nI (fb_ct (fitB T d H R W K ct) v + 1)) (nI v) 0 m = _ from a1, show gX12_layFits f1 4 (nI w) x (nI (fb_ct (fitB T d H R W K ct) v + 1)) (nI v) 0 m1 = _ from b1]
      have kp : keeps [44, 45] m m2 := (a2.mono (by simp)).trans (b2.mono (by simp))
      have ec : fb_ct (fitB T d H R W K ct) v + 1 = fb_ct (fitB T d H R W K ct) (v + 1) := by rw [fb_ct_succ, if_pos c]
      rw [ec]
      obtain ⟨m', z1, z2, z3, z4⟩ := ih (v + 1) (by omega) m2 f2 (by omega) (h.kp2 kp) (hL.kp kp (by simp <;> omega)) (fun j hj => by rw [b2.2 44 (by simp), a4 j (by omega) hj, r1 j hj, nI_add, fb_sm_succ, if_pos c]) (fun j hj => by rw [b4 j (by omega) hj, a2.2 45 (by simp), r2 j hj, nI_add, fb_sm_succ, if_pos c])
      exact ⟨m', z1, kp.trans z2, z3, z4⟩
    · rw [if_neg c, if_pos (show nI 0 = 0 from rfl), nI_1]
      have ec : fb_ct (fitB T d H R W K ct) v = fb_ct (fitB T d H R W K ct) (v + 1) := by rw [fb_ct_succ, if_neg c]; rfl
      rw [ec]
      exact ih (v + 1) (by omega) m f (by omega) h hL (fun j hj => by rw [r1 j hj, fb_sm_succ, if_neg c]; rfl) (fun j hj => by rw [r2 j hj, fb_sm_succ, if_neg c]; rfl)
end
theorem RL_.li {c m : Mem} (h : RL_ c m) (x : Int32) : ∃ (ct : Nat) (H R W : Nat → Nat) (K : Nat → Bool), LiC ct H R W x K c ∧ LiM ct H R W x K m := by
  obtain ⟨ct, tm, g1, g2, g3, g4, g5, g6, g7⟩ := h
  have hall : ∀ i, i < ct → (c.1 66 i).toNatClampNeg < 10 ∧ c.1 66 i = nI (c.1 66 i).toNatClampNeg ∧ m.1 39 i = c.1 66 i ∧ (c.1 67 i).toNatClampNeg < 24 ∧ c.1 67 i = nI (c.1 67 i).toNatClampNeg ∧ m.1 40 i = c.1 67 i ∧ (c.1 68 i).toNatClampNeg < 2 ∧ c.1 68 i = nI (c.1 68 i).toNatClampNeg ∧ m.1 43 i = c.1 68 i ∧ m.1 41 i = c.1 69 i ∧ m.1 42 i = c.1 70 i ∧ ((c.1 70 i = -1 ∧ c.1 70 i < 0) ∨ (¬ c.1 70 i = -1 ∧ ¬ c.1 70 i < 0)) := by
    intro i hi
    obtain ⟨⟨h, a1, a2, a3⟩, ⟨r, b1, b2, b3⟩, e1, e2, ⟨t, t1, t2, t3⟩, u1, u2⟩ := g7 i hi
    refine ⟨by rw [a2, nI_clamp (by omega)]; exact a1, by rw [a2, nI_clamp (by omega)], by rw [a2, a3], by rw [b2, nI_clamp (by omega)]; exact b1, by rw [b2, nI_clamp (by omega)], by rw [b2, b3], ?_, ?_, e2, by rw [t2, t3], u1.symm, ?_⟩
    · rcases e1 with e | e <;> rw [e] <;> decide
    · rcases e1 with e | e <;> rw [e] <;> decide
    · rw [u1]
      rcases u2 with e | ⟨t', u3, e⟩
      · rw [e]; exact Or.inl ⟨rfl, by decide⟩
      · rw [e]; exact Or.inr ⟨fun z => nI_lt0 (k := t') (by omega) (by rw [z]; decide), nI_lt0 (by omega)⟩
  refine ⟨ct, fun i => (c.1 66 i).toNatClampNeg, fun i => (c.1 67 i).toNatClampNeg, fun i => (c.1 68 i).toNatClampNeg, fun i => decide (¬ x < c.1 69 i ∧ (c.1 70 i = -1 ∨ x < c.1 70 i)), ⟨g1, g3, fun i hi => ?_⟩, ⟨g1, g4, fun i hi => ?_⟩⟩
  · obtain ⟨a1, a2, a3, b1, b2, b3, e1, e2, e3, t1, u1, u2⟩ := hall i hi
    refine ⟨a1, a2, b1, b2, e1, e2, ?_⟩
    rcases u2 with ⟨z, z2⟩ | ⟨z, z2⟩
    · exact Or.inl ⟨z, by simp [z]⟩
    · exact Or.inr ⟨z, by simp [z]⟩
  · obtain ⟨a1, a2, a3, b1, b2, b3, e1, e2, e3, t1, u1, u2⟩ := hall i hi
    refine ⟨a1, by rw [a3]; exact a2, b1, by rw [b3]; exact b2, e1, by rw [e3]; exact e2, ?_⟩
    rw [t1, u1]
    rcases u2 with ⟨z, z2⟩ | ⟨z, z2⟩
    · exact Or.inl ⟨z2, by simp [z]⟩
    · exact Or.inr ⟨z2, by simp [z]⟩
section
variable {T : Tn} {sd : Nat → Nat} {q : Nat} {c m : Mem}
theorem RX.done2 {c' m' : Mem} (h : RX T c m) (hk : keeps [tP T + 14, tP T + 17, tP T + 20, 53, 54, 55, 65, 71] c c') (h65 : ∀ s, s ≠ 8 → c'.1 65 s = c.1 65 s) (hD : DC T c') (hm : keeps [10, 13, 34, 35, 36, 44, 45] m m') : Rl c' m' := by
  obtain ⟨h1, h2, h3, h4, h5, h6, h7, h8, h9, h10, h11, h12, h13, h14⟩ := h
  have hP := h2.pl
  refine Rl.scr h1 h2 h3 h4 h5 hD h7 h8 h9 h10 h11 h12 h13 h14 hk.1 (fun r hr => hk.2 r (fun z => hr ?_)) ⟨h65 0 (by omega), h65 1 (by omega)⟩ hm
  simp at z ⊢
  omega
theorem layF (hX : RX T c m) {hr dt : Nat} (hQ : QS T sd q hr dt c m) {ct : Nat} {H R W : Nat → Nat} {x : Int32} {K : Nat → Bool} (hM : LiM ct H R W x K m) {w : Nat} (hw : w < 10) : ∃ m', fX12_layFits m (nI w) x = some (nI (fb_ct (fitB T dt H R W K ct) (2 ^ tnp T)), m') ∧ keeps [10, 13, 34, 35, 36, 44, 45] m m' ∧ (∀ j, j < tnp T → m'.1 44 j = nI (fb_sm (fun u => if fitB T dt H R W K ct u = true then u / 2 ^ j % 2 else 0) (2 ^ tnp T))) ∧ ∀ j, j < 24 → m'.1 45 j = nI (fb_sm (fun u => if fitB T dt H R W K ct u = true then lbN T dt w u j else 0) (2 ^ tnp T)) := by
  have hT := hX.1
  have h7 := hT.1
  have hN := pow_np h7
  obtain ⟨m1, b1, b2, b3, b4⟩ := hX.load hQ dt
  obtain ⟨m2, f2, c0, c1, c2, c3⟩ := m_lf0 (nI w) x 7 0 (by omega) m1 5000 (by omega) (fun j hj => by omega)
  obtain ⟨m3, f3, e0, e1, e2, e3⟩ := m_lf1 (nI w) x 24 0 (by omega) m2 f2 (by omega) (fun j hj => by omega)
  have kp : keeps [44, 45] m1 m3 := (c2.mono (by simp)).trans (e2.mono (by simp))
  unfold fX12_layFits
  rw [(rd_now _ _).2.2, hQ.md, b1, cV_some, show gX12_layFits 5000 0 (nI w) x 0 0 0 m1 = _ from c1, show gX12_layFits f2 1 (nI w) x 0 0 0 m2 = _ from e1]
  obtain ⟨m', z1, z2, z3, z4⟩ := m_lf2 (d := dt) (sd := sd) (q := q) hT hw (ct := ct) (H := H) (R := R) (W := W) (x := x) (K := K) (2 ^ tnp T) 0 (by omega) m3 f3 (by omega) (b3.kp2 kp) ((hM.kp b2 (by simp <;> omega)).kp kp (by simp <;> omega)) (fun j hj => by rw [e2.2 44 (by simp), c3 j (by omega)]; rfl) (fun j hj => by rw [e3 j hj]; rfl)
  exact ⟨m', z1, (b2.mono (by simp <;> omega)).trans ((kp.trans z2).mono (by simp <;> omega)), z3, z4⟩
theorem askG (hT : TOK T) {d w : Nat} (hw : w < 10) {L : List Nat} (hc : CD T d sd q c) (hd : c.1 27 6 = nI d) (hn : L.length ≤ 128) (h0 : 0 < L.length) (h8 : c.1 65 8 = nI L.length) (hv : ∀ v, v ∈ L → v < 128) (hr : rowIs (c.1 71) 0 (L.map nI)) (hm : ∀ j, j < 24 → m.1 45 j = nI (sumL (fun v => lbN T d w v j) L)) (y : Int32) : ∀ (k i : Nat), i + k = 24 → ∀ (f g best : Nat), k < f → k < g → best < 24 → ∃ b, b < 24 ∧ gX5_bestHour f (nI w) (nI best) (nI (ownN L.length (sumL (fun v => lbN T d w v best) L))) (nI i) c = some (nI b, c) ∧ gX12_ask g y (nI L.length) (nI best) (nI (ownN L.length (sumL (fun v => lbN T d w v best) L))) (nI i) m = some (if y = 0 then nI b else nI (ownN L.length (sumL (fun v => lbN T d w v b) L)), m) := by
  have hs : ∀ j, sumL (fun v => lbN T d w v j) L ≤ L.length := fun j => sumL_le (f := fun v => lbN T d w v j) (fun v => lbN_lt T d w v j) L
  have ho : ∀ t, t ≤ L.length → ownN L.length t ≤ L.length := fun t ht => by unfold ownN; split <;> omega
  intro k
  induction k with
  | zero =>
    intro i hi f g best hf hg hb
    obtain ⟨f, rfl⟩ : ∃ g, f = g + 1 := ⟨f - 1, by omega⟩
    obtain ⟨g, rfl⟩ : ∃ h, g = h + 1 := ⟨g - 1, by omega⟩
    have ei : i = 24 := by omega
    subst ei
    refine ⟨best, hb, by rw [gX5_bestHour, if_pos (by decide)], ?_⟩
    rw [gX12_ask, if_pos (by decide), if_pos (nI_pos' (by omega))]
    split <;> rfl
  | succ k ih =>
    intro i hi f g best hf hg hb
    obtain ⟨f, rfl⟩ : ∃ g, f = g + 1 := ⟨f - 1, by omega⟩
    obtain ⟨g, rfl⟩ : ∃ h, g = h + 1 := ⟨g - 1, by omega⟩
    have hrd : ∀ (Q : Int32 → Option (Int32 × Mem)), rd (m.1 45) 24 (nI i) Q = Q (nI (sumL (fun v => lbN T d w v i) L)) := fun Q => by rw [rd_ok (by omega) (by omega), hm i (by omega)]
    have s1 := hs i
    have s2 := hs best
    have o1 := ho _ s1
    have o2 := ho _ s2
    rw [gX5_bestHour, gX12_ask, if_neg (show ¬ (24 : Int32) ≤ nI i from nI_ge (b := 24) (by omega) (by omega)), if_neg (show ¬ (24 : Int32) ≤ nI i from nI_ge (b := 24) (by omega) (by omega)), c_left hT hc hd hn h8 hv hr hw (show i < 24 by omega), cI_some, if_neg (show ¬ nI L.length ≤ 0 from nI_nle h0 (by omega)), nI_1]
    simp only [hrd, nm_eq]
    rw [own_m s1 hn (fun z => if z < nI (ownN L.length (sumL (fun v => lbN T d w v best) L)) then gX12_ask g y (nI L.length) (nI i) z (nI (i + 1)) m else gX12_ask g y (nI L.length) (nI best) (nI (ownN L.length (sumL (fun v => lbN T d w v best) L))) (nI (i + 1)) m)]
    by_cases e : ownN L.length (sumL (fun v => lbN T d w v i) L) < ownN L.length (sumL (fun v => lbN T d w v best) L)
    · rw [if_neg (nI_ge e (by omega)), if_pos (nI_lt e (by omega))]
      exact ih (i + 1) (by omega) f g i (by omega) (by omega) (by omega)
    · rw [if_pos (nI_le (by omega) (by omega)), if_neg (nI_nlt (by omega) (by omega))]
      exact ih (i + 1) (by omega) f g best (by omega) (by omega) hb
end
theorem o_fits : Ob_fits Rl := by
  intro mC mM x hR
  obtain ⟨T, hX⟩ : ∃ T, RX T mC mM := id hR
  obtain ⟨sd, q, hr, dt, hQ⟩ := hX.cb
  obtain ⟨ct, H, R, W, K, hC, hM⟩ := hX.2.2.2.2.2.2.2.2.1.li x
  obtain ⟨c', a1, a2, a3, a4, a5, a6⟩ := c_look hX.1 hQ.cb hQ.cd hQ.dlt hC
  obtain ⟨m', b1, b2, b3, b4⟩ := layF hX hQ hM (w := 0) (by omega)
  unfold fX11_fits fX12_fits
  rw [a1, cV_some, show fX12_layFits mM 0 x = _ from b1, cI_some, a5, len_filter]
  exact ⟨_, _, _, rfl, rfl, hX.done2 a2 a3 a4.1.2.2.1 b2⟩
theorem o_sure : Ob_sure Rl := by
  intro mC mM y x hR
  obtain ⟨T, hX⟩ : ∃ T, RX T mC mM := id hR
  obtain ⟨sd, q, hr, dt, hQ⟩ := hX.cb
  obtain ⟨ct, H, R, W, K, hC, hM⟩ := hX.2.2.2.2.2.2.2.2.1.li x
  have h7 := hX.1.1
  have hN := pow_np h7
  unfold fX11_sure fX12_sure
  rcases hX.person y with ⟨e1, e2⟩ | ⟨p, hp, rfl, e1, e2⟩
  · rw [e1, e2, cP_some, cP_some]
    exact ⟨_, _, _, by rw [if_pos rfl], by rw [if_pos rfl], hR⟩
  obtain ⟨c', a1, a2, a3, a4, a5, a6⟩ := c_look hX.1 hQ.cb hQ.cd hQ.dlt hC
  obtain ⟨m', b1, b2, b3, b4⟩ := layF hX hQ hM (w := 0) (by omega)
  have hlen := len_filter (fitB T dt H R W K ct) (2 ^ tnp T)
  have hct := fb_ct_le (fitB T dt H R W K ct) (2 ^ tnp T)
  have hmem : ∀ v, v ∈ (List.range (2 ^ tnp T)).filter (fitB T dt H R W K ct) → v < 128 := fun v hv => by
    have := List.mem_range.mp (List.mem_filter.mp hv).1
    omega
  have hside := sideG (p := p) (n := ((List.range (2 ^ tnp T)).filter (fitB T dt H R W K ct)).length) (by omega) (by omega) a5 _ 0 0 5000 (by omega) (by omega) hmem a6
  rw [Nat.zero_add, sumL_filter, hlen] at hside
  rw [e1, e2, cP_some, cP_some, if_neg i10, if_neg i10, a1, cV_some, show fX5_sideOf c' (nI p) = _ from hside, cP_some, show fX12_layFits mM 0 x = _ from b1, cI_some, rd_ok (by omega) (by omega), b3 p hp, rd_ok (by omega) (by omega), b3 p hp]
  have hend := hX.done2 a2 a3 a4.1.2.2.1 b2
  have hs := sumL_le (f := fun u => u / 2 ^ p % 2) (fun v => Nat.mod_lt _ (by decide)) ((List.range (2 ^ tnp T)).filter (fitB T dt H R W K ct))
  rw [sumL_filter, hlen] at hs
  unfold finS
  generalize fb_ct (fitB T dt H R W K ct) (2 ^ tnp T) = n at *
  generalize fb_sm (fun u => if fitB T dt H R W K ct u = true then u / 2 ^ p % 2 else 0) (2 ^ tnp T) = t at *
  by_cases z0 : nI n = 0
  · rw [if_pos z0, if_pos z0]
    exact ⟨_, _, _, rfl, rfl, hend⟩
  · rw [if_neg z0, if_neg z0]
    by_cases z1 : nI t = 0
    · rw [if_pos z1, if_neg (fun z => z0 (by rw [← z, z1])), if_pos z1]
      exact ⟨_, _, _, rfl, rfl, hend⟩
    · rw [if_neg z1]
      by_cases z2 : nI t = nI n
      · rw [if_pos z2, if_pos z2]
        exact ⟨_, _, _, rfl, rfl, hend⟩
      · rw [if_neg z2, if_neg z2, if_neg z1]
        exact ⟨_, _, _, rfl, rfl, hend⟩
theorem o_ask : Ob_ask Rl := by
  intro mC mM y z x hR
  obtain ⟨T, hX⟩ : ∃ T, RX T mC mM := id hR
  obtain ⟨sd, q, hr, dt, hQ⟩ := hX.cb
  obtain ⟨ct, H, R, W, K, hC, hM⟩ := hX.2.2.2.2.2.2.2.2.1.li x
  have hT := hX.1
  have h7 := hX.1.1
  have hN := pow_np h7
  unfold fX11_ask fX12_ask
  rcases house_c y with ⟨e1, e2⟩ | ⟨w, hw, rfl, e1, e2⟩
  · rw [e1, e2, cP_some, cP_some]
    exact ⟨_, _, _, by rw [if_pos rfl], by rw [if_pos rfl], hR⟩
  rw [e1, e2, cP_some, cP_some, if_neg i10, if_neg i10]
  rcases two_c z with ⟨e1, e2⟩ | ⟨e0, e1, e3, e2⟩ | ⟨b, hb, rfl, e0, e1, e3, e2⟩
  · rw [if_pos e1, e2, cP_some]
    exact ⟨_, _, _, rfl, by rw [if_pos rfl], hR⟩
  · rw [if_neg e0, if_neg e1, e2, cP_some]
    exact ⟨_, _, _, rfl, by rw [if_pos rfl], hR⟩
  rw [if_neg e0, if_pos e1, e2, cP_some, if_neg i10]
  obtain ⟨c', a1, a2, a3, a4, a5, a6⟩ := c_look hX.1 hQ.cb hQ.cd hQ.dlt hC
  obtain ⟨m', b1, b2, b3, b4⟩ := layF hX hQ hM hw
  have hlen := len_filter (fitB T dt H R W K ct) (2 ^ tnp T)
  have hct := fb_ct_le (fitB T dt H R W K ct) (2 ^ tnp T)
  have hmem : ∀ v, v ∈ (List.range (2 ^ tnp T)).filter (fitB T dt H R W K ct) → v < 128 := fun v hv => by
    have := List.mem_range.mp (List.mem_filter.mp hv).1
    omega
  have hend := hX.done2 a2 a3 a4.1.2.2.1 b2
  have h27 : c'.1 27 6 = nI dt := by rw [a2.2 27 (by have := hX.2.1.pl; simp <;> omega)]; exact hQ.cd
  have hb4 : ∀ j, j < 24 → m'.1 45 j = nI (sumL (fun v => lbN T dt w v j) ((List.range (2 ^ tnp T)).filter (fitB T dt H R W K ct))) := fun j hj => by rw [b4 j hj, sumL_filter]
  rw [a1, cV_some, b1, cI_some, nm_eq, ← hlen, a5]
  generalize (List.range (2 ^ tnp T)).filter (fitB T dt H R W K ct) = L at *
  have hn : L.length ≤ 128 := by omega
  by_cases z0 : L.length = 0
  · rw [if_pos (by rw [z0]; rfl), gX12_ask, if_neg (by decide), if_pos (by rw [z0]; decide), if_neg (by decide)]
    exact ⟨_, _, _, rfl, rfl, hend⟩
  · rw [if_neg (fun h => z0 ((nI_eq0 (by omega)).mp h))]
    have hs : ∀ j, sumL (fun v => lbN T dt w v j) L ≤ L.length := fun j => sumL_le (f := fun v => lbN T dt w v j) (fun v => lbN_lt T dt w v j) L
    have s0 := hs 0
    have hl0 : fX5_mostLeft c' (nI w) 0 = _ := c_left hT a4 h27 hn a5 hmem a6 hw (show 0 < 24 by omega)
    obtain ⟨r, r1, r2, r3⟩ := askG hT hw a4 h27 hn (by omega) a5 hmem a6 hb4 (nI b) 23 1 (by omega) 5000 4999 0 (by omega) (by omega) (by omega)
    have hown : ownN L.length (sumL (fun v => lbN T dt w v 0) L) ≤ L.length := by unfold ownN; split <;> omega
    have hrd : ∀ (Q : Int32 → Option (Int32 × Mem)), rd (m'.1 45) 24 (nI 0) Q = Q (nI (sumL (fun v => lbN T dt w v 0) L)) := fun Q => by rw [rd_ok (by omega) (by omega), hb4 0 (by omega)]
    have hr0 : gX12_ask (4999 + 1) (nI b) (nI L.length) (-1) (nI L.length + 1) (nI 0) m' = gX12_ask 4999 (nI b) (nI L.length) (nI 0) (nI (ownN L.length (sumL (fun v => lbN T dt w v 0) L))) (nI 1) m' := by
      rw [gX12_ask, if_neg (show ¬ (24 : Int32) ≤ nI 0 by decide), if_neg (show ¬ nI L.length ≤ 0 from nI_nle (by omega) (by omega)), nI_1, nI_1]
      simp only [hrd, nm_eq]
      rw [own_m s0 hn (fun z => if z < nI (L.length + 1) then gX12_ask 4999 (nI b) (nI L.length) (nI 0) z (nI (0 + 1)) m' else gX12_ask 4999 (nI b) (nI L.length) (-1) (nI (L.length + 1)) (nI (0 + 1)) m'), if_pos (nI_lt (by omega) (by omega))]
    have hbh : fX5_bestHour c' (nI w) = some (nI r, c') := by
      unfold fX5_bestHour
      rw [hl0, cI_some]
      exact r2
    rw [hbh, cI_some, c_left hT a4 h27 hn a5 hmem a6 hw r1, cI_some, show gX12_ask 5000 (nI b) (nI L.length) (-1) (nI L.length + 1) 0 m' = _ from hr0.trans r3]
    by_cases c0 : nI b = 0
    · rw [if_pos c0, if_pos c0]
      exact ⟨_, _, _, rfl, rfl, hend⟩
    · rw [if_neg c0, if_neg c0]
      exact ⟨_, _, _, rfl, rfl, hend⟩
