/-! ===== terms, sums, relations, ones, boths, eithers ===== -/
def facN (k : Nat) : Int32 := if k = 37 then -15 else if k = 42 then -13 else if k = 47 then -14 else 0
def relN (k : Nat) : Int32 := if k = 60 then -8 else if k = 61 then -10 else if k = 62 then -9 else 0
theorem fac_k : ∀ k, k < 147 → (if nI k = (37 : Int32) then (some (-15 : Int32)) else (if nI k = (42 : Int32) then (some (-13 : Int32)) else (if nI k = (47 : Int32) then (some (-14 : Int32)) else (some (0 : Int32))))) = some (facN k) ∧ (facN k = 0 → sgn k = 0 ∨ tgt (sgn k) < 6) ∧ (¬ facN k = 0 → (k = 37 ∨ k = 42 ∨ k = 47) ∧ sgn k = k ∧ tgt (sgn k) = 6) := by decide +kernel
theorem rel_k : ∀ k, k < 147 → (if nI k = (60 : Int32) then (some (-8 : Int32)) else (if nI k = (61 : Int32) then (some (-10 : Int32)) else (if nI k = (62 : Int32) then (some (-9 : Int32)) else (some (0 : Int32))))) = some (relN k) ∧ (relN k = 0 → sgn k = 0 ∨ ¬ tgt (sgn k) = 4) ∧ (¬ relN k = 0 → (k = 60 ∨ k = 61 ∨ k = 62) ∧ sgn k = k ∧ tgt (sgn k) = 4) := by decide +kernel
theorem add_k1 : ∀ k, k < 147 → ¬ k = 43 → ¬ k = 45 → (sgn k = 0 ∨ tgt (sgn k) < 6) → (sgn k = 0 ∨ tgt (sgn k) < 5) := by decide +kernel
theorem add_k2 : ∀ k, k < 147 → ¬ k = 145 → (sgn k = 0 ∨ tgt (sgn k) < 3) → (sgn k = 0 ∨ tgt (sgn k) < 2) := by decide +kernel
theorem add_k3 : ∀ k, k < 147 → ¬ k = 144 → (sgn k = 0 ∨ tgt (sgn k) < 2) → (sgn k = 0 ∨ tgt (sgn k) < 1) := by decide +kernel
theorem add_k4 : ∀ k, k < 147 → (sgn k = 0 ∨ tgt (sgn k) < 4) → (sgn k = 0 ∨ tgt (sgn k) < 3) := by decide +kernel
theorem add_k (k : Nat) (h : k < 147) : (¬ k = 43 → ¬ k = 45 → (sgn k = 0 ∨ tgt (sgn k) < 6) → (sgn k = 0 ∨ tgt (sgn k) < 5)) ∧ (¬ k = 145 → (sgn k = 0 ∨ tgt (sgn k) < 3) → (sgn k = 0 ∨ tgt (sgn k) < 2)) ∧ (¬ k = 144 → (sgn k = 0 ∨ tgt (sgn k) < 2) → (sgn k = 0 ∨ tgt (sgn k) < 1)) ∧ ((sgn k = 0 ∨ tgt (sgn k) < 4) → (sgn k = 0 ∨ tgt (sgn k) < 3)) := ⟨add_k1 k h, add_k2 k h, add_k3 k h, add_k4 k h⟩
theorem fac_op {k : Nat} (h : k = 37 ∨ k = 42 ∨ k = 47) : opOK k (facN k) := by
  rcases h with rfl | rfl | rfl
  · exact op_37
  · exact op_42
  · exact op_47
theorem rel_op {k : Nat} (h : k = 60 ∨ k = 61 ∨ k = 62) : opOK k (relN k) := by
  rcases h with rfl | rfl | rfl
  · exact op_60
  · exact op_61
  · exact op_62
section
variable {bt : Nat → Nat} {L Q w a : Nat} {rec : Mem → Int32 → Option (Int32 × Mem)} {Ec : List Int32} {Em : List (Int32 × Int32)} {S : List Nat} {o : Nat} {R : Nat → Option Mem} {c m : Mem}
theorem OKB.fac {lv sl : Nat} {c' : Mem} {k o' : Nat} (h : OKB bt L Q w lv sl a Ec Em S o R c m c' k o') : fX7_factorHere c' = some (facN k) := by
  obtain ⟨⟨h1, -⟩, -, h3, -⟩ := h.kind
  unfold fX7_factorHere
  rw [h3]
  exact (fac_k k h1).1
theorem OKB.rel {lv sl : Nat} {c' : Mem} {k o' : Nat} (h : OKB bt L Q w lv sl a Ec Em S o R c m c' k o') : fX7_relationHere c' = some (relN k) := by
  obtain ⟨⟨h1, -⟩, -, h3, -⟩ := h.kind
  unfold fX7_relationHere
  rw [h3]
  exact (rel_k k h1).1
theorem term_loop (hsz : Ec.length ≤ 4 * o ∧ Em.length ≤ 9 * o ∧ S.length ≤ 7 * a + slL 6 ∧ a ≤ 7) (hS : topOK 6 S) (hF : LV bt L Q w 7 a (fun c => fX7_readUnit rec c (nI a))) : ∀ (r f i : Nat) (c1 : Mem) (k o1 : Nat), 30 - o1 ≤ r → r < f → i ≤ o1 → OKB bt L Q w 6 7 a Ec Em S o R c m c1 k o1 → RES bt L Q w 6 a Ec Em S o R c m (gX7_readTerm rec f (nI a) (facN k) (nI i) c1) := by
  intro r
  induction r with
  | zero =>
    intro f i c1 k o1 h1 h2 h3 h
    obtain ⟨f, rfl⟩ : ∃ g, f = g + 1 := ⟨f - 1, by omega⟩
    obtain ⟨⟨q1, q2, q3⟩, -, -, q6, q7, q8⟩ := h.kind
    rw [gX7_readTerm, if_neg (show ¬ (1600 : Int32) ≤ nI i from nI_ge (b := 1600) (by omega) (by omega))]
    by_cases e : facN k = 0
    · rw [if_pos e]
      exact Or.inr ⟨c1, k, o1, rfl, h.stop (fun _ => (fac_k k q1).2.1 e)⟩
    · obtain ⟨y1, y2, y3⟩ := (fac_k k q1).2.2 e
      obtain ⟨c2, b1, b2⟩ := op_go (Or.inr (Or.inr (Or.inr (Or.inr rfl)))) hsz h (by omega) y3 (by rw [y2]; exact fac_op y1) hS (fun z => by omega) hF
      rw [if_neg e, b1, cV_some]
      rcases b2 with ⟨c3, d1, d2⟩ | ⟨c3, c4, k3, o3, d1, d2, d3, d4, d5, d6⟩
      · rw [show fX7_readUnit rec c2 (nI a) = _ from d1, cI_some, if_pos rfl]
        exact Or.inl ⟨c3, rfl, d2⟩
      · have := d5.kind.1.2.2
        omega
  | succ r ih =>
    intro f i c1 k o1 h1 h2 h3 h
    obtain ⟨f, rfl⟩ : ∃ g, f = g + 1 := ⟨f - 1, by omega⟩
    obtain ⟨⟨q1, q2, q3⟩, -, -, q6, q7, q8⟩ := h.kind
    rw [gX7_readTerm, if_neg (show ¬ (1600 : Int32) ≤ nI i from nI_ge (b := 1600) (by omega) (by omega))]
    by_cases e : facN k = 0
    · rw [if_pos e]
      exact Or.inr ⟨c1, k, o1, rfl, h.stop (fun _ => (fac_k k q1).2.1 e)⟩
    · obtain ⟨y1, y2, y3⟩ := (fac_k k q1).2.2 e
      obtain ⟨c2, b1, b2⟩ := op_go (Or.inr (Or.inr (Or.inr (Or.inr rfl)))) hsz h (by omega) y3 (by rw [y2]; exact fac_op y1) hS (fun z => by omega) hF
      rw [if_neg e, b1, cV_some]
      rcases b2 with ⟨c3, d1, d2⟩ | ⟨c3, c4, k3, o3, d1, d2, d3, d4, d5, d6⟩
      · rw [show fX7_readUnit rec c2 (nI a) = _ from d1, cI_some, if_pos rfl]
        exact Or.inl ⟨c3, rfl, d2⟩
      · rw [show fX7_readUnit rec c2 (nI a) = _ from d1, cI_some, if_neg (show ¬ (1 : Int32) = 0 by decide), d2, gFm_ok (by omega), d3, cV_some, d5.fac, cP_some, nI_1]
        have := d5.kind.1.2.2
        exact ih f (i + 1) c4 k3 o3 (by omega) (by omega) (by omega) d5
theorem term_ok (ha : a ≤ 7) (hF : LV bt L Q w 7 a (fun c => fX7_readUnit rec c (nI a))) : LV bt L Q w 6 a (fun c => fX7_readTerm rec c (nI a)) := by
  intro Ec Em S u o k p n v wd c m h hsz hS hnot fu hfu
  have hu := hF Ec Em S u o k p n v wd c m h ⟨hsz.1, hsz.2.1, by have := hsz.2.2.1; unfold slL at *; simp at *; omega, hsz.2.2.2⟩ (hS.mono (by omega)) (fun _ => hnot (by omega)) fu hfu
  show RES bt L Q w 6 a Ec Em S o (fun g => runA fu g m) c m (fX7_readTerm rec c (nI a))
  unfold fX7_readTerm
  rcases hu with ⟨c1, r1, r2⟩ | ⟨c1, k1, o1, r1, r2⟩
  · rw [show fX7_readUnit rec c (nI a) = _ from r1, cI_some, if_pos rfl]
    exact Or.inl ⟨c1, rfl, r2⟩
  · rw [show fX7_readUnit rec c (nI a) = _ from r1, cI_some, if_neg (show ¬ (1 : Int32) = 0 by decide), r2.fac, cP_some]
    exact term_loop ⟨hsz.1, hsz.2.1, hsz.2.2.1, ha⟩ hS hF 30 5000 0 c1 k1 o1 (by omega) (by omega) (by omega) (r2.weak (by omega) (by omega) (by omega))
theorem sum_loop (hsz : Ec.length ≤ 4 * o ∧ Em.length ≤ 9 * o ∧ S.length ≤ 7 * a + slL 5 ∧ a ≤ 7) (hS : topOK 5 S) (hF : LV bt L Q w 6 a (fun c => fX7_readTerm rec c (nI a))) : ∀ (r f i : Nat) (c1 : Mem) (k o1 : Nat), 30 - o1 ≤ r → r < f → i ≤ o1 → OKB bt L Q w 5 6 a Ec Em S o R c m c1 k o1 → RES bt L Q w 5 a Ec Em S o R c m (gX7_readSum rec f (nI a) (nI i) c1) := by
  have go : ∀ (f i : Nat) (c1 : Mem) (k o1 : Nat), OKB bt L Q w 5 6 a Ec Em S o R c m c1 k o1 → ∀ (cc : Int32), ¬ sgn k = 0 → tgt (sgn k) = 5 → opOK (sgn k) cc → (∀ c4 k3 o3, o1 < o3 → o3 ≤ 30 → OKB bt L Q w 5 6 a Ec Em S o R c m c4 k3 o3 → RES bt L Q w 5 a Ec Em S o R c m (gX7_readSum rec f (nI a) (nI (i + 1)) c4)) → RES bt L Q w 5 a Ec Em S o R c m (cV (fX10_advance c1) fun m13 => (cI (fX7_readTerm rec m13 (nI a)) fun r14 m15 => (if r14 = 0 then (some ((0 : Int32), m15)) else (gFm (m15.2.2 4 2) (cV (fX3_put m15 (m15.2.2 4 2) cc) fun m19 => (gX7_readSum rec f (nI a) (nI i + (1 : Int32)) m19)))))) := by
    intro f i c1 k o1 h cc h1 h2 h3 nx
    obtain ⟨⟨q1, q2, q3⟩, -, -, q6, q7, q8⟩ := h.kind
    obtain ⟨c2, b1, b2⟩ := op_go (Or.inr (Or.inr (Or.inr (Or.inl rfl)))) hsz h h1 h2 h3 hS (fun z => by omega) hF
    rw [b1, cV_some]
    rcases b2 with ⟨c3, d1, d2⟩ | ⟨c3, c4, k3, o3, d1, d2, d3, d4, d5, d6⟩
    · rw [show fX7_readTerm rec c2 (nI a) = _ from d1, cI_some, if_pos rfl]
      exact Or.inl ⟨c3, rfl, d2⟩
    · rw [show fX7_readTerm rec c2 (nI a) = _ from d1, cI_some, if_neg (show ¬ (1 : Int32) = 0 by decide), d2, gFm_ok (by omega), d3, cV_some, nI_1]
      exact nx c4 k3 o3 d6 d5.kind.1.2.2 d5
  intro r
  induction r with
  | zero =>
    intro f i c1 k o1 h1 h2 h3 h
    obtain ⟨f, rfl⟩ : ∃ g, f = g + 1 := ⟨f - 1, by omega⟩
    obtain ⟨⟨q1, q2, q3⟩, qk, -⟩ := h.kind
    rw [gX7_readSum, if_neg (show ¬ (1600 : Int32) ≤ nI i from nI_ge (b := 1600) (by omega) (by omega))]
    by_cases e1 : k = 43
    · rw [if_pos ((qk 43 43 rfl (by omega)).mpr e1), if_pos ((qk 43 43 rfl (by omega)).mpr e1)]
      exact go f i c1 k o1 h (-11) (by rw [e1]; decide) (by rw [e1]; decide) (by rw [e1]; exact op_43) (fun c4 k3 o3 x y z => by omega)
    · rw [if_neg (fun z => e1 ((qk 43 43 rfl (by omega)).mp z))]
      by_cases e2 : k = 45
      · rw [if_pos ((qk 45 45 rfl (by omega)).mpr e2), if_neg (fun z => e1 ((qk 43 43 rfl (by omega)).mp z))]
        exact go f i c1 k o1 h (-12) (by rw [e2]; decide) (by rw [e2]; decide) (by rw [e2]; exact op_45) (fun c4 k3 o3 x y z => by omega)
      · rw [if_neg (fun z => e2 ((qk 45 45 rfl (by omega)).mp z))]
        exact Or.inr ⟨c1, k, o1, rfl, h.stop (fun z => (add_k k q1).1 e1 e2 z)⟩
  | succ r ih =>
    intro f i c1 k o1 h1 h2 h3 h
    obtain ⟨f, rfl⟩ : ∃ g, f = g + 1 := ⟨f - 1, by omega⟩
    obtain ⟨⟨q1, q2, q3⟩, qk, -⟩ := h.kind
    rw [gX7_readSum, if_neg (show ¬ (1600 : Int32) ≤ nI i from nI_ge (b := 1600) (by omega) (by omega))]
    by_cases e1 : k = 43
    · rw [if_pos ((qk 43 43 rfl (by omega)).mpr e1), if_pos ((qk 43 43 rfl (by omega)).mpr e1)]
      exact go f i c1 k o1 h (-11) (by rw [e1]; decide) (by rw [e1]; decide) (by rw [e1]; exact op_43) (fun c4 k3 o3 x y z => ih f (i + 1) c4 k3 o3 (by omega) (by omega) (by omega) z)
    · rw [if_neg (fun z => e1 ((qk 43 43 rfl (by omega)).mp z))]
      by_cases e2 : k = 45
      · rw [if_pos ((qk 45 45 rfl (by omega)).mpr e2), if_neg (fun z => e1 ((qk 43 43 rfl (by omega)).mp z))]
        exact go f i c1 k o1 h (-12) (by rw [e2]; decide) (by rw [e2]; decide) (by rw [e2]; exact op_45) (fun c4 k3 o3 x y z => ih f (i + 1) c4 k3 o3 (by omega) (by omega) (by omega) z)
      · rw [if_neg (fun z => e2 ((qk 45 45 rfl (by omega)).mp z))]
        exact Or.inr ⟨c1, k, o1, rfl, h.stop (fun z => (add_k k q1).1 e1 e2 z)⟩
theorem sum_ok (ha : a ≤ 7) (hF : LV bt L Q w 6 a (fun c => fX7_readTerm rec c (nI a))) : LV bt L Q w 5 a (fun c => fX7_readSum rec c (nI a)) := by
  intro Ec Em S u o k p n v wd c m h hsz hS hnot fu hfu
  have hu := hF Ec Em S u o k p n v wd c m h ⟨hsz.1, hsz.2.1, by have := hsz.2.2.1; unfold slL at *; simp at *; omega, hsz.2.2.2⟩ (hS.mono (by omega)) (fun _ => hnot (by omega)) fu hfu
  show RES bt L Q w 5 a Ec Em S o (fun g => runA fu g m) c m (fX7_readSum rec c (nI a))
  unfold fX7_readSum
  rcases hu with ⟨c1, r1, r2⟩ | ⟨c1, k1, o1, r1, r2⟩
  · rw [show fX7_readTerm rec c (nI a) = _ from r1, cI_some, if_pos rfl]
    exact Or.inl ⟨c1, rfl, r2⟩
  · rw [show fX7_readTerm rec c (nI a) = _ from r1, cI_some, if_neg (show ¬ (1 : Int32) = 0 by decide)]
    exact sum_loop ⟨hsz.1, hsz.2.1, hsz.2.2.1, ha⟩ hS hF 30 5000 0 c1 k1 o1 (by omega) (by omega) (by omega) (r2.weak (by omega) (by omega) (by omega))
theorem rela_ok (ha : a ≤ 7) (hF : LV bt L Q w 5 a (fun c => fX7_readSum rec c (nI a))) : LV bt L Q w 4 a (fun c => fX7_readRelation rec c (nI a)) := by
  intro Ec Em S u o k p n v wd c m h hsz hS hnot fu hfu
  have hu := hF Ec Em S u o k p n v wd c m h ⟨hsz.1, hsz.2.1, by have := hsz.2.2.1; unfold slL at *; simp at *; omega, hsz.2.2.2⟩ (hS.mono (by omega)) (fun _ => hnot (by omega)) fu hfu
  show RES bt L Q w 4 a Ec Em S o (fun g => runA fu g m) c m (fX7_readRelation rec c (nI a))
  unfold fX7_readRelation
  rcases hu with ⟨c1, r1, r2⟩ | ⟨c1, k1, o1, r1, r2⟩
  · rw [show fX7_readSum rec c (nI a) = _ from r1, cI_some, if_pos rfl]
    exact Or.inl ⟨c1, rfl, r2⟩
  · obtain ⟨⟨q1, q2, q3⟩, -, -, q6, q7, q8⟩ := r2.kind
    rw [show fX7_readSum rec c (nI a) = _ from r1, cI_some, if_neg (show ¬ (1 : Int32) = 0 by decide), r2.rel, cP_some]
    have r3 : OKB bt L Q w 4 5 a Ec Em S o (fun g => runA fu g m) c m c1 k1 o1 := r2.weak (by omega) (by omega) (by omega)
    by_cases e : relN k1 = 0
    · rw [if_pos e]
      exact Or.inr ⟨c1, k1, o1, rfl, r3.stop (fun z => by have := (rel_k k1 q1).2.1 e; omega)⟩
    · obtain ⟨y1, y2, y3⟩ := (rel_k k1 q1).2.2 e
      obtain ⟨c2, b1, b2⟩ := op_go (Or.inr (Or.inr (Or.inl rfl))) ⟨hsz.1, hsz.2.1, hsz.2.2.1, ha⟩ r3 (by omega) y3 (by rw [y2]; exact rel_op y1) hS (fun _ => r2) hF
      rw [if_neg e, b1, cV_some]
      rcases b2 with ⟨c3, d1, d2⟩ | ⟨c3, c4, k3, o3, d1, d2, d3, d4, d5, d6⟩
      · rw [show fX7_readSum rec c2 (nI a) = _ from d1, cI_some, if_pos rfl]
        exact Or.inl ⟨c3, rfl, d2⟩
      · rw [show fX7_readSum rec c2 (nI a) = _ from d1, cI_some, if_neg (show ¬ (1 : Int32) = 0 by decide), d2, gFm_ok (by omega), d3, cV_some]
        exact Or.inr ⟨c4, k3, o3, rfl, d4 rfl⟩
theorem both_loop (hsz : Ec.length ≤ 4 * o ∧ Em.length ≤ 9 * o ∧ S.length ≤ 7 * a + slL 2 ∧ a ≤ 7) (hS : topOK 2 S) (hF : LV bt L Q w 3 a (fun c => fX7_readOne rec c (nI a))) : ∀ (r f i : Nat) (c1 : Mem) (k o1 : Nat), 30 - o1 ≤ r → r < f → i ≤ o1 → OKB bt L Q w 2 3 a Ec Em S o R c m c1 k o1 → RES bt L Q w 2 a Ec Em S o R c m (gX7_readBoth rec f (nI a) (nI i) c1) := by
  have go : ∀ (f i : Nat) (c1 : Mem) (k o1 : Nat), OKB bt L Q w 2 3 a Ec Em S o R c m c1 k o1 → ∀ (cc : Int32), ¬ sgn k = 0 → tgt (sgn k) = 2 → opOK (sgn k) cc → (∀ c4 k3 o3, o1 < o3 → o3 ≤ 30 → OKB bt L Q w 2 3 a Ec Em S o R c m c4 k3 o3 → RES bt L Q w 2 a Ec Em S o R c m (gX7_readBoth rec f (nI a) (nI (i + 1)) c4)) → RES bt L Q w 2 a Ec Em S o R c m (cV (fX10_advance c1) fun m13 => (cI (fX7_readOne rec m13 (nI a)) fun r14 m15 => (if r14 = 0 then (some ((0 : Int32), m15)) else (gFm (m15.2.2 4 2) (cV (fX3_put m15 (m15.2.2 4 2) cc) fun m19 => (gX7_readBoth rec f (nI a) (nI i + (1 : Int32)) m19)))))) := by
    intro f i c1 k o1 h cc h1 h2 h3 nx
    obtain ⟨⟨q1, q2, q3⟩, -, -, q6, q7, q8⟩ := h.kind
    obtain ⟨c2, b1, b2⟩ := op_go (Or.inr (Or.inl rfl)) hsz h h1 h2 h3 hS (fun z => by omega) hF
    rw [b1, cV_some]
    rcases b2 with ⟨c3, d1, d2⟩ | ⟨c3, c4, k3, o3, d1, d2, d3, d4, d5, d6⟩
    · rw [show fX7_readOne rec c2 (nI a) = _ from d1, cI_some, if_pos rfl]
      exact Or.inl ⟨c3, rfl, d2⟩
    · rw [show fX7_readOne rec c2 (nI a) = _ from d1, cI_some, if_neg (show ¬ (1 : Int32) = 0 by decide), d2, gFm_ok (by omega), d3, cV_some, nI_1]
      exact nx c4 k3 o3 d6 d5.kind.1.2.2 d5
  intro r
  induction r with
  | zero =>
    intro f i c1 k o1 h1 h2 h3 h
    obtain ⟨f, rfl⟩ : ∃ g, f = g + 1 := ⟨f - 1, by omega⟩
    obtain ⟨⟨q1, q2, q3⟩, qk, -⟩ := h.kind
    rw [gX7_readBoth, if_neg (show ¬ (1600 : Int32) ≤ nI i from nI_ge (b := 1600) (by omega) (by omega))]
    by_cases e1 : k = 145
    · rw [if_pos ((qk 145 145 rfl (by omega)).mpr e1)]
      exact go f i c1 k o1 h (-7) (by rw [e1]; decide) (by rw [e1]; decide) (by rw [e1]; exact op_38) (fun c4 k3 o3 x y z => by omega)
    · rw [if_neg (fun z => e1 ((qk 145 145 rfl (by omega)).mp z))]
      exact Or.inr ⟨c1, k, o1, rfl, h.stop (fun z => (add_k k q1).2.1 e1 z)⟩
  | succ r ih =>
    intro f i c1 k o1 h1 h2 h3 h
    obtain ⟨f, rfl⟩ : ∃ g, f = g + 1 := ⟨f - 1, by omega⟩
    obtain ⟨⟨q1, q2, q3⟩, qk, -⟩ := h.kind
    rw [gX7_readBoth, if_neg (show ¬ (1600 : Int32) ≤ nI i from nI_ge (b := 1600) (by omega) (by omega))]
    by_cases e1 : k = 145
    · rw [if_pos ((qk 145 145 rfl (by omega)).mpr e1)]
      exact go f i c1 k o1 h (-7) (by rw [e1]; decide) (by rw [e1]; decide) (by rw [e1]; exact op_38) (fun c4 k3 o3 x y z => ih f (i + 1) c4 k3 o3 (by omega) (by omega) (by omega) z)
    · rw [if_neg (fun z => e1 ((qk 145 145 rfl (by omega)).mp z))]
      exact Or.inr ⟨c1, k, o1, rfl, h.stop (fun z => (add_k k q1).2.1 e1 z)⟩
theorem both_ok (ha : a ≤ 7) (hF : LV bt L Q w 3 a (fun c => fX7_readOne rec c (nI a))) : LV bt L Q w 2 a (fun c => fX7_readBoth rec c (nI a)) := by
  intro Ec Em S u o k p n v wd c m h hsz hS hnot fu hfu
  have hu := hF Ec Em S u o k p n v wd c m h ⟨hsz.1, hsz.2.1, by have := hsz.2.2.1; unfold slL at *; simp at *; omega, hsz.2.2.2⟩ (hS.mono (by omega)) (fun z => by omega) fu hfu
  show RES bt L Q w 2 a Ec Em S o (fun g => runA fu g m) c m (fX7_readBoth rec c (nI a))
  unfold fX7_readBoth
  rcases hu with ⟨c1, r1, r2⟩ | ⟨c1, k1, o1, r1, r2⟩
  · rw [show fX7_readOne rec c (nI a) = _ from r1, cI_some, if_pos rfl]
    exact Or.inl ⟨c1, rfl, r2⟩
  · rw [show fX7_readOne rec c (nI a) = _ from r1, cI_some, if_neg (show ¬ (1 : Int32) = 0 by decide)]
    exact both_loop ⟨hsz.1, hsz.2.1, hsz.2.2.1, ha⟩ hS hF 30 5000 0 c1 k1 o1 (by omega) (by omega) (by omega) (r2.weak (by omega) (by omega) (by omega))
theorem eith_loop (hsz : Ec.length ≤ 4 * o ∧ Em.length ≤ 9 * o ∧ S.length ≤ 7 * a + slL 1 ∧ a ≤ 7) (hS : topOK 1 S) (hF : LV bt L Q w 2 a (fun c => fX7_readBoth rec c (nI a))) : ∀ (r f i : Nat) (c1 : Mem) (k o1 : Nat), 30 - o1 ≤ r → r < f → i ≤ o1 → OKB bt L Q w 1 2 a Ec Em S o R c m c1 k o1 → RES bt L Q w 1 a Ec Em S o R c m (gX7_readEither rec f (nI a) (nI i) c1) := by
  have go : ∀ (f i : Nat) (c1 : Mem) (k o1 : Nat), OKB bt L Q w 1 2 a Ec Em S o R c m c1 k o1 → ∀ (cc : Int32), ¬ sgn k = 0 → tgt (sgn k) = 1 → opOK (sgn k) cc → (∀ c4 k3 o3, o1 < o3 → o3 ≤ 30 → OKB bt L Q w 1 2 a Ec Em S o R c m c4 k3 o3 → RES bt L Q w 1 a Ec Em S o R c m (gX7_readEither rec f (nI a) (nI (i + 1)) c4)) → RES bt L Q w 1 a Ec Em S o R c m (cV (fX10_advance c1) fun m13 => (cI (fX7_readBoth rec m13 (nI a)) fun r14 m15 => (if r14 = 0 then (some ((0 : Int32), m15)) else (gFm (m15.2.2 4 2) (cV (fX3_put m15 (m15.2.2 4 2) cc) fun m19 => (gX7_readEither rec f (nI a) (nI i + (1 : Int32)) m19)))))) := by
    intro f i c1 k o1 h cc h1 h2 h3 nx
    obtain ⟨⟨q1, q2, q3⟩, -, -, q6, q7, q8⟩ := h.kind
    obtain ⟨c2, b1, b2⟩ := op_go (Or.inl rfl) hsz h h1 h2 h3 hS (fun z => by omega) hF
    rw [b1, cV_some]
    rcases b2 with ⟨c3, d1, d2⟩ | ⟨c3, c4, k3, o3, d1, d2, d3, d4, d5, d6⟩
    · rw [show fX7_readBoth rec c2 (nI a) = _ from d1, cI_some, if_pos rfl]
      exact Or.inl ⟨c3, rfl, d2⟩
    · rw [show fX7_readBoth rec c2 (nI a) = _ from d1, cI_some, if_neg (show ¬ (1 : Int32) = 0 by decide), d2, gFm_ok (by omega), d3, cV_some, nI_1]
      exact nx c4 k3 o3 d6 d5.kind.1.2.2 d5
  intro r
  induction r with
  | zero =>
    intro f i c1 k o1 h1 h2 h3 h
    obtain ⟨f, rfl⟩ : ∃ g, f = g + 1 := ⟨f - 1, by omega⟩
    obtain ⟨⟨q1, q2, q3⟩, qk, -⟩ := h.kind
    rw [gX7_readEither, if_neg (show ¬ (1600 : Int32) ≤ nI i from nI_ge (b := 1600) (by omega) (by omega))]
    by_cases e1 : k = 144
    · rw [if_pos ((qk 144 144 rfl (by omega)).mpr e1)]
      exact go f i c1 k o1 h (-6) (by rw [e1]; decide) (by rw [e1]; decide) (by rw [e1]; exact op_124) (fun c4 k3 o3 x y z => by omega)
    · rw [if_neg (fun z => e1 ((qk 144 144 rfl (by omega)).mp z))]
      exact Or.inr ⟨c1, k, o1, rfl, h.stop (fun z => (add_k k q1).2.2.1 e1 z)⟩
  | succ r ih =>
    intro f i c1 k o1 h1 h2 h3 h
    obtain ⟨f, rfl⟩ : ∃ g, f = g + 1 := ⟨f - 1, by omega⟩
    obtain ⟨⟨q1, q2, q3⟩, qk, -⟩ := h.kind
    rw [gX7_readEither, if_neg (show ¬ (1600 : Int32) ≤ nI i from nI_ge (b := 1600) (by omega) (by omega))]
    by_cases e1 : k = 144
    · rw [if_pos ((qk 144 144 rfl (by omega)).mpr e1)]
      exact go f i c1 k o1 h (-6) (by rw [e1]; decide) (by rw [e1]; decide) (by rw [e1]; exact op_124) (fun c4 k3 o3 x y z => ih f (i + 1) c4 k3 o3 (by omega) (by omega) (by omega) z)
    · rw [if_neg (fun z => e1 ((qk 144 144 rfl (by omega)).mp z))]
      exact Or.inr ⟨c1, k, o1, rfl, h.stop (fun z => (add_k k q1).2.2.1 e1 z)⟩
theorem eith_ok (ha : a ≤ 7) (hF : LV bt L Q w 2 a (fun c => fX7_readBoth rec c (nI a))) : LV bt L Q w 1 a (fun c => fX7_readEither rec c (nI a)) := by
  intro Ec Em S u o k p n v wd c m h hsz hS hnot fu hfu
  have hu := hF Ec Em S u o k p n v wd c m h ⟨hsz.1, hsz.2.1, by have := hsz.2.2.1; unfold slL at *; simp at *; omega, hsz.2.2.2⟩ (hS.mono (by omega)) (fun z => by omega) fu hfu
  show RES bt L Q w 1 a Ec Em S o (fun g => runA fu g m) c m (fX7_readEither rec c (nI a))
  unfold fX7_readEither
  rcases hu with ⟨c1, r1, r2⟩ | ⟨c1, k1, o1, r1, r2⟩
  · rw [show fX7_readBoth rec c (nI a) = _ from r1, cI_some, if_pos rfl]
    exact Or.inl ⟨c1, rfl, r2⟩
  · rw [show fX7_readBoth rec c (nI a) = _ from r1, cI_some, if_neg (show ¬ (1 : Int32) = 0 by decide)]
    exact eith_loop ⟨hsz.1, hsz.2.1, hsz.2.2.1, ha⟩ hS hF 30 5000 0 c1 k1 o1 (by omega) (by omega) (by omega) (r2.weak (by omega) (by omega) (by omega))
end
