/-! ===== the levels of a formula, from the unit up ===== -/
def slL (lv : Nat) : Nat := if 4 ≤ lv then lv - 2 else if lv = 3 then 2 else lv - 1
def plL (lv : Nat) : Nat := if 4 ≤ lv then 7 - lv else 13 - lv
def sC (lv : Nat) : Nat := if 4 ≤ lv then 3 else 1
def sM (lv : Nat) : Nat := if 4 ≤ lv then 8 else 1
def stp (sl k : Nat) (P : List Nat) : Prop := sgn k = 0 ∨ tgt (sgn k) < sl ∨ (tgt (sgn k) = 4 ∧ hrel P = true)
theorem hrel_app : ∀ (P R : List Nat), hrel P = true → hrel (P ++ R) = true
  | [], _, h => by cases h
  | x :: P, R, h => by
    rw [hrel] at h
    rw [List.cons_append, hrel]
    by_cases e : x = 20
    · rw [if_pos e] at h; cases h
    · rw [if_neg e] at h ⊢
      by_cases e2 : tgt x ≤ 4
      · rw [if_pos e2] at h ⊢; exact h
      · rw [if_neg e2] at h ⊢; exact hrel_app P R h
theorem hrel_no : ∀ (P S : List Nat), (∀ x, x ∈ P → 5 ≤ tgt x ∧ ¬ x = 20) → topOK 4 S → hrel (P ++ S) = false
  | [], [], _, _ => rfl
  | [], x :: S, _, h => by
    rw [List.nil_append, hrel]
    by_cases e : x = 20
    · rw [if_pos e]
    · rw [if_neg e]
      have := (h : x = 20 ∨ tgt x < 4).resolve_left e
      rw [if_pos (by omega)]
      exact decide_eq_false (by omega)
  | x :: P, S, hP, h => by
    have := hP x (by simp)
    rw [List.cons_append, hrel, if_neg this.2, if_neg (by omega)]
    exact hrel_no P S (fun y hy => hP y (by simp [hy])) h
theorem hrel_yes {s : Nat} (hs : tgt s = 4) (h20 : ¬ s = 20) : ∀ (P : List Nat), (∀ x, x ∈ P → 5 ≤ tgt x ∧ ¬ x = 20) → hrel (P ++ [s]) = true
  | [], _ => by rw [List.nil_append, hrel, if_neg h20, if_pos (by omega)]; exact decide_eq_true hs
  | x :: P, hP => by
    have := hP x (by simp)
    rw [List.cons_append, hrel, if_neg this.2, if_neg (by omega)]
    exact hrel_yes hs h20 P (fun y hy => hP y (by simp [hy]))
theorem topOK.mono {l l' : Nat} (h : l ≤ l') : ∀ {S : List Nat}, topOK l S → topOK l' S
  | [], _ => trivial
  | x :: S, hs => by
    rcases (hs : x = 20 ∨ tgt x < l) with z | z
    · exact Or.inl z
    · exact Or.inr (by omega)
/-- read well so far: from a start to a place behind a unit -/
def OKB (bt : Nat → Nat) (L Q w lv sl a : Nat) (Ec : List Int32) (Em : List (Int32 × Int32)) (S : List Nat) (o : Nat) (R : Nat → Option Mem) (c m : Mem) (c' : Mem) (k o' : Nat) : Prop :=
  ∃ (m' : Mem) (j : Nat) (P : List Nat) (E : List Int32) (E' Em1 : List (Int32 × Int32)) (val : Int32 → Int32 → Int32 → Int32 → Int32) (p n v : Nat) (wd : List Nat) (u' : Nat), (j + 1 ≤ 2 * (o' - o) ∧ o < o' ∧ o' ≤ 30 ∧ u' ≤ 60) ∧ (∀ g, R (g + j) = runB g m') ∧ SF bt L Q w (Ec ++ E) Em1 (P ++ S) (a + nN P) u' o' k p n v wd c' m' ∧ Em1 ++ flP P = Em ++ E' ∧ Den (o' - o) E E' val ∧ (E.length + sC lv ≤ 4 * (o' - o) ∧ E'.length + sM lv ≤ 9 * (o' - o)) ∧ (P.length ≤ plL lv ∧ ∀ x, x ∈ P → lv ≤ tgt x ∧ ¬ x = 20) ∧ stp sl k P ∧ frC Q w c c' ∧ frM w m m'
/-- stumbled -/
def BAD (Q w o : Nat) (R : Nat → Option Mem) (c m : Mem) (c' : Mem) : Prop := ∃ m' j, j ≤ 2 * (30 - o) + 4 ∧ (∀ g, R (g + j) = some m') ∧ bad c' m' ∧ frC Q w c c' ∧ frM w m m'
def RES (bt : Nat → Nat) (L Q w lv a : Nat) (Ec : List Int32) (Em : List (Int32 × Int32)) (S : List Nat) (o : Nat) (R : Nat → Option Mem) (c m : Mem) (res : Option (Int32 × Mem)) : Prop :=
  (∃ c', res = some (0, c') ∧ BAD Q w o R c m c') ∨ (∃ c' k o', res = some (1, c') ∧ OKB bt L Q w lv lv a Ec Em S o R c m c' k o')
def LV (bt : Nat → Nat) (L Q w lv a : Nat) (F : Mem → Option (Int32 × Mem)) : Prop := ∀ Ec Em S u o k p n v wd c m, SF bt L Q w Ec Em S a u o k p n v wd c m → (Ec.length ≤ 4 * o ∧ Em.length ≤ 9 * o ∧ S.length ≤ 7 * a + slL lv ∧ o ≤ 30 ∧ u ≤ 60) → topOK lv S → (4 ≤ lv → (¬ k = 146 ∨ mayN S = false)) → ∀ fu, 12 ≤ fu + a → RES bt L Q w lv a Ec Em S o (fun g => runA fu g m) c m (F c)
section
variable {bt : Nat → Nat} {L Q w a : Nat} {Ec : List Int32} {Em : List (Int32 × Int32)} {S : List Nat} {o : Nat} {R : Nat → Option Mem} {c m : Mem}
theorem OKB.weak {lv lv' sl : Nat} {c' : Mem} {k o' : Nat} (h : OKB bt L Q w lv' sl a Ec Em S o R c m c' k o') (hl : lv ≤ lv') (h7 : lv' ≤ 7) (h1 : 1 ≤ lv) : OKB bt L Q w lv sl a Ec Em S o R c m c' k o' := by
  obtain ⟨m', j, P, E, E', Em1, val, p, n, v, wd, u', h1, h2, h3, h4, h5, ⟨h6, h6'⟩, ⟨h7, h7'⟩, h8, h9⟩ := h
  refine ⟨m', j, P, E, E', Em1, val, p, n, v, wd, u', h1, h2, h3, h4, h5, ⟨?_, ?_⟩, ⟨?_, fun x hx => ⟨by have := (h7' x hx).1; omega, (h7' x hx).2⟩⟩, h8, h9⟩
  · unfold sC at *; split at h6 <;> split <;> omega
  · unfold sM at *; split at h6' <;> split <;> omega
  · unfold plL at *; split at h7 <;> split <;> omega
theorem OKB.stop {lv sl sl' : Nat} {c' : Mem} {k o' : Nat} (h : OKB bt L Q w lv sl a Ec Em S o R c m c' k o') (hk : sgn k = 0 ∨ tgt (sgn k) < sl → sgn k = 0 ∨ tgt (sgn k) < sl') : OKB bt L Q w lv sl' a Ec Em S o R c m c' k o' := by
  obtain ⟨m', j, P, E, E', Em1, val, p, n, v, wd, u', h1, h2, h3, h4, h5, h6, h7, h8, h9⟩ := h
  refine ⟨m', j, P, E, E', Em1, val, p, n, v, wd, u', h1, h2, h3, h4, h5, h6, h7, ?_, h9⟩
  rcases h8 with z | z | z
  · rcases hk (Or.inl z) with y | y
    · exact Or.inl y
    · exact Or.inr (Or.inl y)
  · rcases hk (Or.inr z) with y | y
    · exact Or.inl y
    · exact Or.inr (Or.inl y)
  · exact Or.inr (Or.inr z)
theorem OKB.kind {lv sl : Nat} {c' : Mem} {k o' : Nat} (h : OKB bt L Q w lv sl a Ec Em S o R c m c' k o') : (k < 147 ∧ o < o' ∧ o' ≤ 30) ∧ (∀ (x : Int32) (j : Nat), x = nI j → j < 2 ^ 31 → (c'.1 1 4 = x ↔ k = j)) ∧ c'.1 1 4 = nI k ∧ c'.2.2 4 2 = Q + (12 + 3 * w) ∧ ((Q = 5 ∨ Q = 32) ∧ w < 3) := by
  obtain ⟨m', j, P, E, E', Em1, val, p, n, v, wd, u', h1, h2, h3, h4⟩ := h
  exact ⟨⟨h3.2.1.vk.1, h1.2.1, h1.2.2.1⟩, fun x j hx hj => h3.2.1.kd hx hj, h3.2.1.kind, h3.2.2.1.2.2.1, h3.2.2.1.1⟩
/-- an operator and what stands behind it -/
theorem op_go {lv : Nat} {cc : Int32} {c1 : Mem} {k o1 : Nat} {F : Mem → Option (Int32 × Mem)} (hlv : lv = 1 ∨ lv = 2 ∨ lv = 4 ∨ lv = 5 ∨ lv = 6) (hsz : Ec.length ≤ 4 * o ∧ Em.length ≤ 9 * o ∧ S.length ≤ 7 * a + slL lv ∧ a ≤ 7) (h : OKB bt L Q w lv (lv + 1) a Ec Em S o R c m c1 k o1) (hk : ¬ sgn k = 0) (ht : tgt (sgn k) = lv) (hop : opOK (sgn k) cc) (hS : topOK lv S) (h5 : lv = 4 → OKB bt L Q w 5 5 a Ec Em S o R c m c1 k o1) (hF : LV bt L Q w (lv + 1) a F) : ∃ c2, fX10_advance c1 = some c2 ∧ ((∃ c3, F c2 = some (0, c3) ∧ BAD Q w o R c m c3) ∨ (∃ c3 c4 k3 o3, F c2 = some (1, c3) ∧ c3.2.2 4 2 = Q + (12 + 3 * w) ∧ fX3_put c3 (Q + (12 + 3 * w)) cc = some c4 ∧ (lv = 4 → OKB bt L Q w 4 4 a Ec Em S o R c m c4 k3 o3) ∧ OKB bt L Q w lv (lv + 1) a Ec Em S o R c m c4 k3 o3 ∧ o1 < o3)) := by
  have hx : ∃ (m' : Mem) (j : Nat) (P : List Nat) (E : List Int32) (E' Em1 : List (Int32 × Int32)) (val : Int32 → Int32 → Int32 → Int32 → Int32) (p n v : Nat) (wd : List Nat) (u' : Nat), (j + 1 ≤ 2 * (o1 - o) ∧ o < o1 ∧ o1 ≤ 30 ∧ u' ≤ 60) ∧ (∀ g, R (g + j) = runB g m') ∧ SF bt L Q w (Ec ++ E) Em1 (P ++ S) (a + nN P) u' o1 k p n v wd c1 m' ∧ Em1 ++ flP P = Em ++ E' ∧ Den (o1 - o) E E' val ∧ (E.length + sC lv ≤ 4 * (o1 - o) ∧ E'.length + sM lv ≤ 9 * (o1 - o)) ∧ (P.length ≤ plL lv ∧ ∀ x, x ∈ P → lv ≤ tgt x ∧ ¬ x = 20) ∧ frC Q w c c1 ∧ frM w m m' ∧ (lv = 4 → ∀ x, x ∈ P → 5 ≤ tgt x) := by
    by_cases e4 : lv = 4
    · obtain ⟨m', j, P, E, E', Em1, val, p, n, v, wd, u', g1, g2, g3, g4, g5, g6, g7, g8, g9, g10⟩ := h5 e4
      refine ⟨m', j, P, E, E', Em1, val, p, n, v, wd, u', g1, g2, g3, g4, g5, ?_, ⟨?_, fun x hx => ⟨by have := (g7.2 x hx).1; omega, (g7.2 x hx).2⟩⟩, g9, g10, fun _ x hx => (g7.2 x hx).1⟩
      · rw [e4]; exact g6
      · rw [e4]
        have := g7.1
        unfold plL at *
        simp at *
        omega
    · obtain ⟨m', j, P, E, E', Em1, val, p, n, v, wd, u', g1, g2, g3, g4, g5, g6, g7, g8, g9, g10⟩ := h
      exact ⟨m', j, P, E, E', Em1, val, p, n, v, wd, u', g1, g2, g3, g4, g5, g6, g7, g9, g10, fun z => absurd z e4⟩
  obtain ⟨m1, j, P, E, E', Em1, val, p, n, v, wd, u', g1, g2, g3, g4, g5, g6, g7, g9, g10, g11⟩ := hx
  have hsC : 1 ≤ sC lv := by unfold sC; split <;> omega
  have hsM : 1 ≤ sM lv := by unfold sM; split <;> omega
  have hpl : plL lv ≤ 12 := by unfold plL; split <;> omega
  have hsl : slL lv ≤ 4 := by unfold slL; rcases hlv with z | z | z | z | z <;> rw [z] <;> decide
  have hlen : Em1.length + P.length = Em.length + E'.length := by
    have := congrArg List.length g4
    rw [List.length_append, List.length_append] at this
    rw [show P.length = (flP P).length by unfold flP; rw [List.length_map]]
    exact this
  obtain ⟨s1, s2, s3, s4, s5⟩ := sgn_few k g3.2.1.vk.1 hk
  obtain ⟨k2, p2, n2, v2, wd2, c2, m2, b1, b2, b3, b4, b5⟩ := B_op g3 hk (by omega) (by omega) (fun x hx => by rw [ht]; exact g7.2 x hx) (by omega) (by rw [ht]; exact hS) (by
    by_cases e4 : lv = 4
    · exact Or.inr (hrel_no P S (fun x hx => ⟨g11 e4 x hx, (g7.2 x hx).2⟩) (by rw [← e4]; exact hS))
    · exact Or.inl (by rw [ht]; exact e4))
  rw [g4, show a + nN P - nN P = a by omega] at b3
  have hR2 : ∀ g, R (g + (j + 1)) = runA 5000 g m2 := fun g => by rw [show g + (j + 1) = (g + 1) + j by omega, g2, b2]
  refine ⟨c2, b1, ?_⟩
  have hres := hF (Ec ++ E) (Em ++ E') (sgn k :: S) u' o1 k2 p2 n2 v2 wd2 c2 m2 b3 ⟨by rw [List.length_append]; omega, by rw [List.length_append]; omega, by
    rw [List.length_cons]
    have h1 := hsz.2.2.1
    unfold slL at h1 ⊢
    rcases hlv with z | z | z | z | z <;> rw [z] at h1 ⊢ <;> simp at h1 ⊢ <;> omega, g1.2.2.1, g1.2.2.2⟩ (Or.inr (by omega)) (fun h4 => Or.inr (by
    unfold mayN
    refine decide_eq_false (fun z => ?_)
    rcases z with z | z
    · exact s4 z
    · omega)) 5000 (by omega)
  rcases hres with ⟨c3, r1, m3, j3, r2, r3, r4, r5, r6⟩ | ⟨c3, k3, o3, r1, m3, j3, P2, E2, E2', Em2, val2, p3, n3, v3, wd3, u3, y1, y2, y3, y4, y5, y6, y7, y8, y9, y10⟩
  · refine Or.inl ⟨c3, r1, m3, j3 + (j + 1), by omega, fun g => ?_, r4, (g9.trans b4).trans r5, (g10.trans b5).trans r6⟩
    rw [show g + (j3 + (j + 1)) = (g + j3) + (j + 1) by omega, hR2]
    exact r3 g
  · have hsC2 : 1 ≤ sC (lv + 1) := by unfold sC; split <;> omega
    obtain ⟨c4, q1, q2, q3, q4, q5⟩ := put_c y3.2.2.1 (by rw [List.length_append, List.length_append]; omega) cc
    have hcore : ∀ sl, (stp (lv + 1) k3 P2 → stp sl k3 (P2 ++ [sgn k])) → OKB bt L Q w lv sl a Ec Em S o R c m c4 k3 o3 := by
      intro sl hst
      refine ⟨m3, j3 + (j + 1), P2 ++ [sgn k], E ++ (E2 ++ [cc]), E' ++ (E2' ++ [(3, nI (sgn k))]), Em2, _, p3, n3, v3, wd3, u3, ⟨by omega, by omega, y1.2.2.1, y1.2.2.2⟩, fun g => ?_, ?_, ?_, (Den.bin hop g5 y5 (by omega)).mono (by omega), ⟨?_, ?_⟩, ⟨?_, fun x hx => ?_⟩, hst y8, ((g9.trans b4).trans y9).trans q3, (g10.trans b5).trans y10⟩
      · rw [show g + (j3 + (j + 1)) = (g + j3) + (j + 1) by omega, hR2]
        exact y2 g
      · have hQ := y3.2.2.1.1.1
        have hw := y3.2.2.1.1.2
        have c4r : ∀ r, (r = 1 ∨ r = 2 ∨ r = 4) → c4.1 r = c3.1 r := fun r hr => q5 r (by simp; omega)
        refine ⟨y3.1.ck (by rw [q4]) (c4r 1 (by omega)) (c4r 2 (by omega)) ⟨by rw [c4r 4 (by omega)], by rw [c4r 4 (by omega)]⟩, ?_, ?_, ?_⟩
        · have := y3.2.1
          unfold TK at this ⊢
          rw [c4r 1 (by omega), q4]
          exact this
        · have := q2
          rw [List.append_assoc, List.append_assoc] at this
          exact this
        · rw [List.append_assoc, List.singleton_append, nN_app, show nN [sgn k] = 0 by rw [nN_cons, if_neg s5]; rfl, Nat.add_zero]
          exact y3.2.2.2
      · rw [flP_app, show flP [sgn k] = [(3, nI (sgn k))] by rw [flP_cons, if_neg s5]; rfl, ← List.append_assoc, y4, List.append_assoc, List.append_assoc]
      · have h1 := g6.1
        have h2 := y6.1
        rw [List.length_append, List.length_append, List.length_singleton]
        unfold sC at *
        rcases hlv with z | z | z | z | z <;> rw [z] at h1 h2 ⊢ <;> simp at h1 h2 ⊢ <;> omega
      · have h1 := g6.2
        have h2 := y6.2
        rw [List.length_append, List.length_append, List.length_singleton]
        unfold sM at *
        rcases hlv with z | z | z | z | z <;> rw [z] at h1 h2 ⊢ <;> simp at h1 h2 ⊢ <;> omega
      · have h1 := y7.1
        rw [List.length_append, List.length_singleton]
        unfold plL at *
        rcases hlv with z | z | z | z | z <;> rw [z] at h1 ⊢ <;> simp at h1 ⊢ <;> omega
      · rw [List.mem_append] at hx
        rcases hx with hx | hx
        · exact ⟨by have := (y7.2 x hx).1; omega, (y7.2 x hx).2⟩
        · rw [List.mem_singleton] at hx
          rw [hx]
          exact ⟨by omega, s4⟩
    refine Or.inr ⟨c3, c4, k3, o3, r1, y3.2.2.1.2.2.1, q1, fun e4 => ?_, hcore (lv + 1) (fun z => ?_), y1.2.1⟩
    · subst e4
      refine hcore 4 (fun z => ?_)
      have hr : hrel (P2 ++ [sgn k]) = true := hrel_yes ht s4 P2 (fun x hx => y7.2 x hx)
      rcases z with z | z | z
      · exact Or.inl z
      · by_cases e5 : tgt (sgn k3) = 4
        · exact Or.inr (Or.inr ⟨e5, hr⟩)
        · exact Or.inr (Or.inl (by omega))
      · exact Or.inr (Or.inr ⟨z.1, hr⟩)
    · rcases z with z | z | z
      · exact Or.inl z
      · exact Or.inr (Or.inl z)
      · exact Or.inr (Or.inr ⟨z.1, hrel_app _ _ z.2⟩)
end
