/-! ===== nots; all levels ===== -/
theorem nt_i : ∀ n, n ≤ 7 → ¬ n ≤ 2 → (nI n - (2 : Int32)) + (nI n - nI n / (2 : Int32) * (2 : Int32)) = nI (n - ntC n) := by decide +kernel
theorem nt_le : ∀ n, n ≤ 7 → ntC n ≤ 2 ∧ ntC n ≤ n ∧ (n ≤ 2 → ntC n = n) := by decide +kernel
section
variable {bt : Nat → Nat} {L Q w a : Nat} {rec : Mem → Int32 → Option (Int32 × Mem)}
theorem putN {nn u o : Nat} (hn : nn ≤ 7) : ∀ (t i : Nat), i + t = nn → ∀ (E : List Int32) (c : Mem) (f : Nat), t < f → E.length + t < 120 → FK Q w E u o c → ∃ c', gX7_readOne rec f 1 0 (nI nn) (nI i) c = some (1, c') ∧ FK Q w (E ++ List.replicate t (-5)) u o c' ∧ frC Q w c c' ∧ c'.2 = c.2 ∧ ∀ r, (r = 1 ∨ r = 2 ∨ r = 4) → c'.1 r = c.1 r := by
  intro t
  induction t with
  | zero =>
    intro i hi E c f hf hE h
    obtain ⟨f, rfl⟩ : ∃ g, f = g + 1 := ⟨f - 1, by omega⟩
    refine ⟨c, by rw [gX7_readOne, if_pos (nI_le (by omega) (by omega))], by rw [List.replicate_zero, List.append_nil]; exact h, frC.rfl', rfl, fun _ _ => rfl⟩
  | succ t ih =>
    intro i hi E c f hf hE h
    obtain ⟨f, rfl⟩ : ∃ g, f = g + 1 := ⟨f - 1, by omega⟩
    obtain ⟨c1, q1, q2, q3, q4, q5⟩ := put_c h (by omega) (-5)
    have hQ := h.1.1
    have hw := h.1.2
    obtain ⟨c', a1, a2, a3, a4, a5⟩ := ih (i + 1) (by omega) (E ++ [-5]) c1 f (by omega) (by rw [List.length_append, List.length_singleton]; omega) q2
    refine ⟨c', ?_, ?_, q3.trans a3, by rw [a4, q4], fun r hr => by rw [a5 r hr, q5 r (by simp; omega)]⟩
    · rw [gX7_readOne, if_neg (nI_ge (by omega) (by omega)), h.2.2.1, gFm_ok (by omega), q1, cV_some, nI_1]
      exact a1
    · rw [List.replicate_succ, ← List.singleton_append, ← List.append_assoc]
      exact a2
theorem flP_rep : ∀ n, flP (List.replicate n 21) = List.replicate n ((2 : Int32), (0 : Int32))
  | 0 => rfl
  | n + 1 => by rw [List.replicate_succ, flP_cons, if_pos rfl, flP_rep n, List.replicate_succ]
theorem nN_rep : ∀ n, nN (List.replicate n 21) = n
  | 0 => rfl
  | n + 1 => by rw [List.replicate_succ, nN_cons, if_pos rfl, nN_rep n, Nat.add_comm]
theorem may_rep {S : List Nat} (hS : topOK 3 S) : ∀ n, mayN (List.replicate n 21 ++ S) = true
  | 0 => by
    rw [List.replicate_zero, List.nil_append]
    cases S with
    | nil => rfl
    | cons x S =>
      refine decide_eq_true ?_
      rcases (hS : x = 20 ∨ tgt x < 3) with z | z
      · exact Or.inl z
      · exact Or.inr (by omega)
  | n + 1 => by rw [List.replicate_succ, List.cons_append]; rfl
theorem top_rep {S : List Nat} (hS : topOK 3 S) : ∀ n, topOK 4 (List.replicate n 21 ++ S)
  | 0 => by rw [List.replicate_zero, List.nil_append]; exact hS.mono (by omega)
  | n + 1 => by rw [List.replicate_succ, List.cons_append]; exact Or.inr (by decide)
theorem one_loop (ha : a ≤ 7) (hF : ∀ n, a + n ≤ 7 → LV bt L Q w 4 (a + n) (fun c => fX7_readRelation rec c (nI (a + n)))) {Ec : List Int32} {Em : List (Int32 × Int32)} {S : List Nat} {u o : Nat} {R : Nat → Option Mem} {c0 m0 : Mem} (hsz : Ec.length ≤ 4 * o ∧ Em.length ≤ 9 * o ∧ S.length ≤ 7 * a + 2 ∧ o ≤ 30 ∧ u ≤ 60) (hS : topOK 3 S) : ∀ (r nn f fu : Nat) (c m : Mem) (k p n v : Nat) (wd : List Nat), a + nn ≤ 7 → 7 - (a + nn) ≤ r → r + 20 < f → SF bt L Q w Ec Em (List.replicate nn 21 ++ S) (a + nn) u o k p n v wd c m → (∀ g, R g = runA fu g m) → 12 ≤ fu + (a + nn) → frC Q w c0 c → frM w m0 m → RES bt L Q w 3 a Ec Em S o R c0 m0 (gX7_readOne rec f 0 (nI a) (nI nn) (nI nn) c) := by
  have rel : ∀ (nn f fu : Nat) (c m : Mem) (k p n v : Nat) (wd : List Nat), a + nn ≤ 7 → 10 < f → ¬ k = 146 → SF bt L Q w Ec Em (List.replicate nn 21 ++ S) (a + nn) u o k p n v wd c m → (∀ g, R g = runA fu g m) → 12 ≤ fu + (a + nn) → frC Q w c0 c → frM w m0 m → RES bt L Q w 3 a Ec Em S o R c0 m0 (cI (fX7_readRelation rec c (nI (a + nn))) fun r8 m9 => (if r8 = 0 then (some ((0 : Int32), m9)) else (if nI nn ≤ (2 : Int32) then (gX7_readOne rec f 1 0 (nI nn) (0 : Int32) m9) else (nm ((nI nn - (2 : Int32)) + (nI nn - nI nn / (2 : Int32) * (2 : Int32))) fun v12 => (gX7_readOne rec f 1 0 (nI nn) v12 m9))))) := by
    intro nn f fu c m k p n v wd hn hf hk h hR hfu fc fm
    have hres := hF nn hn Ec Em (List.replicate nn 21 ++ S) u o k p n v wd c m h ⟨hsz.1, hsz.2.1, by rw [List.length_append, List.length_replicate, show slL 4 = 2 from rfl]; omega, hsz.2.2.2⟩ (top_rep hS nn) (fun _ => Or.inl hk) fu hfu
    rcases hres with ⟨c1, r1, m1, j1, r2, r3, r4, r5, r6⟩ | ⟨c1, k1, o1, r1, m1, j1, P, E, E', Em1, val, p1, n1, v1, wd1, u1, y1, y2, y3, y4, y5, y6, y7, y8, y9, y10⟩
    · rw [show fX7_readRelation rec c (nI (a + nn)) = _ from r1, cI_some, if_pos rfl]
      exact Or.inl ⟨c1, rfl, m1, j1, r2, fun g => by rw [hR]; exact r3 g, r4, fc.trans r5, fm.trans r6⟩
    · have hn7 : nn ≤ 7 := by omega
      obtain ⟨t1, t2, t3⟩ := nt_le nn hn7
      have hsC : sC 4 = 3 := rfl
      have hsM : sM 4 = 8 := rfl
      have hpl : plL 4 = 3 := rfl
      rw [hsC, hsM] at y6
      rw [hpl] at y7
      obtain ⟨c2, d1, d2, d3, d4, d5⟩ := putN (rec := rec) hn7 (ntC nn) (nn - ntC nn) (by omega) (Ec ++ E) c1 f (by omega) (by rw [List.length_append]; omega) y3.2.2.1
      have hput : (if nI nn ≤ (2 : Int32) then (gX7_readOne rec f 1 0 (nI nn) (0 : Int32) c1) else (nm ((nI nn - (2 : Int32)) + (nI nn - nI nn / (2 : Int32) * (2 : Int32))) fun v12 => (gX7_readOne rec f 1 0 (nI nn) v12 c1))) = some (1, c2) := by
        by_cases e : nn ≤ 2
        · rw [if_pos (show nI nn ≤ (2 : Int32) from nI_le (b := 2) e (by omega))]
          rw [t3 e, Nat.sub_self] at d1
          exact d1
        · rw [if_neg (show ¬ nI nn ≤ (2 : Int32) from nI_ge (a := 2) (by omega) (by omega)), nm_eq, nt_i nn hn7 e]
          exact d1
      rw [show fX7_readRelation rec c (nI (a + nn)) = _ from r1, cI_some, if_neg (show ¬ (1 : Int32) = 0 by decide), hput]
      refine Or.inr ⟨c2, k1, o1, rfl, m1, j1, P ++ List.replicate nn 21, E ++ List.replicate (ntC nn) (-5), E' ++ List.replicate nn (2, 0), Em1, _, p1, n1, v1, wd1, u1, y1, fun g => by rw [hR]; exact y2 g, ⟨y3.1.ck (by rw [d4]) (d5 1 (by omega)) (d5 2 (by omega)) ⟨by rw [d5 4 (by omega)], by rw [d5 4 (by omega)]⟩, ?_, ?_, ?_⟩, ?_, y5.not1C (ntC nn) nn (fun x => notN_C x nn), ⟨?_, ?_⟩, ⟨?_, fun x hx => ?_⟩, ?_, fc.trans (y9.trans d3), fm.trans y10⟩
      · have := y3.2.1
        unfold TK at this ⊢
        rw [d5 1 (by omega), d4]
        exact this
      · rw [← List.append_assoc]; exact d2
      · rw [List.append_assoc, nN_app, nN_rep, show a + (nN P + nn) = a + nn + nN P by omega]
        exact y3.2.2.2
      · rw [flP_app, flP_rep, ← List.append_assoc, y4, List.append_assoc]
      · rw [List.length_append, List.length_replicate, show sC 3 = 1 from rfl]; omega
      · rw [List.length_append, List.length_replicate, show sM 3 = 1 from rfl]; omega
      · rw [List.length_append, List.length_replicate, show plL 3 = 10 from rfl]; omega
      · rw [List.mem_append] at hx
        rcases hx with hx | hx
        · exact ⟨by have := (y7.2 x hx).1; omega, (y7.2 x hx).2⟩
        · rw [(List.mem_replicate.mp hx).2]
          exact ⟨by decide, by decide⟩
      · rcases y8 with z | z | z
        · exact Or.inl z
        · rcases (add_k k1 y3.2.1.vk.1).2.2.2 (Or.inr z) with y | y
          · exact Or.inl y
          · exact Or.inr (Or.inl y)
        · exact Or.inr (Or.inr ⟨z.1, hrel_app _ _ z.2⟩)
  intro r
  induction r with
  | zero =>
    intro nn f fu c m k p n v wd hn hr hf h hR hfu fc fm
    obtain ⟨f, rfl⟩ : ∃ g, f = g + 1 := ⟨f - 1, by omega⟩
    have h' := h
    obtain ⟨hB, hT, hK, hRR⟩ := h'
    rw [gX7_readOne, if_neg (show ¬ (1600 : Int32) ≤ nI nn from nI_ge (b := 1600) (by omega) (by omega)), nI_add]
    by_cases e : k = 146
    · rw [if_pos ((hT.kd (j := 146) (x := 146) rfl (by omega)).mpr e), if_neg (show ¬ nI (a + nn) ≤ (6 : Int32) from nI_ge (a := 6) (by omega) (by omega))]
      obtain ⟨c', s1, s2, s3, s4, s5⟩ := refuse_ok hT 2
      have s1' : fX7_refuse c (2 : Int32) = some (0, c') := s1
      obtain ⟨m', b1, b2, b3⟩ := A_bad h (by rw [List.length_append, List.length_replicate]; omega) hsz.2.2.2.2 hsz.2.2.2.1 hn (Or.inl ⟨e, may_rep hS nn, by omega⟩)
      rw [s1', cI_some, tz_0]
      exact Or.inl ⟨c', rfl, m', 1, by omega, fun g => by rw [hR]; exact b1 fu g (by omega), bad_of s4 s5 b2, fc.trans (frC.of4 hK.1.1 s2), fm.trans b3⟩
    · rw [if_neg (fun z => e ((hT.kd (j := 146) (x := 146) rfl (by omega)).mp z))]
      exact rel nn f fu c m k p n v wd hn (by omega) e h hR hfu fc fm
  | succ r ih =>
    intro nn f fu c m k p n v wd hn hr hf h hR hfu fc fm
    obtain ⟨f, rfl⟩ : ∃ g, f = g + 1 := ⟨f - 1, by omega⟩
    have h' := h
    obtain ⟨hB, hT, hK, hRR⟩ := h'
    rw [gX7_readOne, if_neg (show ¬ (1600 : Int32) ≤ nI nn from nI_ge (b := 1600) (by omega) (by omega)), nI_add]
    by_cases e : k = 146
    · rw [if_pos ((hT.kd (j := 146) (x := 146) rfl (by omega)).mpr e)]
      by_cases e6 : a + nn ≤ 6
      · obtain ⟨k1, p1, n1, v1, wd1, c1, m1, b1, b2, b3, b4, b5⟩ := A_not h (by rw [List.length_append, List.length_replicate]; omega) e (may_rep hS nn) e6
        obtain ⟨fu, rfl⟩ : ∃ g, fu = g + 1 := ⟨fu - 1, by omega⟩
        rw [if_pos (show nI (a + nn) ≤ (6 : Int32) from nI_le (b := 6) e6 (by omega)), b1, cV_some, nI_1]
        rw [← List.cons_append, ← List.replicate_succ] at b3
        exact ih (nn + 1) f fu c1 m1 k1 p1 n1 v1 wd1 (by omega) (by omega) (by omega) b3 (fun g => by rw [hR, b2]) (by omega) (fc.trans b4) (fm.trans b5)
      · rw [if_neg (show ¬ nI (a + nn) ≤ (6 : Int32) from nI_ge (a := 6) (by omega) (by omega))]
        obtain ⟨c', s1, s2, s3, s4, s5⟩ := refuse_ok hT 2
        have s1' : fX7_refuse c (2 : Int32) = some (0, c') := s1
        obtain ⟨m', b1, b2, b3⟩ := A_bad h (by rw [List.length_append, List.length_replicate]; omega) hsz.2.2.2.2 hsz.2.2.2.1 hn (Or.inl ⟨e, may_rep hS nn, by omega⟩)
        rw [s1', cI_some, tz_0]
        exact Or.inl ⟨c', rfl, m', 1, by omega, fun g => by rw [hR]; exact b1 fu g (by omega), bad_of s4 s5 b2, fc.trans (frC.of4 hK.1.1 s2), fm.trans b3⟩
    · rw [if_neg (fun z => e ((hT.kd (j := 146) (x := 146) rfl (by omega)).mp z))]
      exact rel nn f fu c m k p n v wd hn (by omega) e h hR hfu fc fm
theorem one_ok (ha : a ≤ 7) (hF : ∀ n, a + n ≤ 7 → LV bt L Q w 4 (a + n) (fun c => fX7_readRelation rec c (nI (a + n)))) : LV bt L Q w 3 a (fun c => fX7_readOne rec c (nI a)) := by
  intro Ec Em S u o k p n v wd c m h hsz hS hnot fu hfu
  exact one_loop ha hF ⟨hsz.1, hsz.2.1, hsz.2.2.1, hsz.2.2.2⟩ hS 7 0 5000 fu c m k p n v wd (by omega) (by omega) (by omega) h (fun _ => rfl) (by omega) frC.rfl' frM.rfl'
theorem either_all : ∀ d a, a ≤ 7 → 8 ≤ a + d → LV bt L Q w 1 a (fun c => fX7_either d c (nI a))
  | 0, a, h1, h2 => by omega
  | d + 1, a, h1, h2 => by
    have hunit : ∀ b, a ≤ b → b ≤ 7 → LV bt L Q w 7 b (fun c => fX7_readUnit (fX7_either d) c (nI b)) := fun b x y => unit_ok y (fun z => either_all d (b + 1) (by omega) (by omega))
    have hrel : ∀ n, a + n ≤ 7 → LV bt L Q w 4 (a + n) (fun c => fX7_readRelation (fX7_either d) c (nI (a + n))) := fun n x => rela_ok x (sum_ok x (term_ok x (hunit (a + n) (by omega) x)))
    exact eith_ok h1 (both_ok h1 (one_ok h1 hrel))
end
