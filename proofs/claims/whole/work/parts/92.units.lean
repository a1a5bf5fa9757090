/-! ===== units, terms, sums, relations ===== -/
theorem frC.of4 {Q w : Nat} {c c' : Mem} (hQ : Q = 5 ∨ Q = 32) (hk : keeps [4] c c') : frC Q w c c' := by
  refine ⟨by rw [hk.1], fun r hr => hk.2 r (by simp at hr ⊢; omega), fun s _ => by rw [hk.2 1 (by simp)], fun s _ => by rw [hk.2 Q (by simp; omega)], fun s _ => by rw [hk.2 _ (by simp; omega)], fun r _ => by rw [hk.1]⟩
section
variable {bt : Nat → Nat} {L Q w a : Nat} {rec : Mem → Int32 → Option (Int32 × Mem)}
theorem bad_of {c m : Mem} {k p : Nat} (hc : c.1 4 4 = nI (if k = 0 then 1 else 2)) (hc2 : c.1 4 5 = nI p) (hm : MF (if k = 0 then 1 else 2) p m) : bad c m := ⟨if k = 0 then 1 else 2, p, hm.1.1, hm.1.2.1, hm.1.2.2, hc, hc2, hm.2.1, hm.2.2⟩
theorem unit_ok (ha : a ≤ 7) (hrec : a ≤ 6 → LV bt L Q w 1 (a + 1) (fun c => rec c (nI (a + 1)))) : LV bt L Q w 7 a (fun c => fX7_readUnit rec c (nI a)) := by
  intro Ec Em S u o k p n v wd c m h hsz hS hnot fu hfu
  have h' := h
  obtain ⟨hB, hT, hK, hR⟩ := h'
  obtain ⟨z1, z2, z3, z4, z5⟩ := hsz
  have hsl : slL 7 = 5 := rfl
  rw [hsl] at z3
  have hQ := hK.1.1
  have hw := hK.1.2
  have hk147 := hT.vk.1
  obtain ⟨c', r1, r2, r3, r4, r5⟩ := refuse_ok hT 2
  have r1' : fX7_refuse c (2 : Int32) = some (0, c') := r1
  have hnot' := hnot (by omega)
  have fail : ((k = 146 ∧ mayN S = true ∧ ¬ a ≤ 6) ∨ (k = 40 ∧ (u = 60 ∨ o = 30 ∨ ¬ a ≤ 6)) ∨ (¬ k = 40 ∧ (¬ k = 146 ∨ mayN S = false) ∧ ¬ k = 3 ∧ askN k < 0) ∨ (¬ k = 40 ∧ ¬ k = 146 ∧ (k = 3 ∨ ¬ askN k < 0) ∧ (u = 60 ∨ o = 30))) → RES bt L Q w 7 a Ec Em S o (fun g => runA fu g m) c m (cI (fX7_refuse c (2 : Int32)) fun r54 m55 => (tz r54 (some (r54, m55)))) := fun hb => by
    obtain ⟨m', b1, b2, b3⟩ := A_bad h (by omega) z5 z4 ha hb
    refine Or.inl ⟨c', by rw [r1', cI_some, tz_0], m', 1, by omega, fun g => b1 fu g (by omega), bad_of r4 r5 b2, frC.of4 hQ r2, b3⟩
  have hfullC : ∀ (A B : Option (Int32 × Mem)), (if (60 : Int32) ≤ (c.1 Q 18) then A else (if (c.1 4 3) < (30 : Int32) then B else A)) = if u = 60 ∨ o = 30 then A else B := fun A B => by
    rw [hK.2.2.2.1, hK.2.2.2.2.1]
    by_cases e : u = 60
    · rw [if_pos (show (60 : Int32) ≤ nI u by rw [e]; decide), if_pos (Or.inl e)]
    · rw [if_neg (show ¬ (60 : Int32) ≤ nI u from nI_ge (b := 60) (by omega) (by omega))]
      by_cases e2 : o = 30
      · rw [if_neg (show ¬ nI o < (30 : Int32) by rw [e2]; decide), if_pos (Or.inr e2)]
      · rw [if_pos (show nI o < (30 : Int32) from nI_lt (b := 30) (by omega) (by omega)), if_neg (by omega)]
  have hcnt : ∀ K : Mem → Option (Int32 × Mem), (pt (sI c Q 18 ((c.1 Q 18) + (1 : Int32))) fun m8 => (pt (sI m8 4 3 ((m8.1 4 3) + (1 : Int32))) K)) = K (sI (sI c Q 18 (nI (u + 1))) 4 3 (nI (o + 1))) := fun K => by
    rw [pt_eq, pt_eq, hK.2.2.2.1, nI_1, sI_oth (by omega), hK.2.2.2.2.1, nI_1]
  show RES bt L Q w 7 a Ec Em S o (fun g => runA fu g m) c m (fX7_readUnit rec c (nI a))
  unfold fX7_readUnit
  rw [hK.2.1]
  by_cases e40 : k = 40
  · rw [if_pos ((hT.kd (j := 40) (x := 40) rfl (by omega)).mpr e40), gPl_ok hQ, hfullC]
    by_cases ef : u = 60 ∨ o = 30
    · rw [if_pos ef]
      exact fail (Or.inr (Or.inl ⟨e40, by omega⟩))
    · rw [if_neg ef]
      by_cases ea : a ≤ 6
      · rw [if_pos (show nI a ≤ (6 : Int32) from nI_le (b := 6) ea (by omega)), hcnt]
        obtain ⟨k1, p1, n1, v1, wd1, c1, m1, b1, b2, b3, b4, b5⟩ := A_open h (by omega) e40 (by omega) (by omega) ea
        rw [b1, cV_some, nI_1]
        obtain ⟨fu, rfl⟩ : ∃ f, fu = f + 1 := ⟨fu - 1, by omega⟩
        have hres := hrec ea Ec Em (20 :: S) (u + 1) (o + 1) k1 p1 n1 v1 wd1 c1 m1 b3 ⟨by omega, by omega, by rw [List.length_cons, show slL 1 = 0 from rfl]; omega, by omega, by omega⟩ (Or.inl rfl) (fun z => by omega) fu (by omega)
        rcases hres with ⟨c3, q1, m3, j3, q2, q3, q4, q5, q6⟩ | ⟨c3, k3, o3, q1, m3, j3, P, E, E', Em1, val, p3, n3, v3, wd3, u3, y1, y2, y3, y4, y5, y6, y7, y8, y9, y10⟩
        · rw [show rec c1 (nI (a + 1)) = _ from q1, cI_some, if_pos rfl]
          refine Or.inl ⟨c3, rfl, m3, j3, by omega, fun g => ?_, q4, b4.trans q5, b5.trans q6⟩
          show runA (fu + 1) (g + j3) m = some m3
          rw [b2]
          exact q3 g
        · have y2' : ∀ g, runA (fu + 1) (g + j3) m = runB g m3 := fun g => by rw [b2]; exact y2 g
          rw [show rec c1 (nI (a + 1)) = _ from q1, cI_some, if_neg (show ¬ (1 : Int32) = 0 by decide)]
          have hpl : P.length ≤ 12 := y7.1
          have hsC : sC 1 = 1 := rfl
          have hsM : sM 1 = 1 := rfl
          rw [hsC, hsM] at y6
          have hlen : Em1.length + P.length = Em.length + E'.length := by
            have := congrArg List.length y4
            rw [List.length_append, List.length_append] at this
            rw [show P.length = (flP P).length by unfold flP; rw [List.length_map]]
            exact this
          unfold fX7_pass
          by_cases e41 : k3 = 41
          · rw [if_pos ((y3.2.1.kd (j := 41) (x := 41) rfl (by omega)).mpr e41)]
            obtain ⟨k4, p4, n4, v4, wd4, c4, m4, d1, d2, d3, d4, d5⟩ := B_close y3 e41 (by omega) (by omega) (fun x hx => (y7.2 x hx).2) (by omega)
            rw [d1, cV_some, cI_some, if_neg (show ¬ (1 : Int32) = 0 by decide)]
            rw [y4, show a + 1 + nN P - nN P - 1 = a by omega] at d3
            refine Or.inr ⟨c4, k4, o3, rfl, m4, j3 + 1, [], E, E', Em ++ E', val, p4, n4, v4, wd4, u3, ⟨by omega, by omega, y1.2.2.1, y1.2.2.2⟩, fun g => ?_, d3, by rw [show flP [] = [] from rfl, List.append_nil], y5.mono (by omega), ⟨by rw [show sC 7 = 3 from rfl]; omega, by rw [show sM 7 = 8 from rfl]; omega⟩, ⟨Nat.zero_le _, fun x hx => by cases hx⟩, ?_, b4.trans (y9.trans d4), b5.trans (y10.trans d5)⟩
            · show runA (fu + 1) (g + (j3 + 1)) m = runB g m4
              rw [show g + (j3 + 1) = (g + 1) + j3 by omega, y2', d2]
            · by_cases es : sgn k4 = 0
              · exact Or.inl es
              · have := (tgt_ok _ (sgn_few k4 d3.2.1.vk.1 es).1).2.2
                exact Or.inr (Or.inl (by omega))
          · rw [if_neg (fun z => e41 ((y3.2.1.kd (j := 41) (x := 41) rfl (by omega)).mp z))]
            obtain ⟨c4, s1, s2, s3, s4, s5⟩ := refuse_ok y3.2.1 2
            have s1' : fX7_refuse c3 (2 : Int32) = some (0, c4) := s1
            rw [s1', cI_some, tz_0, cI_some, if_pos rfl]
            obtain ⟨m4, d1, d2, d3⟩ := B_bad y3 (by rw [List.length_append, List.length_cons]; omega) e41 (by simp) (by
              rcases y8 with z | z | z
              · exact Or.inl z
              · by_cases es : sgn k3 = 0
                · exact Or.inl es
                · have := (tgt_ok _ (sgn_few k3 y3.2.1.vk.1 es).1).2.1
                  omega
              · exact Or.inr ⟨z.1, hrel_app _ _ z.2⟩)
            refine Or.inl ⟨c4, rfl, m4, j3 + 2, by omega, fun g => ?_, bad_of s4 s5 d2, b4.trans (y9.trans (frC.of4 hQ s2)), b5.trans (y10.trans d3)⟩
            show runA (fu + 1) (g + (j3 + 2)) m = some m4
            rw [show g + (j3 + 2) = (g + 2) + j3 by omega, y2', d1]
      · rw [if_neg (show ¬ nI a ≤ (6 : Int32) from nI_ge (a := 6) (by omega) (by omega))]
        exact fail (Or.inr (Or.inl ⟨e40, by omega⟩))
  · rw [if_neg (fun z => e40 ((hT.kd (j := 40) (x := 40) rfl (by omega)).mp z))]
    have f9 : ∀ r, (r = 1 ∨ r = 2) → (sI (sI c Q 18 (nI (u + 1))) 4 3 (nI (o + 1))).1 r = c.1 r := fun r hr => by rw [sI_oth (by omega), sI_oth (by omega)]
    have leaf : (k = 3 ∨ ¬ askN k < 0) → ¬ (u = 60 ∨ o = 30) → RES bt L Q w 7 a Ec Em S o (fun g => runA fu g m) c m (cV (fX3_put (sI (sI c Q 18 (nI (u + 1))) 4 3 (nI (o + 1))) (Q + (12 + 3 * w)) (if k = 3 then nI v else givN k)) fun m20 => (cV (fX10_advance m20) fun m22 => (some ((1 : Int32), m22)))) := fun hl hf => by
      obtain ⟨k1, p1, n1, v1, wd1, c1, c2, m1, b1, b2, b3, b4, b5, b6⟩ := A_leaf h e40 hl (by omega) (by omega) (by omega) (by omega)
      rw [b1, cV_some, b2, cV_some]
      obtain ⟨fu, rfl⟩ : ∃ f, fu = f + 3 := ⟨fu - 3, by omega⟩
      have hden : ∃ val, Den 1 [if k = 3 then nI v else givN k] [if k = 3 then ((0 : Int32), nI v) else (1, askN k)] val := by
        by_cases y : k = 3
        · rw [if_pos y, if_pos y]
          exact ⟨_, Den.num (hT.num y).1⟩
        · rw [if_neg y, if_neg y]
          exact ⟨_, Den.ask hk147 (hl.resolve_left y)⟩
      obtain ⟨val, hval⟩ := hden
      refine Or.inr ⟨c2, k1, o + 1, rfl, m1, 0, [], _, _, _, val, p1, n1, v1, wd1, u + 1, ⟨by omega, by omega, by omega, by omega⟩, fun g => b3 fu g, b4, by rw [show flP [] = [] from rfl, List.append_nil], hval.mono (by omega), ⟨by rw [show sC 7 = 3 from rfl, List.length_singleton]; omega, by rw [show sM 7 = 8 from rfl, List.length_singleton]; omega⟩, ⟨Nat.zero_le _, fun x hx => by cases hx⟩, ?_, b5, b6⟩
      by_cases es : sgn k1 = 0
      · exact Or.inl es
      · have := (tgt_ok _ (sgn_few k1 b4.2.1.vk.1 es).1).2.2
        exact Or.inr (Or.inl (by omega))
    by_cases e3 : k = 3
    · rw [if_pos ((hT.kd (j := 3) (x := 3) rfl (by omega)).mpr e3), gPl_ok hQ, hfullC]
      by_cases ef : u = 60 ∨ o = 30
      · rw [if_pos ef]
        exact fail (Or.inr (Or.inr (Or.inr ⟨e40, by omega, Or.inl e3, ef⟩)))
      · rw [if_neg ef, hcnt, f9 1 (by omega), if_pos ((hT.kd (j := 3) (x := 3) rfl (by omega)).mpr e3), sI_2, sI_2, hK.2.2.1, gFm_ok (by omega), (hT.num e3).2.1]
        have := leaf (Or.inl e3) ef
        rw [if_pos e3] at this
        exact this
    · have hg := hT.given
      rw [if_neg (fun z => e3 ((hT.kd (j := 3) (x := 3) rfl (by omega)).mp z)), hg, cP_some]
      have hgk := (giv_k k hk147).2
      by_cases eg : givN k = 0
      · rw [if_pos eg]
        exact fail (Or.inr (Or.inr (Or.inl ⟨e40, hnot', e3, hgk.mp eg⟩)))
      · rw [if_neg eg, gPl_ok hQ, hfullC]
        have ha : ¬ askN k < 0 := fun z => eg (hgk.mpr z)
        by_cases ef : u = 60 ∨ o = 30
        · rw [if_pos ef]
          refine fail (Or.inr (Or.inr (Or.inr ⟨e40, fun z => ha (by rw [z]; decide), Or.inr ha, ef⟩)))
        · rw [if_neg ef, hcnt, f9 1 (by omega), if_neg (fun z => e3 ((hT.kd (j := 3) (x := 3) rfl (by omega)).mp z)), sI_2, sI_2, hK.2.2.1]
          have hg9 : fX7_givenHere (sI (sI c Q 18 (nI (u + 1))) 4 3 (nI (o + 1))) = some (givN k) := by
            unfold fX7_givenHere
            rw [f9 1 (by omega), hT.kind]
            exact (giv_k k hk147).1
          rw [hg9, cP_some, gFm_ok (by omega)]
          have := leaf (Or.inr ha) ef
          rw [if_neg e3] at this
          exact this
end
