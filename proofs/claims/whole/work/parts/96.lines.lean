/-! ===== lines: what is found, what is refused ===== -/
section
variable {bt : Nat → Nat} {L : Nat} {T : Tn} {nms : Nat → List Nat} {k p n v : Nat} {wd : List Nat} {c m : Mem}
/-- a name among those told -/
theorem find_c (hP : PT T nms) (hC : PC T nms c) (hw : VW wd) : (∃ i, i < tnp T ∧ nms i = wd ∧ fX6_find c (tP T) (lN (enc 27 96 wd)) = some (nI i)) ∨ ((∀ i, i < tnp T → ¬ nms i = wd) ∧ fX6_find c (tP T) (lN (enc 27 96 wd)) = some (-1)) := by
  have h7 := hP.1.1
  have key : ∀ (j i : Nat), i + j = tnp T → ∀ f, j < f → (∀ q, q < i → ¬ nms q = wd) → (∃ i, i < tnp T ∧ nms i = wd ∧ ∀ f', f' = f → ∀ i0, i0 = tnp T - j → gX6_find c f' (tP T) (lN (enc 27 96 wd)) (nI i0) = some (nI i)) ∨ ((∀ i, i < tnp T → ¬ nms i = wd) ∧ ∀ f', f' = f → ∀ i0, i0 = tnp T - j → gX6_find c f' (tP T) (lN (enc 27 96 wd)) (nI i0) = some (-1)) := by
    intro j
    induction j with
    | zero =>
      intro i hi f hf hq
      obtain ⟨f, rfl⟩ : ∃ g, f = g + 1 := ⟨f - 1, by omega⟩
      refine Or.inr ⟨fun q hq2 => hq q (by omega), fun f' hf' i0 hi0 => ?_⟩
      rw [hf', hi0, gX6_find, gPl_ok hP.2.1, hC.2.1.1, if_pos (nI_le (by omega) (by omega))]
    | succ j ih =>
      intro i hi f hf hq
      obtain ⟨f, rfl⟩ : ∃ g, f = g + 1 := ⟨f - 1, by omega⟩
      have hin := (hC.2.2.1 i (by omega)).1
      have hv := hP.2.2.1 i (by omega)
      by_cases e : nms i = wd
      · refine Or.inl ⟨i, by omega, e, fun f' hf' i0 hi0 => ?_⟩
        rw [hf', show i0 = i by omega, gX6_find, gPl_ok hP.2.1, hC.2.1.1, if_neg (nI_ge (by omega) (by omega)), rdL_ok (by omega) (by omega), hin, if_pos ((lg_cmp_eq _ _).mpr (by rw [e]))]
      · have st : ∀ i0, i0 = tnp T - (j + 1) → gX6_find c (f + 1) (tP T) (lN (enc 27 96 wd)) (nI i0) = gX6_find c f (tP T) (lN (enc 27 96 wd)) (nI (tnp T - j)) := fun i0 hi0 => by
          rw [show i0 = i by omega, gX6_find, gPl_ok hP.2.1, hC.2.1.1, if_neg (nI_ge (by omega) (by omega)), rdL_ok (by omega) (by omega), hin, if_neg (fun z => e ((e27_inj hv hw).mp ((lg_cmp_eq _ _).mp z))), nI_1, show i + 1 = tnp T - j by omega]
        rcases ih (i + 1) (by omega) f (by omega) (fun q hq2 => by
          by_cases y : q = i
          · rw [y]; exact e
          · exact hq q (by omega)) with ⟨q, x, y, z⟩ | ⟨x, y⟩
        · exact Or.inl ⟨q, x, y, fun f' hf' i0 hi0 => by rw [hf', st i0 hi0]; exact z f rfl _ rfl⟩
        · exact Or.inr ⟨x, fun f' hf' i0 hi0 => by rw [hf', st i0 hi0]; exact y f rfl _ rfl⟩
  rcases key (tnp T) 0 (by omega) 5000 (by omega) (fun q hq => by omega) with ⟨q, x, y, z⟩ | ⟨x, y⟩
  · exact Or.inl ⟨q, x, y, z 5000 rfl 0 (by omega)⟩
  · exact Or.inr ⟨x, y 5000 rfl 0 (by omega)⟩
theorem find_m (hP : PT T nms) (hM : PM T nms m) (hw : VW wd) (h9 : m.2.1 0 9 = lN (enc 256 0 wd)) : (∀ i, i < tnp T → nms i = wd → fX12_find m = some (nI i)) ∧ ((∀ i, i < tnp T → ¬ nms i = wd) → fX12_find m = some (-1)) := by
  have h7 := hP.1.1
  have key : ∀ (j i : Nat), i + j = tnp T → ∀ f x, j < f → (∀ q, i ≤ q → q < tnp T → nms q = wd → gX12_find m f x (nI i) = some (nI q)) ∧ ((∀ q, i ≤ q → q < tnp T → ¬ nms q = wd) → gX12_find m f x (nI i) = some x) := by
    intro j
    induction j with
    | zero =>
      intro i hi f x hf
      obtain ⟨f, rfl⟩ : ∃ g, f = g + 1 := ⟨f - 1, by omega⟩
      refine ⟨fun q a b => by omega, fun _ => ?_⟩
      rw [gX12_find, hM.1.1, if_pos (nI_le (by omega) (by omega))]
    | succ j ih =>
      intro i hi f x hf
      obtain ⟨f, rfl⟩ : ∃ g, f = g + 1 := ⟨f - 1, by omega⟩
      have hin := (hM.2.1 i (by omega)).1
      have hv := hP.2.2.1 i (by omega)
      rw [gX12_find, hM.1.1, if_neg (nI_ge (by omega) (by omega)), rdL_ok (by omega) (by omega), hin, h9, nI_1]
      by_cases e : nms i = wd
      · rw [if_pos ((lg_cmp_eq _ _).mpr (by rw [e]))]
        have hun : ∀ q, q < tnp T → nms q = wd → q = i := fun q hq y => hP.2.2.2.1 q i hq (by omega) (by rw [y, e])
        refine ⟨fun q a b y => ?_, fun y => absurd e (y i (by omega) (by omega))⟩
        rw [hun q b y]
        exact (ih (i + 1) (by omega) f (nI i) (by omega)).2 (fun q2 a2 b2 y2 => by have := hun q2 b2 y2; omega)
      · rw [if_neg (fun z => e ((e256_inj hv hw).mp ((lg_cmp_eq _ _).mp z)))]
        obtain ⟨i1, i2⟩ := ih (i + 1) (by omega) f x (by omega)
        refine ⟨fun q a b y => i1 q ?_ b y, fun y => i2 (fun q a b => y q (by omega) b)⟩
        by_cases z : q = i
        · rw [z] at y; exact absurd y e
        · omega
  obtain ⟨a1, a2⟩ := key (tnp T) 0 (by omega) 5000 (-1) (by omega)
  exact ⟨fun i hi e => a1 i (by omega) hi e, fun h => a2 (fun q _ b => h q b)⟩
theorem name_m (h : TK L k p n v wd c m) : fX12_isName m = some (if k = 2 then 1 else 0) := by
  unfold fX12_isName
  by_cases e : k = 2 ∨ 128 ≤ k
  · rw [if_pos (h.s1.mpr e)]
    obtain ⟨e1, e2, e3⟩ := h.2.2.2.2.2.2.2.2.2.2.2.1 e
    have hk := h.vk.1
    have own : fX12_isOwn m = some (if 128 ≤ k then 1 else 0) := by
      obtain ⟨w0, w1, w2, w3, w4, w5, w6, w7, w8, w9, w10, w11, w12, w13, w14, w15, w16, w17, w18⟩ := wc_all
      have key : ∀ j, j < 19 → ((lg_cmp (m.2.1 0 9) (lN (enc 256 0 (wrd j))) = 0) ↔ k = 128 + j) := fun j hj => by rw [e2, lg_cmp_eq, e256_inj e1 (wrd_vw hj), e3 j hj]
      unfold fX12_isOwn
      rw [← w0, ← w1, ← w2, ← w3, ← w4, ← w5, ← w6, ← w7, ← w8, ← w9, ← w10, ← w11, ← w12, ← w13, ← w14, ← w15, ← w16, ← w17, ← w18]
      by_cases q0 : k = 128 + 0
      · rw [if_pos ((key 0 (by omega)).mpr q0), if_pos (show 128 ≤ k by omega)]
      rw [if_neg (fun z => q0 ((key 0 (by omega)).mp z))]
      by_cases q8 : k = 128 + 8
      · rw [if_pos ((key 8 (by omega)).mpr q8), if_pos (show 128 ≤ k by omega)]
      rw [if_neg (fun z => q8 ((key 8 (by omega)).mp z))]
      by_cases q9 : k = 128 + 9
      · rw [if_pos ((key 9 (by omega)).mpr q9), if_pos (show 128 ≤ k by omega)]
      rw [if_neg (fun z => q9 ((key 9 (by omega)).mp z))]
      by_cases q10 : k = 128 + 10
      · rw [if_pos ((key 10 (by omega)).mpr q10), if_pos (show 128 ≤ k by omega)]
      rw [if_neg (fun z => q10 ((key 10 (by omega)).mp z))]
      by_cases q1 : k = 128 + 1
      · rw [if_pos ((key 1 (by omega)).mpr q1), if_pos (show 128 ≤ k by omega)]
      rw [if_neg (fun z => q1 ((key 1 (by omega)).mp z))]
      by_cases q11 : k = 128 + 11
      · rw [if_pos ((key 11 (by omega)).mpr q11), if_pos (show 128 ≤ k by omega)]
      rw [if_neg (fun z => q11 ((key 11 (by omega)).mp z))]
      by_cases q12 : k = 128 + 12
      · rw [if_pos ((key 12 (by omega)).mpr q12), if_pos (show 128 ≤ k by omega)]
      rw [if_neg (fun z => q12 ((key 12 (by omega)).mp z))]
      by_cases q2 : k = 128 + 2
      · rw [if_pos ((key 2 (by omega)).mpr q2), if_pos (show 128 ≤ k by omega)]
      rw [if_neg (fun z => q2 ((key 2 (by omega)).mp z))]
      by_cases q13 : k = 128 + 13
      · rw [if_pos ((key 13 (by omega)).mpr q13), if_pos (show 128 ≤ k by omega)]
      rw [if_neg (fun z => q13 ((key 13 (by omega)).mp z))]
      by_cases q3 : k = 128 + 3
      · rw [if_pos ((key 3 (by omega)).mpr q3), if_pos (show 128 ≤ k by omega)]
      rw [if_neg (fun z => q3 ((key 3 (by omega)).mp z))]
      by_cases q4 : k = 128 + 4
      · rw [if_pos ((key 4 (by omega)).mpr q4), if_pos (show 128 ≤ k by omega)]
      rw [if_neg (fun z => q4 ((key 4 (by omega)).mp z))]
      by_cases q5 : k = 128 + 5
      · rw [if_pos ((key 5 (by omega)).mpr q5), if_pos (show 128 ≤ k by omega)]
      rw [if_neg (fun z => q5 ((key 5 (by omega)).mp z))]
      by_cases q6 : k = 128 + 6
      · rw [if_pos ((key 6 (by omega)).mpr q6), if_pos (show 128 ≤ k by omega)]
      rw [if_neg (fun z => q6 ((key 6 (by omega)).mp z))]
      by_cases q7 : k = 128 + 7
      · rw [if_pos ((key 7 (by omega)).mpr q7), if_pos (show 128 ≤ k by omega)]
      rw [if_neg (fun z => q7 ((key 7 (by omega)).mp z))]
      by_cases q14 : k = 128 + 14
      · rw [if_pos ((key 14 (by omega)).mpr q14), if_pos (show 128 ≤ k by omega)]
      rw [if_neg (fun z => q14 ((key 14 (by omega)).mp z))]
      by_cases q15 : k = 128 + 15
      · rw [if_pos ((key 15 (by omega)).mpr q15), if_pos (show 128 ≤ k by omega)]
      rw [if_neg (fun z => q15 ((key 15 (by omega)).mp z))]
      by_cases q17 : k = 128 + 17
      · rw [if_pos ((key 17 (by omega)).mpr q17), if_pos (show 128 ≤ k by omega)]
      rw [if_neg (fun z => q17 ((key 17 (by omega)).mp z))]
      by_cases q16 : k = 128 + 16
      · rw [if_pos ((key 16 (by omega)).mpr q16), if_pos (show 128 ≤ k by omega)]
      rw [if_neg (fun z => q16 ((key 16 (by omega)).mp z))]
      by_cases q18 : k = 128 + 18
      · rw [if_pos ((key 18 (by omega)).mpr q18), if_pos (show 128 ≤ k by omega)]
      rw [if_neg (fun z => q18 ((key 18 (by omega)).mp z))]
      rw [if_neg (show ¬ 128 ≤ k by omega)]
    rw [own, cP_some]
    by_cases y : k = 2
    · rw [if_pos y, if_neg (show ¬ 128 ≤ k by omega), if_pos rfl]
    · rw [if_neg y, if_pos (show 128 ≤ k by omega), if_neg (show ¬ (1 : Int32) = 0 by decide)]
  · rw [if_neg (fun z => e (h.s1.mp z)), if_neg (by omega)]
/-- a person told ahead -/
theorem PI.person (h : PI bt L T nms k p n v wd c m) : (∃ c' m' f q, fX7_personHere c = some (-1, c') ∧ fX12_oldPerson m = some (0, m') ∧ bad c' m' ∧ MF f q m' ∧ GC (tP T) c c' ∧ GM m m' ∧ (∀ s, s ≠ 2 → s ≠ 3 → m'.1 0 s = m.1 0 s)) ∨ (∃ i, i < tnp T ∧ k = 2 ∧ nms i = wd ∧ fX7_personHere c = some (nI i, c) ∧ fX12_oldPerson m = some (nI i, m)) := by
  obtain ⟨hB, hT, hP, hC, hM, h0⟩ := h
  have h' : PI bt L T nms k p n v wd c m := ⟨hB, hT, hP, hC, hM, h0⟩
  have h7 := hP.1.1
  have hk := hT.kd (j := 2) (x := 2) rfl (by omega)
  unfold fX7_personHere fX12_oldPerson
  rw [if_pos (show m.1 0 2 ≤ 0 by rw [h0]; decide), name_m hT, cP_some]
  by_cases e : k = 2
  · obtain ⟨e1, e2, e3⟩ := hT.2.2.2.2.2.2.2.2.2.2.2.1 (Or.inl e)
    have h7' : c.2.1 1 7 = lN (enc 27 96 wd) := hT.2.2.2.2.2.2.2.2.2.2.1 e
    obtain ⟨f1, f2⟩ := find_m hP hM e1 e2
    rw [if_pos (hk.mpr e), if_pos e, if_neg (show ¬ (1 : Int32) = 0 by decide), hC.1, gPl_ok hP.2.1, h7']
    rcases find_c hP hC e1 with ⟨i, a1, a2, a3⟩ | ⟨a1, a2⟩
    · refine Or.inr ⟨i, a1, e, a2, ?_, ?_⟩
      · rw [a3, cP_some, if_neg (fun z => nI_lt0 (k := i) (by omega) (by rw [z]; decide))]
      · rw [f1 i a1 a2, cP_some, if_pos (nI_pos' (by omega)), if_pos (show m.1 0 2 ≤ 0 by rw [h0]; decide), cP_some]
    · obtain ⟨c', m', b1, b2, b3, b4, b5, b6, b7⟩ := h'.no (x := 5) (by omega)
      refine Or.inl ⟨c', m', _, _, ?_, ?_, b3, b4, b5, b6, b7⟩
      · rw [a2, cP_some, if_pos rfl, show fX7_refuse c (5 : Int32) = _ from b1, cI_some]
      · rw [f2 a1, cP_some, if_neg (show ¬ (0 : Int32) ≤ -1 by decide), show fX12_wrong m (5 : Int32) = _ from b2, cV_some, if_neg b4.pos.2]
  · obtain ⟨c', m', b1, b2, b3, b4, b5, b6, b7⟩ := h'.no (x := 2) (by omega)
    refine Or.inl ⟨c', m', _, _, ?_, ?_, b3, b4, b5, b6, b7⟩
    · rw [if_neg (fun z => e (hk.mp z)), show fX7_refuse c (2 : Int32) = _ from b1, cI_some]
    · rw [if_neg e, if_pos rfl, show fX12_wrong m (2 : Int32) = _ from b2, cV_some, if_neg b4.pos.2]
end
