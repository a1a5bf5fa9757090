/-! ===== the reference at the head of a unit (A) and behind one (B) ===== -/
def runB (g : Nat) (m : Mem) : Option Mem := gX12_formula g 1 m
def runA (fu g : Nat) (m : Mem) : Option Mem := cV (gX12_unit fu 0 1 0 m) fun m1 => gX12_formula g 1 m1
theorem BT.lk {bt : Nat → Nat} {L : Nat} {c m m' : Mem} (h : BT bt L c m) (hk : lxK m m') : BT bt L c m' := by
  refine ⟨h.1, h.2.1, by rw [hk.2.2 5 (by omega)]; exact h.2.2.1, ?_, by rw [hk.2.2 3 (by omega)]; exact h.2.2.2.2⟩
  rw [hk.2.1]
  exact h.2.2.2.1
theorem BT.ck {bt : Nat → Nat} {L : Nat} {c c' m : Mem} (h : BT bt L c m) (h2 : c'.2.1 3 = c.2.1 3) (h1 : c'.1 1 = c.1 1) (hr : c'.1 2 = c.1 2) (h4 : c'.1 4 4 = c.1 4 4 ∧ c'.1 4 5 = c.1 4 5) : BT bt L c' m := by
  unfold BT at *
  rw [h1, hr, h2, h4.1, h4.2]
  exact h
def mayN : List Nat → Bool
  | [] => true
  | x :: _ => decide (x = 20 ∨ tgt x < 4)
section
variable {w : Nat} {Em : List (Int32 × Int32)} {S : List Nat} {dp u o : Nat} {m : Mem}
theorem may_ok (h : FR w Em S dp u o m) (hs : S.length < 160) : fX12_mayNot m = some (if mayN S = true then 1 else 0) := by
  obtain ⟨⟨h0, h0'⟩, h1, h2, h3, h4, -⟩ := h
  unfold fX12_mayNot
  rw [h3]
  cases S with
  | nil => rw [if_pos (by decide), if_pos (show mayN [] = true from rfl)]
  | cons x S =>
    have hx := h0' x (by simp)
    have ht := tgt_ok x hx
    rw [List.length_cons] at hs
    rw [List.length_cons, if_neg (nI_ne0 (by omega) (by omega)), nI_pred, rd_ok (by omega) (by omega), h4.1, rd_ok (by omega) (by omega), h4.1, ht.1, cP_some]
    by_cases e : x = 20
    · rw [if_pos (by rw [e]; rfl), if_pos (by simp [mayN, e])]
    · rw [if_neg (show ¬ nI x = (20 : Int32) from fun z => e ((nI_eq (b := 20) (by omega) (by omega)).mp z))]
      by_cases e2 : tgt x < 4
      · rw [if_neg (show ¬ (4 : Int32) ≤ nI (tgt x) from nI_ge (b := 4) e2 (by omega)), if_pos (by simp [mayN, e2])]
      · rw [if_pos (show (4 : Int32) ≤ nI (tgt x) from nI_le (a := 4) (by omega) (by omega)), if_neg (by simp [mayN, e]; omega)]
theorem full_ok (h : FR w Em S dp u o m) (hu : u ≤ 60) (ho : o ≤ 30) : fX12_isFull m = some (if u = 60 ∨ o = 30 then 1 else 0) := by
  unfold fX12_isFull
  rw [h.2.2.2.2.2.2.1, h.2.2.2.2.2.2.2.1]
  by_cases e : u = 60
  · rw [if_pos (by rw [e]; rfl), if_pos (Or.inl e)]
  · rw [if_neg (show ¬ nI u = (60 : Int32) from fun z => e ((nI_eq (b := 60) (by omega) (by omega)).mp z))]
    by_cases e2 : o = 30
    · rw [if_pos (by rw [e2]; rfl), if_pos (Or.inr e2)]
    · rw [if_neg (show ¬ nI o = (30 : Int32) from fun z => e2 ((nI_eq (b := 30) (by omega) (by omega)).mp z)), if_neg (by omega)]
theorem open_ok (h : FR w Em S dp u o m) (hs : S.length < 160) {x : Nat} (hx : x < 128) : ∃ m3, (∀ m', fX12_token m3 = some m' → fX12_openUp m (nI x) = some m') ∧ FR w Em (x :: S) (dp + 1) u o m3 ∧ frM w m m3 ∧ lxK m m3 := by
  obtain ⟨a1, a2⟩ := h.push hx
  obtain ⟨b1, b2⟩ := a1.deep (dp + 1)
  have h3 := h.2.2.2.1
  have h5 := h.2.2.2.2.2.1
  refine ⟨_, fun m' hm' => ?_, b1, a2.trans b2, rfl, by rw [sI_oth (by omega), sI_oth (by omega), sI_oth (by omega)], fun s hs => by rw [sI_row, upd_ne (by omega), sI_row, upd_ne (by omega), sI_oth (by omega)]⟩
  have f1 : (sI m 9 S.length (nI x)).1 0 = m.1 0 := sI_oth (by omega)
  have f2 : (sI (sI m 9 S.length (nI x)) 0 22 (nI (S.length + 1))).1 0 26 = nI dp := by rw [sI_row, upd_ne (by omega), f1]; exact h5
  unfold fX12_openUp
  rw [h3, wr_ok (by omega) (by omega), pt_eq, f1, h3, nI_1, pt_eq, f2, nI_1, if_pos b1.2.1, hm', cV_some]
end
/-- the reference goes on with a fault -/
def MF (f p : Nat) (m : Mem) : Prop := (1 ≤ f ∧ f ≤ 5 ∧ p ≤ 1600) ∧ m.1 0 2 = nI f ∧ m.1 0 3 = nI p
section
variable {f p : Nat} {m : Mem}
theorem MF.pos (h : MF f p m) : ¬ m.1 0 2 = 0 ∧ ¬ m.1 0 2 ≤ 0 := by
  obtain ⟨⟨h1, h2, -⟩, h3, -⟩ := h
  rw [h3]
  exact ⟨nI_ne0 (by omega) (by omega), nI_nle (by omega) (by omega)⟩
theorem MF.opn (h : MF f p m) {w s : Nat} (hs : m.1 0 22 = nI s) (hl : s < 160) (x : Int32) : ∃ m', fX12_openUp m x = some m' ∧ MF f p m' ∧ frM w m m' := by
  unfold fX12_openUp
  rw [hs, wr_ok hl (by omega), pt_eq, pt_eq]
  have e2 : ∀ (a b d : Int32) (s : Nat), s ≠ 22 → s ≠ 26 → (sI (sI (sI m 9 d.toNatClampNeg x) 0 22 a) 0 26 b).1 0 s = m.1 0 s := fun a b d s x y => by rw [sI_row, upd_ne y, sI_row, upd_ne x, sI_oth (by omega)]
  have step : ∀ m3 : Mem, (∀ s, s ≠ 22 → s ≠ 26 → m3.1 0 s = m.1 0 s) → frM w m m3 → ∃ m', (if (m3.1 0 2) = 0 then (cV (fX12_token m3) fun m6 => (some m6)) else (some m3)) = some m' ∧ MF f p m' ∧ frM w m m' := by
    intro m3 k0 kf
    have h3 : MF f p m3 := ⟨h.1, by rw [k0 2 (by omega) (by omega)]; exact h.2.1, by rw [k0 3 (by omega) (by omega)]; exact h.2.2⟩
    rw [if_neg h3.pos.1]
    exact ⟨m3, rfl, h3, kf⟩
  refine step _ (fun s x y => by rw [sI_row, upd_ne y, sI_row, upd_ne x, sI_oth (by omega)]) ⟨fun r hr => ?_, fun s hs => ?_, fun i _ => ?_, fun i _ => ?_, fun _ _ => rfl⟩
  · simp only [List.mem_cons, List.not_mem_nil, or_false, not_or] at hr
    rw [sI_oth (by omega), sI_oth (by omega), sI_oth (by omega)]
  · simp only [List.mem_cons, List.not_mem_nil, or_false, not_or] at hs
    rw [sI_row, upd_ne (by omega), sI_row, upd_ne (by omega), sI_oth (by omega)]
  · rw [sI_oth (by omega), sI_oth (by omega), sI_oth (by omega)]
  · exact ⟨by rw [sI_oth (by omega), sI_oth (by omega), sI_oth (by omega)], by rw [sI_oth (by omega), sI_oth (by omega), sI_oth (by omega)]⟩
theorem MF.count (h : MF f p m) {w s : Nat} (hs : m.1 0 22 = nI s) : ∃ m', fX12_countUnit m = some m' ∧ MF f p m' ∧ frM w m m' ∧ m'.1 0 22 = nI s := by
  unfold fX12_countUnit
  rw [pt_eq, pt_eq]
  refine ⟨_, rfl, ⟨h.1, by rw [sI_row, upd_ne (by omega), sI_row, upd_ne (by omega)]; exact h.2.1, by rw [sI_row, upd_ne (by omega), sI_row, upd_ne (by omega)]; exact h.2.2⟩, ⟨fun r hr => ?_, fun s hs => ?_, fun i _ => ?_, fun i _ => ?_, fun _ _ => rfl⟩, by rw [sI_row, upd_ne (by omega), sI_row, upd_ne (by omega)]; exact hs⟩
  · simp only [List.mem_cons, List.not_mem_nil, or_false, not_or] at hr
    rw [sI_oth (by omega), sI_oth (by omega)]
  · simp only [List.mem_cons, List.not_mem_nil, or_false, not_or] at hs
    rw [sI_row, upd_ne (by omega), sI_row, upd_ne (by omega)]
  · rw [sI_oth (by omega), sI_oth (by omega)]
  · exact ⟨by rw [sI_oth (by omega), sI_oth (by omega)], by rw [sI_oth (by omega), sI_oth (by omega)]⟩
theorem MF.unit (h : MF f p m) (fu : Nat) : gX12_unit (fu + 1) 0 1 0 m = some m := by
  rw [gX12_unit, if_neg (show ¬ (1 : Int32) = 0 by decide), if_neg h.pos.1, if_neg h.pos.2]
theorem MF.unit1 (h : MF f p m) (fu : Nat) (x : Int32) : gX12_unit (fu + 1) 1 0 x m = some m := by
  rw [gX12_unit, if_neg h.pos.2]
theorem MF.runB (h : MF f p m) (g : Nat) : runB (g + 1) m = some m := by
  unfold _root_.Jvm.Pilot.CHingeTownLaw_law_r9371_c971df.runB
  rw [gX12_formula, if_neg (show ¬ (1 : Int32) = 0 by decide), if_neg h.pos.1, if_neg h.pos.1, if_neg h.pos.1]
end
theorem frM.of0 {w : Nat} {m m' : Mem} (hk : keeps [0] m m') (h0 : ∀ s, s ≠ 2 → s ≠ 3 → m'.1 0 s = m.1 0 s) : frM w m m' := by
  refine ⟨fun r hr => hk.2 r (by simp at hr ⊢; omega), fun s hs => ?_, fun i _ => by rw [hk.2 5 (by simp)], fun i _ => ⟨by rw [hk.2 3 (by simp)], by rw [hk.2 4 (by simp)]⟩, fun r _ => by rw [hk.1]⟩
  simp only [List.mem_cons, List.not_mem_nil, or_false, not_or] at hs
  exact h0 s (by omega) (by omega)
section
variable {bt : Nat → Nat} {L Q w : Nat} {Ec : List Int32} {Em : List (Int32 × Int32)} {S : List Nat} {dp u o k p n v : Nat} {wd : List Nat} {c m : Mem}
theorem SF.p16 (h : SF bt L Q w Ec Em S dp u o k p n v wd c m) : p ≤ 1600 := by have := h.1.1; have := h.2.1.2.1; omega
/-- the reference stumbles at A -/
theorem A_bad (h : SF bt L Q w Ec Em S dp u o k p n v wd c m) (hs : S.length < 160) (hu : u ≤ 60) (ho : o ≤ 30) (hd : dp ≤ 7) (hb : (k = 146 ∧ mayN S = true ∧ ¬ dp ≤ 6) ∨ (k = 40 ∧ (u = 60 ∨ o = 30 ∨ ¬ dp ≤ 6)) ∨ (¬ k = 40 ∧ (¬ k = 146 ∨ mayN S = false) ∧ ¬ k = 3 ∧ askN k < 0) ∨ (¬ k = 40 ∧ ¬ k = 146 ∧ (k = 3 ∨ ¬ askN k < 0) ∧ (u = 60 ∨ o = 30))) : ∃ m', (∀ fu g, 3 ≤ fu → runA fu (g + 1) m = some m') ∧ MF (if k = 0 then 1 else 2) p m' ∧ frM w m m' := by
  obtain ⟨hB, hT, hK, hR⟩ := h
  have hp : p ≤ 1600 := by have := hB.1; have := hT.2.1; omega
  have h0 := hR.2.1
  obtain ⟨m1, a1, a2, a3, a4, a5⟩ := wrong_ok hT h0 2
  have a1' : fX12_wrong m (2 : Int32) = some m1 := a1
  have hM : MF (if k = 0 then 1 else 2) p m1 := ⟨⟨by split <;> omega, by split <;> omega, hp⟩, a4, a5⟩
  have f1 : frM w m m1 := frM.of0 a2 a3
  have h22 : m1.1 0 22 = nI S.length := by rw [a3 22 (by omega) (by omega)]; exact hR.2.2.2.1
  have h26 : m.1 0 26 ≤ (6 : Int32) ↔ dp ≤ 6 := by rw [hR.2.2.2.2.2.1]; exact nI_leI (b := 6) (by omega) (by omega)
  have hstart : ∀ fu, gX12_unit (fu + 1) 0 1 0 m = _ := fun fu => by rw [gX12_unit, if_neg (show ¬ (1 : Int32) = 0 by decide), if_pos h0, hT.w18, cP_some, may_ok hR hs, cP_some]
  have fin : ∀ m', MF (if k = 0 then 1 else 2) p m' → frM w m m' → (∀ fu, gX12_unit (fu + 3) 0 1 0 m = some m') → ∃ m', (∀ fu g, 3 ≤ fu → runA fu (g + 1) m = some m') ∧ MF (if k = 0 then 1 else 2) p m' ∧ frM w m m' := fun m' x y z => by
    refine ⟨m', fun fu g hf => ?_, x, y⟩
    obtain ⟨fu, rfl⟩ : ∃ f, fu = f + 3 := ⟨fu - 3, by omega⟩
    unfold runA
    rw [z fu, cV_some]
    exact x.runB g
  have h40 := hT.sg (s := 40) (x := 40) rfl (by omega) (by decide)
  rcases hb with ⟨rfl, e1, e2⟩ | ⟨rfl, e1⟩ | ⟨e1, e2, e3, e4⟩ | ⟨e1, e2, e3, e4⟩
  · obtain ⟨m2, b1, b2, b3⟩ := hM.opn (w := w) h22 hs 21
    refine fin m2 b2 (f1.trans b3) (fun fu => ?_)
    rw [hstart, if_pos rfl, if_neg (show ¬ (1 : Int32) = 0 by decide), if_pos e1, if_neg (show ¬ (1 : Int32) = 0 by decide), if_neg (fun z => e2 (h26.mp z)), a1', cV_some, b1, cV_some]
    exact b2.unit _
  · obtain ⟨m2, b1, b2, b3, b4⟩ := hM.count (w := w) h22
    obtain ⟨m3, d1, d2, d3⟩ := b2.opn (w := w) b4 hs 20
    refine fin m3 d2 (f1.trans (b3.trans d3)) (fun fu => ?_)
    rw [hstart, if_neg (show ¬ 40 = 146 by omega), if_pos rfl, if_pos (h40.mpr rfl), full_ok hR hu ho, cP_some]
    have rest : (cV (fX12_wrong m (2 : Int32)) fun m45 => (cV (fX12_countUnit m45) fun m47 => (cV (fX12_openUp m47 (20 : Int32)) fun m49 => (gX12_unit (fu + 2) 0 1 0 m49)))) = some m3 := by
      rw [a1', cV_some, b1, cV_some, d1, cV_some]
      exact d2.unit _
    by_cases y : u = 60 ∨ o = 30
    · rw [if_pos y, if_neg (show ¬ (1 : Int32) = 0 by decide)]
      exact rest
    · rw [if_neg y, if_pos rfl, if_neg (fun z => absurd (h26.mp z) (by omega))]
      exact rest
  · refine fin m1 hM f1 (fun fu => ?_)
    have rest : gX12_unit (fu + 2) 0 0 0 m = some m1 := by
      rw [gX12_unit, if_pos rfl, if_pos (by rw [h0]; decide), hT.asked, cP_some, if_neg (fun z => e3 (hT.s2.mp z)), if_pos e4, a1', cV_some]
      exact hM.unit1 _ _
    rw [hstart]
    by_cases y : k = 146
    · rw [if_pos y, if_neg (show ¬ (1 : Int32) = 0 by decide), show mayN S = false by rcases e2 with z | z; exact absurd y z; exact z, if_neg (show ¬ false = true by decide), if_pos rfl, if_neg (fun z => e1 (h40.mp z))]
      exact rest
    · rw [if_neg y, if_pos rfl, if_neg (fun z => e1 (h40.mp z))]
      exact rest
  · refine fin m1 hM f1 (fun fu => ?_)
    rw [hstart, if_neg e2, if_pos rfl, if_neg (fun z => e1 (h40.mp z)), gX12_unit, if_pos rfl, if_pos (by rw [h0]; decide), hT.asked, cP_some, full_ok hR hu ho, cP_some, if_pos e4, if_neg (show ¬ (1 : Int32) = 0 by decide), a1', cV_some, hM.unit1]
    by_cases y : k = 3
    · rw [if_pos (hT.s2.mpr y)]
    · rw [if_neg (fun z => y (hT.s2.mp z)), if_neg (e3.resolve_left y)]
/-- a not -/
theorem A_not (h : SF bt L Q w Ec Em S dp u o k p n v wd c m) (hs : S.length < 159) (hk : k = 146) (hm : mayN S = true) (hd : dp ≤ 6) : ∃ k' p' n' v' wd' c' m', fX10_advance c = some c' ∧ (∀ fu g, runA (fu + 1) g m = runA fu g m') ∧ SF bt L Q w Ec Em (21 :: S) (dp + 1) u o k' p' n' v' wd' c' m' ∧ frC Q w c c' ∧ frM w m m' := by
  obtain ⟨hB, hT, hK, hR⟩ := h
  have h26 : m.1 0 26 ≤ (6 : Int32) := by rw [hR.2.2.2.2.2.1]; exact nI_le (b := 6) hd (by omega)
  obtain ⟨m3, b1, b2, b3, b4⟩ := open_ok hR (by omega) (x := 21) (by omega)
  have hk0 : ¬ k = 0 := by omega
  obtain ⟨k', p', n', v', wd', c', m', d1, d2, d3, d4, d5⟩ := adv2 (hB.lk b4) hT.2.2.1 (hT.nxC hk0) (by rw [b4.2.2 4 (by omega)]; exact hT.nxM hk0) hK b2
  refine ⟨k', p', n', v', wd', c', m', d1, fun fu g => ?_, d3, d4.fr hK.1.1, b3.trans d5.fr⟩
  unfold runA
  rw [gX12_unit, if_neg (show ¬ (1 : Int32) = 0 by decide), if_pos hR.2.1, hT.w18, cP_some, may_ok hR (by omega), cP_some, if_pos hk, if_neg (show ¬ (1 : Int32) = 0 by decide), if_pos hm, if_neg (show ¬ (1 : Int32) = 0 by decide), if_pos h26, show fX12_openUp m (21 : Int32) = some m' from b1 m' d2, cV_some]
theorem FK.count (h : FK Q w Ec u o c) : FK Q w Ec (u + 1) (o + 1) (sI (sI c Q 18 (nI (u + 1))) 4 3 (nI (o + 1))) ∧ frC Q w c (sI (sI c Q 18 (nI (u + 1))) 4 3 (nI (o + 1))) := by
  obtain ⟨⟨h0, h0'⟩, h1, h2, h3, h4, h5, h6⟩ := h
  refine ⟨⟨⟨h0, h0'⟩, h1, h2, by rw [sI_oth (by omega), sI_row, upd_at], by rw [sI_row, upd_at], by rw [sI_oth (by omega), sI_oth (by omega)]; exact h5, by rw [sI_oth (by omega), sI_oth (by omega)]; exact h6⟩, rfl, fun r hr => ?_, fun s _ => by rw [sI_oth (by omega), sI_oth (by omega)], fun s hs => by rw [sI_oth (by omega), sI_row, upd_ne hs], fun s _ => by rw [sI_oth (by omega), sI_oth (by omega)], fun _ _ => rfl⟩
  simp only [List.mem_cons, List.not_mem_nil, or_false, not_or] at hr
  rw [sI_oth (by omega), sI_oth (by omega)]
/-- a bracket -/
theorem A_open (h : SF bt L Q w Ec Em S dp u o k p n v wd c m) (hs : S.length < 159) (hk : k = 40) (hu : u < 60) (ho : o < 30) (hd : dp ≤ 6) : ∃ k' p' n' v' wd' c' m', fX10_advance (sI (sI c Q 18 (nI (u + 1))) 4 3 (nI (o + 1))) = some c' ∧ (∀ fu g, runA (fu + 1) g m = runA fu g m') ∧ SF bt L Q w Ec Em (20 :: S) (dp + 1) (u + 1) (o + 1) k' p' n' v' wd' c' m' ∧ frC Q w c c' ∧ frM w m m' := by
  obtain ⟨hB, hT, hK, hR⟩ := h
  have h26 : m.1 0 26 ≤ (6 : Int32) := by rw [hR.2.2.2.2.2.1]; exact nI_le (b := 6) hd (by omega)
  have h40 := hT.sg (s := 40) (x := 40) rfl (by omega) (by decide)
  obtain ⟨m2, a1, a2, a3, a4, a5, a6⟩ := hR.count
  obtain ⟨m3, b1, b2, b3, b4⟩ := open_ok a2 (by omega) (x := 20) (by omega)
  obtain ⟨e1, e2⟩ := hK.count
  have hQ := hK.1.1
  have k2 : lxK m m2 := ⟨a4, a5 1 (by omega), fun s hs => a6 s (by omega) (by omega)⟩
  have hk0 : ¬ k = 0 := by omega
  have hB2 : BT bt L (sI (sI c Q 18 (nI (u + 1))) 4 3 (nI (o + 1))) m3 := (hB.lk (k2.trans b4)).ck rfl (by rw [sI_oth (by omega), sI_oth (by omega)]) (by rw [sI_oth (by omega), sI_oth (by omega)]) ⟨by rw [sI_row, upd_ne (by omega), sI_oth (by omega)], by rw [sI_row, upd_ne (by omega), sI_oth (by omega)]⟩
  obtain ⟨k', p', n', v', wd', c', m', d1, d2, d3, d4, d5⟩ := adv2 hB2 hT.2.2.1 (by rw [sI_oth (by omega), sI_oth (by omega)]; exact hT.nxC hk0) (by rw [(k2.trans b4).2.2 4 (by omega)]; exact hT.nxM hk0) e1 b2
  refine ⟨k', p', n', v', wd', c', m', d1, fun fu g => ?_, d3, e2.trans (d4.fr hQ), a3.trans (b3.trans d5.fr)⟩
  unfold runA
  rw [gX12_unit, if_neg (show ¬ (1 : Int32) = 0 by decide), if_pos hR.2.1, hT.w18, cP_some, if_neg (show ¬ k = 146 by omega), if_pos rfl, if_pos (h40.mpr hk), full_ok hR (by omega) (by omega), cP_some, if_neg (show ¬ (u = 60 ∨ o = 30) by omega), if_pos rfl, if_pos h26, a1, cV_some, show fX12_openUp m2 (20 : Int32) = some m' from b1 m' d2, cV_some]
/-- a number, or what is given -/
theorem A_leaf (h : SF bt L Q w Ec Em S dp u o k p n v wd c m) (hk4 : ¬ k = 40) (hk : k = 3 ∨ ¬ askN k < 0) (hu : u < 60) (ho : o < 30) (hE : Ec.length < 120) (hM : Em.length < 320) : ∃ k' p' n' v' wd' c1 c' m', fX3_put (sI (sI c Q 18 (nI (u + 1))) 4 3 (nI (o + 1))) (Q + (12 + 3 * w)) (if k = 3 then nI v else givN k) = some c1 ∧ fX10_advance c1 = some c' ∧ (∀ fu g, runA (fu + 3) g m = runB g m') ∧ SF bt L Q w (Ec ++ [if k = 3 then nI v else givN k]) (Em ++ [if k = 3 then (0, nI v) else (1, askN k)]) S dp (u + 1) (o + 1) k' p' n' v' wd' c' m' ∧ frC Q w c c' ∧ frM w m m' := by
  obtain ⟨hB, hT, hK, hR⟩ := h
  have h40 := hT.sg (s := 40) (x := 40) rfl (by omega) (by decide)
  have hkk := hT.vk
  have hk0 : ¬ k = 0 := by
    intro z
    rw [z] at hk
    rcases hk with y | y
    · omega
    · exact y (by decide)
  have hk146 : ¬ k = 146 := by
    intro z
    rw [z] at hk
    rcases hk with y | y
    · omega
    · exact y (by decide)
  obtain ⟨m2, a1, a2, a3, a4, a5, a6⟩ := hR.count
  obtain ⟨e1, e2⟩ := hK.count
  have hQ := hK.1.1
  obtain ⟨c1, q1, q2, q3, q4, q5⟩ := put_c e1 hE (if k = 3 then nI v else givN k)
  have hadd : ∃ m3, fX12_add m2 (if k = 3 then (0 : Int32) else 1) (if k = 3 then nI v else askN k) = some m3 ∧ FR w (Em ++ [((if k = 3 then (0 : Int32) else 1), (if k = 3 then nI v else askN k))]) S dp (u + 1) (o + 1) m3 ∧ frM w m2 m3 ∧ m3.2 = m2.2 ∧ m3.1 0 = m2.1 0 ∧ m3.1 1 = m2.1 1 := add_m a2 hM _ _
  obtain ⟨m3, b1, b2, b3, b4, b5, b6⟩ := hadd
  have k2 : lxK m m3 := ⟨by rw [b4, a4], by rw [b6, a5 1 (by omega)], fun s hs => by rw [b5, a6 s (by omega) (by omega)]⟩
  have hw := hK.1.2
  have c1r : ∀ r, (r = 1 ∨ r = 2) → c1.1 r = c.1 r := fun r hr => by
    rw [q5 r (by simp; omega), sI_oth (by omega), sI_oth (by omega)]
  have hB2 : BT bt L c1 m3 := (hB.lk k2).ck (by rw [q4]; rfl) (c1r 1 (by omega)) (c1r 2 (by omega)) ⟨by rw [q5 4 (by simp; omega), sI_row, upd_ne (by omega), sI_oth (by omega)], by rw [q5 4 (by simp; omega), sI_row, upd_ne (by omega), sI_oth (by omega)]⟩
  obtain ⟨k', p', n', v', wd', c', m', d1, d2, d3, d4, d5⟩ := adv2 hB2 hT.2.2.1 (by rw [c1r 1 (by omega)]; exact hT.nxC hk0) (by rw [k2.2.2 4 (by omega)]; exact hT.nxM hk0) q2 b2
  refine ⟨k', p', n', v', wd', c1, c', m', q1, d1, fun fu g => ?_, ?_, e2.trans (q3.trans (d4.fr hQ)), a3.trans (b3.trans d5.fr)⟩
  · have h8 : k = 3 → m2.1 0 8 = nI v := fun z => by rw [a6 8 (by omega) (by omega)]; exact (hT.num z).2.2
    unfold runA
    rw [show fu + 3 = (fu + 2) + 1 from rfl, gX12_unit, if_neg (show ¬ (1 : Int32) = 0 by decide), if_pos hR.2.1, hT.w18, cP_some, if_neg hk146, if_pos rfl, if_neg (fun z => hk4 (h40.mp z)), show fu + 2 = (fu + 1) + 1 from rfl, gX12_unit, if_pos rfl, if_pos (by rw [hR.2.1]; decide), hT.asked, cP_some, full_ok hR (by omega) (by omega), cP_some, if_neg (show ¬ (u = 60 ∨ o = 30) by omega), if_pos rfl]
    have rest : gX12_unit (fu + 1) 1 0 (askN k) m = some m' := by
      rw [gX12_unit, if_pos (by rw [hR.2.1]; decide), a1, cV_some]
      by_cases y : k = 3
      · rw [if_pos y, if_pos y] at b1
        rw [if_neg (by rw [y]; decide), if_neg (by rw [y]; decide), h8 y, b1, cV_some, d2, cV_some]
      · rw [if_neg y, if_neg y] at b1
        have hge : 0 ≤ askN k := fa_of_nlt (hk.resolve_left y)
        rw [if_pos hge, if_pos hge, b1, cV_some, d2, cV_some]
    by_cases y : k = 3
    · rw [if_pos (hT.s2.mpr y), rest, cV_some]; rfl
    · rw [if_neg (fun z => y (hT.s2.mp z)), if_neg (hk.resolve_left y), rest, cV_some]; rfl
  · by_cases y : k = 3
    · rw [if_pos y, if_pos y] at d3
      rw [if_pos y, if_pos y]
      rw [if_pos y] at d3
      exact d3
    · rw [if_neg y, if_neg y] at d3
      rw [if_neg y, if_neg y]
      rw [if_neg y] at d3
      exact d3
end
