/-! ===== lines: noise ===== -/
section
variable {bt : Nat → Nat} {L : Nat} {T : Tn} {nms : Nat → List Nat} {k p n v : Nat} {wd : List Nat} {c m : Mem} {Q : Nat}
/-- a number behind a word -/
theorem PJ.beh (h : PJ bt L k p n v wd c m) {j : Nat} (hj : j < 19) {y : Int32} (hy : y = nI (128 + j)) {x : Int64} (hx : fX12_isWord m x = some (if k = 128 + j then 1 else 0)) {lo up : Nat} (hu : up < 10000) (hl : lo ≤ up) : (∃ c' m' f q z, fX7_isNumberBehind c y (nI lo) (nI up) = some (0, c') ∧ fX12_told m x (nI lo) (nI up) = some (z, m') ∧ bad c' m' ∧ MF f q m' ∧ GC Q c c' ∧ GM m m' ∧ (∀ s, 9 ≤ s → m'.1 0 s = m.1 0 s)) ∨ (∃ k1 p1 n1 v1 wd1 c1 m1, k1 = 3 ∧ lo ≤ v1 ∧ v1 ≤ up ∧ fX7_isNumberBehind c y (nI lo) (nI up) = some (1, c1) ∧ c1.1 1 6 = nI v1 ∧ (∀ m', fX12_token m1 = some m' → fX12_told m x (nI lo) (nI up) = some (nI v1, m')) ∧ PJ bt L k1 p1 n1 v1 wd1 c1 m1 ∧ lxC c c1 ∧ lxM m m1) := by
  unfold fX7_isNumberBehind fX12_told
  rcases h.want (Q := Q) hj hy hx with ⟨c1, m1, f, q, a1, a2, a3, a4, a5, a6, a7⟩ | ⟨k1, p1, n1, v1, wd1, c1, m1, a1, a2, a3, a4, a5⟩
  · refine Or.inl ⟨c1, m1, f, q, 0, ?_, ?_, a3, a4, a5, a6, fun s hs => a7 s (by omega) (by omega)⟩
    · rw [a1, cI_some, if_pos rfl]
    · rw [a2, cV_some, a4.number, cI_some]
  · rw [a1, cI_some, if_neg (show ¬ (1 : Int32) = 0 by decide), a2, cV_some]
    rcases a3.number (Q := Q) hu hl with ⟨c2, m2, f, q, z, b1, b2, b3, b4, b5, b6, b7⟩ | ⟨b1, b2, b3, b4, b5, b6⟩
    · refine Or.inl ⟨c2, m2, f, q, z, ?_, ?_, b3, b4, a4.gc.trans b5, a5.gm.trans b6, fun s hs => by rw [b7 s (by omega) (by omega), a5.2.2.1 s (by omega)]⟩
      · rw [b1, cI_some, if_pos rfl]
      · rw [b2, cI_some]
    · refine Or.inr ⟨k1, p1, n1, v1, wd1, c1, m1, b1, b2, b3, ?_, b4, fun m' hm' => ?_, a3, a4, a5⟩
      · rw [b5, cI_some, if_neg (show ¬ (1 : Int32) = 0 by decide)]
      · rw [b6 m' hm', cI_some]
theorem nz_c (hP : PT T nms) (hC : PC T nms c) {i w : Nat} (hi : i < tnp T) (hw : w < 10000) : ((∃ q, q < tnn T ∧ tO T q = i ∧ tT T q = w) ∧ ∃ q, q < tnn T ∧ fX6_noiseOf c (tP T) (nI i) (nI w) = some (nI q)) ∨ ((∀ q, q < tnn T → ¬ (tO T q = i ∧ tT T q = w)) ∧ fX6_noiseOf c (tP T) (nI i) (nI w) = some (-1)) := by
  have h7 := hP.1.1
  have h8 := hP.1.2.2.1
  have key : ∀ (j s : Nat), s + j = tnn T → ∀ f, j < f → (∀ q, q < s → ¬ (tO T q = i ∧ tT T q = w)) → ((∃ q, q < tnn T ∧ tO T q = i ∧ tT T q = w) ∧ ∃ q, q < tnn T ∧ gX6_noiseOf c f (tP T) (nI i) (nI w) (nI s) = some (nI q)) ∨ ((∀ q, q < tnn T → ¬ (tO T q = i ∧ tT T q = w)) ∧ gX6_noiseOf c f (tP T) (nI i) (nI w) (nI s) = some (-1)) := by
    intro j
    induction j with
    | zero =>
      intro s hs f hf hq
      obtain ⟨f, rfl⟩ : ∃ g, f = g + 1 := ⟨f - 1, by omega⟩
      refine Or.inr ⟨fun q hq2 => hq q (by omega), ?_⟩
      rw [gX6_noiseOf, gPl_ok hP.2.1, hC.2.1.2.2.1, if_pos (nI_le (by omega) (by omega))]
    | succ j ih =>
      intro s hs f hf hq
      obtain ⟨f, rfl⟩ : ∃ g, f = g + 1 := ⟨f - 1, by omega⟩
      obtain ⟨e1, e2, -⟩ := hC.2.2.2.2.1 s (by omega)
      obtain ⟨n1, n2, -⟩ := hP.1.2.2.2.2.2.2.1 s (by omega)
      rw [gX6_noiseOf, gPl_ok hP.2.1, hC.2.1.2.2.1, if_neg (nI_ge (by omega) (by omega)), rd_ok (by omega) (by omega), e1, rd_ok (by omega) (by omega), e2, nI_1]
      have nx : ¬ (tO T s = i ∧ tT T s = w) → _ := fun z => ih (s + 1) (by omega) f (by omega) (fun q hq2 => by
        by_cases y : q = s
        · rw [y]; exact z
        · exact hq q (by omega))
      by_cases y1 : tO T s = i
      · rw [if_pos (by rw [y1])]
        by_cases y2 : tT T s = w
        · rw [if_pos (by rw [y2])]
          exact Or.inl ⟨⟨s, by omega, y1, y2⟩, s, by omega, rfl⟩
        · rw [if_neg (fun z => y2 ((nI_eq (by omega) (by omega)).mp z))]
          exact nx (fun z => y2 z.2)
      · rw [if_neg (fun z => y1 ((nI_eq (by omega) (by omega)).mp z))]
        exact nx (fun z => y1 z.1)
  exact key (tnn T) 0 (by omega) 5000 (by omega) (fun q hq => by omega)
theorem nz_m (hP : PT T nms) (hM : PM T nms m) {i w : Nat} (hi : i < tnp T) (hw : w < 10000) : ((∃ q, q < tnn T ∧ tO T q = i ∧ tT T q = w) → fX12_isNoiseTold m (nI i) (nI w) = some 1) ∧ ((∀ q, q < tnn T → ¬ (tO T q = i ∧ tT T q = w)) → fX12_isNoiseTold m (nI i) (nI w) = some 0) := by
  have h7 := hP.1.1
  have h8 := hP.1.2.2.1
  have yes : ∀ (j s : Nat), s + j = tnn T → ∀ f, j < f → gX12_isNoiseTold m f (nI i) (nI w) 1 (nI s) = some 1 := by
    intro j
    induction j with
    | zero =>
      intro s hs f hf
      obtain ⟨f, rfl⟩ : ∃ g, f = g + 1 := ⟨f - 1, by omega⟩
      rw [gX12_isNoiseTold, hM.1.2.2.1, if_pos (nI_le (by omega) (by omega)), tz_1]
    | succ j ih =>
      intro s hs f hf
      obtain ⟨f, rfl⟩ : ∃ g, f = g + 1 := ⟨f - 1, by omega⟩
      rw [gX12_isNoiseTold, hM.1.2.2.1, if_neg (nI_ge (by omega) (by omega)), if_neg (show ¬ (1 : Int32) = 0 by decide), nI_1]
      exact ih (s + 1) (by omega) f (by omega)
  have key : ∀ (j s : Nat), s + j = tnn T → ∀ f, j < f → ((∃ q, s ≤ q ∧ q < tnn T ∧ tO T q = i ∧ tT T q = w) → gX12_isNoiseTold m f (nI i) (nI w) 0 (nI s) = some 1) ∧ ((∀ q, s ≤ q → q < tnn T → ¬ (tO T q = i ∧ tT T q = w)) → gX12_isNoiseTold m f (nI i) (nI w) 0 (nI s) = some 0) := by
    intro j
    induction j with
    | zero =>
      intro s hs f hf
      obtain ⟨f, rfl⟩ : ∃ g, f = g + 1 := ⟨f - 1, by omega⟩
      refine ⟨fun ⟨q, a, b, _⟩ => by omega, fun _ => ?_⟩
      rw [gX12_isNoiseTold, hM.1.2.2.1, if_pos (nI_le (by omega) (by omega)), tz_0]
    | succ j ih =>
      intro s hs f hf
      obtain ⟨f, rfl⟩ : ∃ g, f = g + 1 := ⟨f - 1, by omega⟩
      obtain ⟨e1, e2, -⟩ := hM.2.2.2.1 s (by omega)
      obtain ⟨n1, n2, -⟩ := hP.1.2.2.2.2.2.2.1 s (by omega)
      obtain ⟨i1, i2⟩ := ih (s + 1) (by omega) f (by omega)
      rw [gX12_isNoiseTold, hM.1.2.2.1, if_neg (nI_ge (by omega) (by omega)), if_pos rfl, rd_ok (by omega) (by omega), e1, rd_ok (by omega) (by omega), e2, nI_1]
      have nx : ¬ (tO T s = i ∧ tT T s = w) → ((∃ q, s ≤ q ∧ q < tnn T ∧ tO T q = i ∧ tT T q = w) → gX12_isNoiseTold m f (nI i) (nI w) 0 (nI (s + 1)) = some 1) ∧ ((∀ q, s ≤ q → q < tnn T → ¬ (tO T q = i ∧ tT T q = w)) → gX12_isNoiseTold m f (nI i) (nI w) 0 (nI (s + 1)) = some 0) := fun z => ⟨fun ⟨q, a, b, d⟩ => i1 ⟨q, by
          by_cases y : q = s
          · rw [y] at d; exact absurd d z
          · omega, b, d⟩, fun y => i2 (fun q a b => y q (by omega) b)⟩
      by_cases y1 : tO T s = i
      · rw [if_pos (by rw [y1])]
        by_cases y2 : tT T s = w
        · rw [if_pos (by rw [y2])]
          exact ⟨fun _ => yes j (s + 1) (by omega) f (by omega), fun z => absurd ⟨y1, y2⟩ (z s (by omega) (by omega))⟩
        · rw [if_neg (fun z => y2 ((nI_eq (by omega) (by omega)).mp z))]
          exact nx (fun z => y2 z.2)
      · rw [if_neg (fun z => y1 ((nI_eq (by omega) (by omega)).mp z))]
        exact nx (fun z => y1 z.1)
  obtain ⟨a1, a2⟩ := key (tnn T) 0 (by omega) 5000 (by omega)
  exact ⟨fun ⟨q, a, b⟩ => a1 ⟨q, by omega, a, b⟩, fun z => a2 (fun q _ b => z q b)⟩
/-- a fault in a noise goes through -/
theorem MF.noise {f q : Nat} {m : Mem} (h : MF f q m) {s : Nat} (hs : m.1 0 49 = nI s) (h8 : s < 8) (F : Nat) (x : Int32) : ∃ m', gX12_readNoise (F + 1) x m = some m' ∧ MF f q m' ∧ GM m m' ∧ m'.1 0 = m.1 0 := by
  have h2 : MF f q (sI m 28 s 0) := h.mk2 (by rw [sI_oth (by omega)]) (by rw [sI_oth (by omega)])
  have h3 : MF f q (sI (sI m 28 s 0) 29 s 0) := h2.mk2 (by rw [sI_oth (by omega)]) (by rw [sI_oth (by omega)])
  refine ⟨sI (sI m 28 s 0) 29 s 0, ?_, h3, (GM.rfl'.sI (by simp)).sI (by simp), by rw [sI_oth (by omega), sI_oth (by omega)]⟩
  rw [gX12_readNoise, h.number, cI_some, hs, wr_ok h8 (by omega), h2.told, cI_some, sI_oth (by omega), hs, wr_ok h8 (by omega), if_neg h3.pos.2]
end
