/-! ===== the reference's steps over a formula ===== -/
def flP (P : List Nat) : List (Int32 × Int32) := P.map (fun s => if s = 21 then ((2 : Int32), (0 : Int32)) else (3, nI s))
def nN (P : List Nat) : Nat := (P.filter (fun s => decide (s = 21))).length
theorem flP_cons (s : Nat) (P : List Nat) : flP (s :: P) = (if s = 21 then ((2 : Int32), (0 : Int32)) else (3, nI s)) :: flP P := rfl
theorem flP_app (P R : List Nat) : flP (P ++ R) = flP P ++ flP R := List.map_append
theorem nN_cons (s : Nat) (P : List Nat) : nN (s :: P) = (if s = 21 then 1 else 0) + nN P := by
  unfold nN
  rw [List.filter_cons]
  by_cases c : s = 21
  · rw [if_pos (by simp [c]), if_pos c, List.length_cons, Nat.add_comm]
  · rw [if_neg (by simp [c]), if_neg c, Nat.zero_add]
theorem nN_app (P R : List Nat) : nN (P ++ R) = nN P + nN R := by unfold nN; rw [List.filter_append, List.length_append]
/-- a stack whose top stays when what is as tight as l is closed -/
def topOK (l : Nat) : List Nat → Prop
  | [] => True
  | x :: _ => x = 20 ∨ tgt x < l
section
variable {w : Nat} {u o : Nat}
theorem FR.pop {Em : List (Int32 × Int32)} {x : Nat} {S : List Nat} {dp : Nat} {m : Mem} (h : FR w Em (x :: S) dp u o m) : FR w Em S dp u o (sI m 0 22 (nI S.length)) ∧ frM w m (sI m 0 22 (nI S.length)) := by
  obtain ⟨⟨h0, h0'⟩, h1, h2, h3, h4, h5, h6, h7, h8, h9, h10⟩ := h
  refine ⟨⟨⟨h0, fun y hy => h0' y (by simp [hy])⟩, ?_, ?_, ?_, ?_, ?_, ?_, ?_, ?_, ?_, ?_⟩, ⟨fun r hr => ?_, fun s hs => ?_, fun i _ => ?_, fun i _ => ?_, fun _ _ => rfl⟩⟩
  · rw [sI_row, upd_ne (by omega)]; exact h1
  · rw [sI_row, upd_ne (by omega)]; exact h2
  · rw [sI_row, upd_at]
  · rw [sI_oth (by omega)]; exact h4.2
  · rw [sI_row, upd_ne (by omega)]; exact h5
  · rw [sI_row, upd_ne (by omega)]; exact h6
  · rw [sI_row, upd_ne (by omega)]; exact h7
  · rw [sI_oth (by omega)]; exact h8
  · rw [sI_oth (by omega)]; exact h9
  · rw [sI_oth (by omega)]; exact h10
  · exact sI_oth (fun z => hr (by simp [z]))
  · rw [sI_row, upd_ne (fun z => hs (by simp [z]))]
  · rw [sI_oth (by omega)]
  · exact ⟨by rw [sI_oth (by omega)], by rw [sI_oth (by omega)]⟩
theorem FR.deep {Em : List (Int32 × Int32)} {S : List Nat} {dp : Nat} {m : Mem} (h : FR w Em S dp u o m) (e : Nat) : FR w Em S e u o (sI m 0 26 (nI e)) ∧ frM w m (sI m 0 26 (nI e)) := by
  obtain ⟨⟨h0, h0'⟩, h1, h2, h3, h4, h5, h6, h7, h8, h9, h10⟩ := h
  refine ⟨⟨⟨h0, h0'⟩, ?_, ?_, ?_, ?_, ?_, ?_, ?_, ?_, ?_, ?_⟩, ⟨fun r hr => ?_, fun s hs => ?_, fun i _ => ?_, fun i _ => ?_, fun _ _ => rfl⟩⟩
  · rw [sI_row, upd_ne (by omega)]; exact h1
  · rw [sI_row, upd_ne (by omega)]; exact h2
  · rw [sI_row, upd_ne (by omega)]; exact h3
  · rw [sI_oth (by omega)]; exact h4
  · rw [sI_row, upd_at]
  · rw [sI_row, upd_ne (by omega)]; exact h6
  · rw [sI_row, upd_ne (by omega)]; exact h7
  · rw [sI_oth (by omega)]; exact h8
  · rw [sI_oth (by omega)]; exact h9
  · rw [sI_oth (by omega)]; exact h10
  · exact sI_oth (fun z => hr (by simp [z]))
  · rw [sI_row, upd_ne (fun z => hs (by simp [z]))]
  · rw [sI_oth (by omega)]
  · exact ⟨by rw [sI_oth (by omega)], by rw [sI_oth (by omega)]⟩
theorem FR.push {Em : List (Int32 × Int32)} {S : List Nat} {dp : Nat} {m : Mem} (h : FR w Em S dp u o m) {x : Nat} (hx : x < 128) : FR w Em (x :: S) dp u o (sI (sI m 9 S.length (nI x)) 0 22 (nI (S.length + 1))) ∧ frM w m (sI (sI m 9 S.length (nI x)) 0 22 (nI (S.length + 1))) := by
  obtain ⟨⟨h0, h0'⟩, h1, h2, h3, h4, h5, h6, h7, h8, h9, h10⟩ := h
  refine ⟨⟨⟨h0, fun y hy => by
    rw [List.mem_cons] at hy
    rcases hy with rfl | hy
    · exact hx
    · exact h0' y hy⟩, ?_, ?_, ?_, ?_, ?_, ?_, ?_, ?_, ?_, ?_⟩, ⟨fun r hr => ?_, fun s hs => ?_, fun i _ => ?_, fun i _ => ?_, fun _ _ => rfl⟩⟩
  · rw [sI_row, upd_ne (by omega), sI_oth (by omega)]; exact h1
  · rw [sI_row, upd_ne (by omega), sI_oth (by omega)]; exact h2
  · rw [sI_row, upd_at]; rfl
  · rw [sI_oth (by omega), sI_row]; exact stS_push h4
  · rw [sI_row, upd_ne (by omega), sI_oth (by omega)]; exact h5
  · rw [sI_row, upd_ne (by omega), sI_oth (by omega)]; exact h6
  · rw [sI_row, upd_ne (by omega), sI_oth (by omega)]; exact h7
  · rw [sI_oth (by omega), sI_oth (by omega)]; exact h8
  · rw [sI_oth (by omega), sI_oth (by omega)]; exact h9
  · rw [sI_oth (by omega), sI_oth (by omega)]; exact h10
  · simp only [List.mem_cons, List.not_mem_nil, or_false, not_or] at hr
    rw [sI_oth (by omega), sI_oth (by omega)]
  · simp only [List.mem_cons, List.not_mem_nil, or_false, not_or] at hs
    rw [sI_row, upd_ne (by omega), sI_oth (by omega)]
  · rw [sI_oth (by omega), sI_oth (by omega)]
  · exact ⟨by rw [sI_oth (by omega), sI_oth (by omega)], by rw [sI_oth (by omega), sI_oth (by omega)]⟩
theorem FR.count {Em : List (Int32 × Int32)} {S : List Nat} {dp : Nat} {m : Mem} (h : FR w Em S dp u o m) : ∃ m', fX12_countUnit m = some m' ∧ FR w Em S dp (u + 1) (o + 1) m' ∧ frM w m m' ∧ m'.2 = m.2 ∧ (∀ r, r ≠ 0 → m'.1 r = m.1 r) ∧ (∀ s, s ≠ 23 → s ≠ 25 → m'.1 0 s = m.1 0 s) := by
  obtain ⟨⟨h0, h0'⟩, h1, h2, h3, h4, h5, h6, h7, h8, h9, h10⟩ := h
  unfold fX12_countUnit
  rw [pt_eq, pt_eq, h6, nI_1, sI_row, upd_ne (by omega), h7, nI_1]
  refine ⟨_, rfl, ⟨⟨h0, h0'⟩, ?_, ?_, ?_, ?_, ?_, ?_, ?_, ?_, ?_, ?_⟩, ⟨fun r hr => ?_, fun s hs => ?_, fun i _ => ?_, fun i _ => ?_, fun _ _ => rfl⟩, rfl, fun r hr => by rw [sI_oth hr, sI_oth hr], fun s x y => by rw [sI_row, upd_ne y, sI_row, upd_ne x]⟩
  · rw [sI_row, upd_ne (by omega), sI_row, upd_ne (by omega)]; exact h1
  · rw [sI_row, upd_ne (by omega), sI_row, upd_ne (by omega)]; exact h2
  · rw [sI_row, upd_ne (by omega), sI_row, upd_ne (by omega)]; exact h3
  · rw [sI_oth (by omega), sI_oth (by omega)]; exact h4
  · rw [sI_row, upd_ne (by omega), sI_row, upd_ne (by omega)]; exact h5
  · rw [sI_row, upd_ne (by omega), sI_row, upd_at]
  · rw [sI_row, upd_at]
  · rw [sI_oth (by omega), sI_oth (by omega)]; exact h8
  · rw [sI_oth (by omega), sI_oth (by omega)]; exact h9
  · rw [sI_oth (by omega), sI_oth (by omega)]; exact h10
  · simp only [List.mem_cons, List.not_mem_nil, or_false, not_or] at hr
    rw [sI_oth (by omega), sI_oth (by omega)]
  · simp only [List.mem_cons, List.not_mem_nil, or_false, not_or] at hs
    rw [sI_row, upd_ne (by omega), sI_row, upd_ne (by omega)]
  · rw [sI_oth (by omega), sI_oth (by omega)]
  · exact ⟨by rw [sI_oth (by omega), sI_oth (by omega)], by rw [sI_oth (by omega), sI_oth (by omega)]⟩
/-- what a step of the reference leaves to the tokens -/
def lxK (m m' : Mem) : Prop := m'.2 = m.2 ∧ m'.1 1 = m.1 1 ∧ ∀ s, (2 < s ∧ s < 9) → m'.1 0 s = m.1 0 s
theorem lxK.rfl' {m : Mem} : lxK m m := ⟨rfl, rfl, fun _ _ => rfl⟩
theorem lxK.trans {a b c : Mem} (h : lxK a b) (g : lxK b c) : lxK a c := ⟨g.1.trans h.1, g.2.1.trans h.2.1, fun s hs => (g.2.2 s hs).trans (h.2.2 s hs)⟩
theorem close_ok {l : Nat} (hl : l ≤ 6) {S : List Nat} (hS : topOK l S) : ∀ (P : List Nat) (Em : List (Int32 × Int32)) (dp : Nat) (m : Mem) (f : Nat), P.length < f → Em.length + P.length ≤ 320 → P.length + S.length < 160 → (∀ x, x ∈ P → l ≤ tgt x ∧ ¬ x = 20) → nN P ≤ dp → FR w Em (P ++ S) dp u o m → ∃ m', gX12_close f (nI l) m = some m' ∧ FR w (Em ++ flP P) S (dp - nN P) u o m' ∧ frM w m m' ∧ lxK m m' := by
  intro P
  induction P with
  | nil =>
    intro Em dp m f hf hE hs hP hn h
    obtain ⟨f, rfl⟩ : ∃ g, f = g + 1 := ⟨f - 1, by omega⟩
    refine ⟨m, ?_, by simpa [flP, nN] using h, frM.rfl', lxK.rfl'⟩
    obtain ⟨⟨h0, h0'⟩, h1, h2, h3, h4, -⟩ := h
    rw [List.nil_append] at h3 h4 h0'
    rw [gX12_close, h3]
    cases S with
    | nil => rw [if_pos (by decide)]
    | cons x S =>
      have hx := h0' x (by simp)
      simp only [List.length_cons, List.length_nil] at hs
      rw [List.length_cons, if_neg (nI_nle (by omega) (by omega)), nI_pred, rd_ok (by omega) (by omega), h4.1]
      by_cases e : x = 20
      · rw [if_pos (by rw [e]; rfl)]
      · have ht := (hS : x = 20 ∨ tgt x < l).resolve_left e
        rw [if_neg (show ¬ nI x = (20 : Int32) from fun z => e ((nI_eq (b := 20) (by omega) (by omega)).mp z)), rd_ok (by omega) (by omega), h4.1, (tgt_ok x hx).1, cP_some, if_pos (nI_lt ht (by omega))]
  | cons x P ih =>
    intro Em dp m f hf hE hs hP hn h
    obtain ⟨f, rfl⟩ : ∃ g, f = g + 1 := ⟨f - 1, by omega⟩
    rw [List.length_cons] at hf hE hs
    rw [nN_cons] at hn
    obtain ⟨hx1, hx2⟩ := hP x (by simp)
    have hP' : ∀ y, y ∈ P → l ≤ tgt y ∧ ¬ y = 20 := fun y hy => hP y (by simp [hy])
    have h' := h
    obtain ⟨⟨h0, h0'⟩, h1, h2, h3, h4, h5, -⟩ := h'
    rw [List.cons_append] at h3 h4 h0'
    have hx := h0' x (by simp)
    have hlen : (P ++ S).length = P.length + S.length := List.length_append
    obtain ⟨hp1, hp2⟩ := FR.pop (x := x) (S := P ++ S) h
    have hx9 : (sI m 0 22 (nI (P ++ S).length)).1 9 (P ++ S).length = nI x := by rw [sI_oth (by omega)]; exact h4.1
    have k1 : lxK m (sI m 0 22 (nI (P ++ S).length)) := ⟨rfl, sI_oth (by omega), fun s hs => by rw [sI_row, upd_ne (by omega)]⟩
    have ht := (tgt_ok x hx).2.2
    rw [gX12_close, h3, List.length_cons, if_neg (nI_nle (by omega) (by omega)), nI_pred, rd_ok (by omega) (by omega), h4.1, if_neg (show ¬ nI x = (20 : Int32) from fun z => hx2 ((nI_eq (b := 20) (by omega) (by omega)).mp z)), rd_ok (by omega) (by omega), h4.1, (tgt_ok x hx).1, cP_some, if_neg (nI_nlt hx1 (by omega)), pt_eq, sI_row, upd_at, rd_ok (by omega) (by omega), hx9]
    by_cases e : x = 21
    · rw [if_pos (by rw [e]; rfl)]
      rw [if_pos e] at hn
      obtain ⟨m1, a1, a2, a3, a4, a5, a6⟩ := add_m hp1 (by omega) 2 0
      obtain ⟨b1, b2⟩ := a2.deep (dp - 1)
      have hd : m1.1 0 26 - (1 : Int32) = nI (dp - 1) := by
        rw [a5, sI_row, upd_ne (by omega), h5, show (1 : Int32) = nI 1 from rfl, pk_sub (by omega)]
      have k2 : lxK m1 (sI m1 0 26 (nI (dp - 1))) := ⟨rfl, sI_oth (by omega), fun s hs => by rw [sI_row, upd_ne (by omega)]⟩
      have k3 : lxK (sI m 0 22 (nI (P ++ S).length)) m1 := ⟨a4, a6, fun s _ => by rw [a5]⟩
      rw [a1, cV_some, pt_eq, hd]
      obtain ⟨m', c1, c2, c3, c4⟩ := ih (Em ++ [(2, 0)]) (dp - 1) _ f (by omega) (by rw [List.length_append]; simp; omega) (by omega) hP' (by omega) b1
      refine ⟨m', c1, ?_, hp2.trans (a3.trans (b2.trans c3)), k1.trans (k3.trans (k2.trans c4))⟩
      rw [flP_cons, if_pos e, nN_cons, if_pos e, show dp - (1 + nN P) = dp - 1 - nN P by omega]
      rw [List.append_assoc, List.singleton_append] at c2
      exact c2
    · rw [if_neg (show ¬ nI x = (21 : Int32) from fun z => e ((nI_eq (b := 21) (by omega) (by omega)).mp z)), rd_ok (by omega) (by omega), hx9]
      rw [if_neg e] at hn
      obtain ⟨m1, a1, a2, a3, a4, a5, a6⟩ := add_m hp1 (by omega) 3 (nI x)
      have k3 : lxK (sI m 0 22 (nI (P ++ S).length)) m1 := ⟨a4, a6, fun s _ => by rw [a5]⟩
      rw [a1, cV_some]
      obtain ⟨m', c1, c2, c3, c4⟩ := ih (Em ++ [(3, nI x)]) dp _ f (by omega) (by rw [List.length_append]; simp; omega) (by omega) hP' (by omega) a2
      refine ⟨m', c1, ?_, hp2.trans (a3.trans c3), k1.trans (k3.trans c4)⟩
      rw [flP_cons, if_neg e, nN_cons, if_neg e, Nat.zero_add]
      rw [List.append_assoc, List.singleton_append] at c2
      exact c2
def hrel : List Nat → Bool
  | [] => false
  | x :: S => if x = 20 then false else if tgt x ≤ 4 then decide (tgt x = 4) else hrel S
theorem hrel_ok {Em : List (Int32 × Int32)} {S : List Nat} {dp : Nat} {m : Mem} (h : FR w Em S dp u o m) (hs : S.length < 160) : fX12_hasRelation m = some (if hrel S = true then 1 else 0) := by
  obtain ⟨⟨h0, h0'⟩, h1, h2, h3, h4, -⟩ := h
  have key : ∀ (S : List Nat) (f : Nat), S.length < f → S.length < 160 → (∀ x, x ∈ S → x < 128) → stS (m.1 9) S → gX12_hasRelation m f (nI S.length - 1) = some (if hrel S = true then 1 else 0) := by
    intro S
    induction S with
    | nil =>
      intro f hf _ _ _
      obtain ⟨f, rfl⟩ : ∃ g, f = g + 1 := ⟨f - 1, by omega⟩
      rw [List.length_nil, gX12_hasRelation, if_pos (by decide), if_pos (by decide)]
      rfl
    | cons x S ih =>
      intro f hf hl hx hs
      obtain ⟨f, rfl⟩ : ∃ g, f = g + 1 := ⟨f - 1, by omega⟩
      rw [List.length_cons] at hf hl
      have h128 := hx x (by simp)
      have ht := tgt_ok x h128
      have hrd : ∀ (Q : Int32 → Option Int32), rd (m.1 9) 160 (nI S.length) Q = Q (nI x) := fun Q => by rw [rd_ok (by omega) (by omega), hs.1]
      have h20 : nI x = (20 : Int32) ↔ x = 20 := nI_eq (b := 20) (by omega) (by omega)
      have h4 : nI (tgt x) ≤ (4 : Int32) ↔ tgt x ≤ 4 := nI_leI (b := 4) (by omega) (by omega)
      have h4' : nI (tgt x) = (4 : Int32) ↔ tgt x = 4 := nI_eq (b := 4) (by omega) (by omega)
      rw [List.length_cons, nI_pred, gX12_hasRelation, if_neg (nI_lt0 (by omega))]
      simp only [hrd, ht.1, cP_some]
      rw [hrel]
      by_cases e : x = 20
      · rw [if_pos (h20.mpr e), if_neg (nI_lt0 (by omega)), if_pos (h20.mpr e), if_pos e]; rfl
      · rw [if_neg (fun z => e (h20.mp z)), if_neg (fun z => e (h20.mp z)), if_neg e]
        by_cases e2 : tgt x ≤ 4
        · rw [if_pos (h4.mpr e2), if_neg (nI_lt0 (by omega)), if_pos e2]
          by_cases e3 : tgt x = 4
          · rw [if_pos (h4'.mpr e3), if_pos (by simp [e3])]
          · rw [if_neg (fun z => e3 (h4'.mp z)), if_neg (by simp [e3])]
        · rw [if_neg (fun z => e2 (h4.mp z)), if_neg e2, show nI S.length + (-1 : Int32) = nI S.length - 1 by rw [Int32.sub_eq_add_neg]]
          exact ih f (by omega) (by omega) (fun y hy => hx y (by simp [hy])) hs.2
  unfold fX12_hasRelation
  rw [h3, nm_eq]
  exact key S 5000 (by omega) hs h0' h4
theorem hbr_ok {Em : List (Int32 × Int32)} {S : List Nat} {dp : Nat} {m : Mem} (h : FR w Em S dp u o m) (hs : S.length < 160) : fX12_hasBracket m = some (if 20 ∈ S then 1 else 0) := by
  obtain ⟨⟨h0, h0'⟩, h1, h2, h3, h4, -⟩ := h
  have hyes : ∀ (k i : Nat), i + k = S.length → ∀ f, k < f → gX12_hasBracket m f 1 (nI i) = some 1 := by
    intro k
    induction k with
    | zero =>
      intro i hi f hf
      obtain ⟨f, rfl⟩ : ∃ g, f = g + 1 := ⟨f - 1, by omega⟩
      rw [gX12_hasBracket, h3, if_pos (nI_le (by omega) (by omega)), tz_1]
    | succ k ih =>
      intro i hi f hf
      obtain ⟨f, rfl⟩ : ∃ g, f = g + 1 := ⟨f - 1, by omega⟩
      rw [gX12_hasBracket, h3, if_neg (nI_ge (by omega) (by omega)), if_neg (show ¬ (1 : Int32) = 0 by decide), nI_1]
      exact ih (i + 1) (by omega) f (by omega)
  have hget : ∀ i, i < S.length → m.1 9 i = nI (S.reverse.getD i 0) := by
    have : ∀ (S : List Nat), stS (m.1 9) S → ∀ i, i < S.length → m.1 9 i = nI (S.reverse.getD i 0) := by
      intro S
      induction S with
      | nil => intro _ i hi; simp at hi
      | cons x S ih =>
        intro hs i hi
        rw [List.reverse_cons, List.getD_eq_getElem?_getD]
        by_cases e : i < S.length
        · rw [List.getElem?_append_left (by rw [List.length_reverse]; exact e), ← List.getD_eq_getElem?_getD]
          exact ih hs.2 i e
        · rw [List.length_cons] at hi
          have e2 : i = S.length := by omega
          rw [List.getElem?_append_right (by rw [List.length_reverse]; omega), List.length_reverse, e2, Nat.sub_self]
          exact hs.1
    exact this S h4
  have hno : ∀ (k i : Nat), i + k = S.length → ∀ f, k < f → (∀ j, j < i → ¬ S.reverse.getD j 0 = 20) → gX12_hasBracket m f 0 (nI i) = some (if ∃ j, j < S.length ∧ S.reverse.getD j 0 = 20 then 1 else 0) := by
    intro k
    induction k with
    | zero =>
      intro i hi f hf hj
      obtain ⟨f, rfl⟩ : ∃ g, f = g + 1 := ⟨f - 1, by omega⟩
      rw [gX12_hasBracket, h3, if_pos (nI_le (by omega) (by omega)), tz_0, if_neg]
      rintro ⟨j, x, y⟩
      exact hj j (by omega) y
    | succ k ih =>
      intro i hi f hf hj
      obtain ⟨f, rfl⟩ : ∃ g, f = g + 1 := ⟨f - 1, by omega⟩
      rw [gX12_hasBracket, h3, if_neg (nI_ge (by omega) (by omega)), if_pos rfl, rd_ok (by omega) (by omega), hget i (by omega), nI_1]
      have hb : S.reverse.getD i 0 < 128 := by
        have hi2 : i < S.reverse.length := by rw [List.length_reverse]; omega
        rw [List.getD_eq_getElem?_getD, List.getElem?_eq_getElem hi2, Option.getD_some]
        exact h0' _ (List.mem_reverse.mp (List.getElem_mem hi2))
      by_cases e : S.reverse.getD i 0 = 20
      · rw [if_pos (by rw [e]; rfl), if_pos ⟨i, by omega, e⟩]
        exact hyes k (i + 1) (by omega) f (by omega)
      · rw [if_neg (show ¬ nI (S.reverse.getD i 0) = (20 : Int32) from fun z => e ((nI_eq (b := 20) (by omega) (by omega)).mp z))]
        exact ih (i + 1) (by omega) f (by omega) (fun j hj2 => by
          by_cases y : j = i
          · rw [y]; exact e
          · exact hj j (by omega))
  have := hno S.length 0 (by omega) 5000 (by omega) (fun j hj => by omega)
  rw [show fX12_hasBracket m = gX12_hasBracket m 5000 0 (nI 0) from rfl, this]
  have hiff : (∃ j, j < S.length ∧ S.reverse.getD j 0 = 20) ↔ 20 ∈ S := by
    rw [← List.mem_reverse, List.mem_iff_getElem?]
    constructor
    · rintro ⟨j, x, y⟩
      have hi2 : j < S.reverse.length := by rw [List.length_reverse]; exact x
      rw [List.getD_eq_getElem?_getD, List.getElem?_eq_getElem hi2, Option.getD_some] at y
      exact ⟨j, by rw [List.getElem?_eq_getElem hi2, y]⟩
    · rintro ⟨j, y⟩
      obtain ⟨hi2, -⟩ := List.getElem?_eq_some_iff.mp y
      exact ⟨j, by rw [List.length_reverse] at hi2; exact hi2, by rw [List.getD_eq_getElem?_getD, y]; rfl⟩
  by_cases e : 20 ∈ S
  · rw [if_pos (hiff.mpr e), if_pos e]
  · rw [if_neg (fun z => e (hiff.mp z)), if_neg e]
end
