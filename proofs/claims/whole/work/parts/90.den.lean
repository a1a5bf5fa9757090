/-! ===== behind a unit; what codes mean; what a level gives ===== -/
theorem sgn_few : ∀ k, k < 147 → ¬ sgn k = 0 → sgn k < 128 ∧ ¬ k = 41 ∧ ¬ k = 0 ∧ ¬ sgn k = 20 ∧ ¬ sgn k = 21 := by decide +kernel
section
variable {bt : Nat → Nat} {L Q w : Nat} {Ec : List Int32} {Em : List (Int32 × Int32)} {P S : List Nat} {dp u o k p n v : Nat} {wd : List Nat} {c m : Mem}
/-- an operator -/
theorem B_op (h : SF bt L Q w Ec Em (P ++ S) dp u o k p n v wd c m) (hs0 : ¬ sgn k = 0) (hl : P.length + S.length < 159) (hE : Em.length + P.length ≤ 320) (hP : ∀ x, x ∈ P → tgt (sgn k) ≤ tgt x ∧ ¬ x = 20) (hn : nN P ≤ dp) (hS : topOK (tgt (sgn k)) S) (hr : ¬ tgt (sgn k) = 4 ∨ hrel (P ++ S) = false) : ∃ k' p' n' v' wd' c' m', fX10_advance c = some c' ∧ (∀ g, runB (g + 1) m = runA 5000 g m') ∧ SF bt L Q w Ec (Em ++ flP P) (sgn k :: S) (dp - nN P) u o k' p' n' v' wd' c' m' ∧ frC Q w c c' ∧ frM w m m' := by
  obtain ⟨hB, hT, hK, hR⟩ := h
  obtain ⟨s1, s2, s3, s4, s5⟩ := sgn_few k hT.vk.1 hs0
  have ht := tgt_ok (sgn k) s1
  have hlen : (P ++ S).length = P.length + S.length := List.length_append
  obtain ⟨m1, a1, a2, a3, a4⟩ := close_ok (l := tgt (sgn k)) ht.2.2 hS P Em dp m 5000 (by omega) hE (by omega) hP hn hR
  obtain ⟨b1, b2⟩ := a2.push s1
  have k2 : lxK m1 (sI (sI m1 9 S.length (nI (sgn k))) 0 22 (nI (S.length + 1))) := ⟨rfl, by rw [sI_oth (by omega), sI_oth (by omega)], fun s hs => by rw [sI_row, upd_ne (by omega), sI_oth (by omega)]⟩
  have k3 := a4.trans k2
  obtain ⟨k', p', n', v', wd', c', m', d1, d2, d3, d4, d5⟩ := adv2 (hB.lk k3) hT.2.2.1 (hT.nxC s3) (by rw [k3.2.2 4 (by omega)]; exact hT.nxM s3) hK b1
  refine ⟨k', p', n', v', wd', c', m', d1, fun g => ?_, d3, d4.fr hK.1.1, a3.trans (b2.trans d5.fr)⟩
  have h41 := hT.sg (s := 41) (x := 41) rfl (by omega) (by decide)
  have hrest : (cP (some (nI (tgt (sgn k)))) fun r53 => (cV (fX12_close m r53) fun m56 => (wr m56 9 160 (m56.1 0 22) (nI (sgn k)) fun m57 => (pt (sI m57 0 22 ((m57.1 0 22) + (1 : Int32))) fun m58 => (cV (fX12_token m58) fun m60 => (cV (fX12_unit m60) fun m62 => (gX12_formula g 1 m62))))))) = runA 5000 g m' := by
    rw [cP_some, show fX12_close m (nI (tgt (sgn k))) = _ from a1, cV_some, a2.2.2.2.1, wr_ok (by omega) (by omega), pt_eq, sI_oth (by omega), a2.2.2.2.1, nI_1, d2, cV_some]
    rfl
  unfold runB
  rw [gX12_formula, if_neg (show ¬ (1 : Int32) = 0 by decide), if_pos hR.2.1, hT.sign, cP_some, if_neg (fun z => s2 (h41.mp z)), if_neg (nI_ne0 (by omega) (by omega)), ht.1]
  by_cases e : tgt (sgn k) = 4
  · have hh : hrel (P ++ S) = false := by rcases hr with z | z; exact absurd e z; exact z
    rw [cP_some, if_pos (by rw [e]; rfl), hrel_ok hR (by omega), hh, cP_some, if_neg (show ¬ false = true by decide), if_pos rfl]
    exact hrest
  · rw [cP_some, if_neg (show ¬ nI (tgt (sgn k)) = (4 : Int32) from fun z => e ((nI_eq (b := 4) (by omega) (by omega)).mp z))]
    exact hrest
/-- a bracket closed -/
theorem B_close (h : SF bt L Q w Ec Em (P ++ 20 :: S) dp u o k p n v wd c m) (hk : k = 41) (hl : P.length + S.length < 158) (hE : Em.length + P.length ≤ 320) (hP : ∀ x, x ∈ P → ¬ x = 20) (hn : nN P + 1 ≤ dp) : ∃ k' p' n' v' wd' c' m', fX10_advance c = some c' ∧ (∀ g, runB (g + 1) m = runB g m') ∧ SF bt L Q w Ec (Em ++ flP P) S (dp - nN P - 1) u o k' p' n' v' wd' c' m' ∧ frC Q w c c' ∧ frM w m m' := by
  obtain ⟨hB, hT, hK, hR⟩ := h
  have hlen : (P ++ 20 :: S).length = P.length + (S.length + 1) := by rw [List.length_append]; rfl
  obtain ⟨m1, a1, a2, a3, a4⟩ := close_ok (l := 0) (by omega) (S := 20 :: S) (Or.inl rfl) P Em dp m 5000 (by omega) hE (by simp; omega) (fun x hx => ⟨Nat.zero_le _, hP x hx⟩) (by omega) hR
  obtain ⟨b1, b2⟩ := a2.pop
  obtain ⟨e1, e2⟩ := b1.deep (dp - nN P - 1)
  have k2 : lxK m1 (sI (sI m1 0 22 (nI S.length)) 0 26 (nI (dp - nN P - 1))) := ⟨rfl, by rw [sI_oth (by omega), sI_oth (by omega)], fun s hs => by rw [sI_row, upd_ne (by omega), sI_row, upd_ne (by omega)]⟩
  have k3 := a4.trans k2
  have hk0 : ¬ k = 0 := by omega
  obtain ⟨k', p', n', v', wd', c', m', d1, d2, d3, d4, d5⟩ := adv2 (hB.lk k3) hT.2.2.1 (hT.nxC hk0) (by rw [k3.2.2 4 (by omega)]; exact hT.nxM hk0) hK e1
  refine ⟨k', p', n', v', wd', c', m', d1, fun g => ?_, d3, d4.fr hK.1.1, a3.trans (b2.trans (e2.trans d5.fr))⟩
  have h41 := hT.sg (s := 41) (x := 41) rfl (by omega) (by decide)
  have f1 : m1.1 0 22 - (1 : Int32) = nI S.length := by rw [a2.2.2.2.1, List.length_cons, nI_pred]
  have f2 : (sI m1 0 22 (nI S.length)).1 0 26 - (1 : Int32) = nI (dp - nN P - 1) := by rw [sI_row, upd_ne (by omega), a2.2.2.2.2.2.1, show (1 : Int32) = nI 1 from rfl, pk_sub (by omega)]
  unfold runB
  rw [gX12_formula, if_neg (show ¬ (1 : Int32) = 0 by decide), if_pos hR.2.1, hT.sign, cP_some, if_pos (h41.mpr hk), hbr_ok hR (by omega), cP_some, if_pos (show 20 ∈ P ++ 20 :: S by simp), if_neg (show ¬ (1 : Int32) = 0 by decide), show fX12_close m 0 = _ from a1, cV_some, pt_eq, f1, pt_eq, f2, d2, cV_some]
theorem B_stop (h : SF bt L Q w Ec Em S dp u o k p n v wd c m) (hl : S.length < 160) (hk : k = 41 → ¬ 20 ∈ S) (hs : sgn k = 0 ∨ (tgt (sgn k) = 4 ∧ hrel S = true)) (g : Nat) : runB (g + 1) m = gX12_formula g 0 m := by
  obtain ⟨hB, hT, hK, hR⟩ := h
  have h41 := hT.sg (s := 41) (x := 41) rfl (by omega) (by decide)
  have hk147 := hT.vk.1
  have hlt : sgn k < 128 := by
    by_cases e : sgn k = 0
    · omega
    · exact (sgn_few k hk147 e).1
  have ht := tgt_ok (sgn k) hlt
  have rest : (if nI (sgn k) = 0 then (gX12_formula g (0 : Int32) m) else (cP (fX12_tight (nI (sgn k))) fun r37 => (if r37 = (4 : Int32) then (cP (fX12_hasRelation m) fun r50 => (if r50 = 0 then (cP (fX12_tight (nI (sgn k))) fun r53 => (cV (fX12_close m r53) fun m56 => (wr m56 9 160 (m56.1 0 22) (nI (sgn k)) fun m57 => (pt (sI m57 0 22 ((m57.1 0 22) + (1 : Int32))) fun m58 => (cV (fX12_token m58) fun m60 => (cV (fX12_unit m60) fun m62 => (gX12_formula g 1 m62))))))) else (gX12_formula g (0 : Int32) m))) else (cP (fX12_tight (nI (sgn k))) fun r40 => (cV (fX12_close m r40) fun m43 => (wr m43 9 160 (m43.1 0 22) (nI (sgn k)) fun m44 => (pt (sI m44 0 22 ((m44.1 0 22) + (1 : Int32))) fun m45 => (cV (fX12_token m45) fun m47 => (cV (fX12_unit m47) fun m49 => (gX12_formula g 1 m49)))))))))) = gX12_formula g 0 m := by
    by_cases e : sgn k = 0
    · rw [if_pos (by rw [e]; rfl)]
    · obtain ⟨e4, eh⟩ := hs.resolve_left e
      rw [if_neg (nI_ne0 (by omega) (by omega)), ht.1, cP_some, if_pos (by rw [e4]; rfl), hrel_ok hR hl, eh, cP_some, if_pos rfl, if_neg (show ¬ (1 : Int32) = 0 by decide)]
  unfold runB
  rw [gX12_formula, if_neg (show ¬ (1 : Int32) = 0 by decide), if_pos hR.2.1, hT.sign, cP_some]
  by_cases e : k = 41
  · rw [if_pos (h41.mpr e), hbr_ok hR hl, cP_some, if_neg (hk e), if_pos rfl]
    exact rest
  · rw [if_neg (fun z => e (h41.mp z))]
    exact rest
theorem B_bad (h : SF bt L Q w Ec Em S dp u o k p n v wd c m) (hl : S.length < 160) (hk : ¬ k = 41) (hb : 20 ∈ S) (hs : sgn k = 0 ∨ (tgt (sgn k) = 4 ∧ hrel S = true)) : ∃ m', (∀ g, runB (g + 2) m = some m') ∧ MF (if k = 0 then 1 else 2) p m' ∧ frM w m m' := by
  have hp := h.p16
  have hst := B_stop h hl (fun z => absurd z hk) hs
  obtain ⟨hB, hT, hK, hR⟩ := h
  obtain ⟨m1, a1, a2, a3, a4, a5⟩ := wrong_ok hT hR.2.1 2
  have hM : MF (if k = 0 then 1 else 2) p m1 := ⟨⟨by split <;> omega, by split <;> omega, hp⟩, a4, a5⟩
  refine ⟨m1, fun g => ?_, hM, frM.of0 a2 a3⟩
  rw [hst (g + 1), gX12_formula, if_pos rfl, if_pos hR.2.1, hbr_ok hR hl, cP_some, if_pos hb, if_neg (show ¬ (1 : Int32) = 0 by decide), show fX12_wrong m (2 : Int32) = _ from a1, cV_some, if_neg hM.pos.1]
theorem B_end (h : SF bt L Q w Ec Em P dp u o k p n v wd c m) (hl : P.length < 160) (hE : Em.length + P.length ≤ 320) (hP : ∀ x, x ∈ P → ¬ x = 20) (hn : nN P ≤ dp) (hs : sgn k = 0 ∨ (tgt (sgn k) = 4 ∧ hrel P = true)) : ∃ m', (∀ g, runB (g + 2) m = some m') ∧ SF bt L Q w Ec (Em ++ flP P) [] (dp - nN P) u o k p n v wd c m' ∧ frM w m m' := by
  have hst := B_stop h hl (fun _ z => hP 20 z rfl) hs
  obtain ⟨hB, hT, hK, hR⟩ := h
  have hR' : FR w Em (P ++ []) dp u o m := by rw [List.append_nil]; exact hR
  obtain ⟨m1, a1, a2, a3, a4⟩ := close_ok (l := 0) (by omega) (S := []) trivial P Em dp m 5000 (by omega) hE (by simp; omega) (fun x hx => ⟨Nat.zero_le _, hP x hx⟩) hn hR'
  refine ⟨m1, fun g => ?_, ⟨hB.lk a4, ?_, hK, a2⟩, a3⟩
  · rw [hst (g + 1), gX12_formula, if_pos rfl, if_pos hR.2.1, hbr_ok hR hl, cP_some, if_neg (fun z => hP 20 z rfl), if_pos rfl, if_pos hR.2.1, show fX12_close m 0 = _ from a1, cV_some]
  · unfold TK at hT ⊢
    rw [a4.2.2 8 (by omega), a4.2.2 6 (by omega), a4.2.2 7 (by omega), a4.2.2 4 (by omega), a4.1]
    exact hT
end
/-- codes of both that mean the same -/
def Den (δ : Nat) (E : List Int32) (E' : List (Int32 × Int32)) (val : Int32 → Int32 → Int32 → Int32 → Int32) : Prop := (∀ d h l f st, E.foldl (stepC d h l f) st = val d h l f :: st) ∧ (∀ d h l f st, E'.foldl (stepM d h l f) st = val d h l f :: st) ∧ (∀ n rest kk, kk + δ ≤ n → depC n (E ++ rest) kk = depC n rest (kk + 1)) ∧ ∀ n rest kk, kk + δ ≤ n → depM n (E' ++ rest) kk = depM n rest (kk + 1)
theorem Den.mono {δ δ' : Nat} {E : List Int32} {E' : List (Int32 × Int32)} {val : Int32 → Int32 → Int32 → Int32 → Int32} (h : Den δ E E' val) (hd : δ ≤ δ') : Den δ' E E' val := ⟨h.1, h.2.1, fun n rest kk hk => h.2.2.1 n rest kk (by omega), fun n rest kk hk => h.2.2.2 n rest kk (by omega)⟩
theorem Den.num {v : Nat} (hv : v < 10000) : Den 1 [nI v] [(0, nI v)] (fun _ _ _ _ => nI v) := by
  have h5 : (-5 : Int32) < nI v := fa_trans (show (-5 : Int32) < 0 by decide) (nI_pos' (by omega))
  have hne : ∀ x : Int32, x < 0 → ¬ nI v = x := fun x hx z => nI_lt0 (k := v) (by omega) (by rw [z]; exact hx)
  refine ⟨fun d h l f st => ?_, fun d h l f st => ?_, fun n rest kk hk => ?_, fun n rest kk hk => ?_⟩
  · rw [List.foldl_cons, List.foldl_nil, stepC.eq_def, if_pos h5, if_neg (hne _ (by decide)), if_neg (hne _ (by decide)), if_neg (hne _ (by decide)), if_neg (hne _ (by decide))]
  · rw [List.foldl_cons, List.foldl_nil, stepM.eq_def, if_pos rfl]
  · rw [List.singleton_append, depC, if_pos h5, if_pos (by omega)]
  · rw [List.singleton_append, depM, if_pos rfl, if_pos (by omega)]
theorem ask_k : ∀ k, k < 147 → ¬ askN k < 0 → (givN k = -1 ∧ askN k = 0) ∨ (givN k = -2 ∧ askN k = 1) ∨ (givN k = -3 ∧ askN k = 2) ∨ (givN k = -4 ∧ askN k = 3) := by decide +kernel
theorem Den.ask {k : Nat} (hk : k < 147) (ha : ¬ askN k < 0) : Den 1 [givN k] [(1, askN k)] (fun d h l f => if askN k = 0 then d else if askN k = 1 then h else if askN k = 2 then l else f) := by
  have z01 : ¬ (1 : Int32) = 0 := by decide
  rcases ask_k k hk ha with ⟨e1, e2⟩ | ⟨e1, e2⟩ | ⟨e1, e2⟩ | ⟨e1, e2⟩
  all_goals
    rw [e1, e2]
    refine ⟨fun d h l f st => ?_, fun d h l f st => ?_, fun n rest kk hk => ?_, fun n rest kk hk => ?_⟩
    · rw [List.foldl_cons, List.foldl_nil, stepC.eq_def, if_pos (by decide)]
      rfl
    · rw [List.foldl_cons, List.foldl_nil, stepM.eq_def, if_neg z01, if_pos rfl]
    · rw [List.singleton_append, depC, if_pos (by decide), if_pos (by omega)]
    · rw [List.singleton_append, depM, if_neg z01, if_pos rfl, if_pos ⟨by omega, by decide⟩]
def opOK (s : Nat) (cc : Int32) : Prop := ¬ (-5 : Int32) < cc ∧ ¬ cc = -5 ∧ ¬ s = 21 ∧ ∀ x y, (fX3_join cc x y).getD 0 = (fX12_done (nI s) x y).getD 0
theorem tr01 : fX12_truth 0 = some 0 ∧ fX12_truth 1 = some 1 := by decide
theorem op_42 : opOK 42 (-13) := ⟨by decide, by decide, by decide, fun x y => rfl⟩
theorem op_47 : opOK 47 (-14) := ⟨by decide, by decide, by decide, fun x y => rfl⟩
theorem op_37 : opOK 37 (-15) := ⟨by decide, by decide, by decide, fun x y => rfl⟩
theorem op_43 : opOK 43 (-11) := ⟨by decide, by decide, by decide, fun x y => rfl⟩
theorem op_45 : opOK 45 (-12) := ⟨by decide, by decide, by decide, fun x y => rfl⟩
theorem op_60 : opOK 60 (-8) := ⟨by decide, by decide, by decide, fun x y => by
  show (if y ≤ x then some (0 : Int32) else some 1).getD 0 = (if y ≤ x then (cP (fX12_truth (0 : Int32)) fun r => some r) else (cP (fX12_truth (1 : Int32)) fun r => some r)).getD 0
  rw [tr01.1, tr01.2, cP_some, cP_some]⟩
theorem op_62 : opOK 62 (-9) := ⟨by decide, by decide, by decide, fun x y => by
  show (if x ≤ y then some (0 : Int32) else some 1).getD 0 = (if x ≤ y then (cP (fX12_truth (0 : Int32)) fun r => some r) else (cP (fX12_truth (1 : Int32)) fun r => some r)).getD 0
  rw [tr01.1, tr01.2, cP_some, cP_some]⟩
theorem op_61 : opOK 61 (-10) := ⟨by decide, by decide, by decide, fun x y => by
  show (if x = y then some (1 : Int32) else some 0).getD 0 = (if x = y then (cP (fX12_truth (1 : Int32)) fun r => some r) else (cP (fX12_truth (0 : Int32)) fun r => some r)).getD 0
  rw [tr01.1, tr01.2, cP_some, cP_some]⟩
theorem op_38 : opOK 38 (-7) := ⟨by decide, by decide, by decide, fun x y => by
  show (if x = 0 then some (0 : Int32) else (if y = 0 then some 0 else some 1)).getD 0 = (if x = 0 then (cP (fX12_truth (0 : Int32)) fun r => some r) else (if y = 0 then (cP (fX12_truth (0 : Int32)) fun r => some r) else (cP (fX12_truth (1 : Int32)) fun r => some r))).getD 0
  rw [tr01.1, tr01.2, cP_some, cP_some]⟩
theorem op_124 : opOK 124 (-6) := ⟨by decide, by decide, by decide, fun x y => by
  show (if x = 0 then (if y = 0 then some (0 : Int32) else some 1) else some 1).getD 0 = (if x = 0 then (if y = 0 then (cP (fX12_truth (0 : Int32)) fun r => some r) else (cP (fX12_truth (1 : Int32)) fun r => some r)) else (cP (fX12_truth (1 : Int32)) fun r => some r)).getD 0
  rw [tr01.1, tr01.2, cP_some, cP_some]⟩
theorem Den.bin {δ1 δ2 s : Nat} {cc : Int32} {E1 E2 : List Int32} {E1' E2' : List (Int32 × Int32)} {v1 v2 : Int32 → Int32 → Int32 → Int32 → Int32} (ho : opOK s cc) (h1 : Den δ1 E1 E1' v1) (h2 : Den δ2 E2 E2' v2) (hd : 1 ≤ δ1) : Den (δ1 + δ2) (E1 ++ (E2 ++ [cc])) (E1' ++ (E2' ++ [(3, nI s)])) (fun d h l f => (fX3_join cc (v1 d h l f) (v2 d h l f)).getD 0) := by
  obtain ⟨o1, o2, -, o4⟩ := ho
  have n0 : ¬ (3 : Int32) = 0 := by decide
  have n1 : ¬ (3 : Int32) = 1 := by decide
  have n2 : ¬ (3 : Int32) = 2 := by decide
  refine ⟨fun d h l f st => ?_, fun d h l f st => ?_, fun n rest kk hk => ?_, fun n rest kk hk => ?_⟩
  · rw [List.foldl_append, h1.1, List.foldl_append, h2.1, List.foldl_cons, List.foldl_nil, stepC.eq_def, if_neg o1, if_neg o2]
  · rw [List.foldl_append, h1.2.1, List.foldl_append, h2.2.1, List.foldl_cons, List.foldl_nil, stepM.eq_def, if_neg n0, if_neg n1, if_neg n2]
    show (fX12_done (nI s) (v1 d h l f) (v2 d h l f)).getD 0 :: st = (fX3_join cc (v1 d h l f) (v2 d h l f)).getD 0 :: st
    rw [o4]
  · rw [List.append_assoc, h1.2.2.1 n _ kk (by omega), List.append_assoc, h2.2.2.1 n _ (kk + 1) (by omega), List.singleton_append, depC, if_neg o1, if_neg o2, if_pos (by omega)]
    rfl
  · rw [List.append_assoc, h1.2.2.2 n _ kk (by omega), List.append_assoc, h2.2.2.2 n _ (kk + 1) (by omega), List.singleton_append, depM, if_neg n0, if_neg n1, if_neg n2, if_pos (by omega)]
    rfl
def notI (x : Int32) : Int32 := if x = 0 then 1 else 0
def notN : Nat → Int32 → Int32
  | 0, x => x
  | n + 1, x => notI (notN n x)
theorem notN_2 (n : Nat) (x : Int32) : notN (n + 3) x = notN (n + 1) x := by
  rw [notN, notN]
  unfold notI
  by_cases c : notN (n + 1) x = 0
  · rw [if_pos c, if_neg (by decide), c]
  · rw [if_neg c, if_pos rfl]
    rw [notN] at c ⊢
    unfold notI at c ⊢
    split
    · rfl
    · rename_i z
      rw [if_neg z] at c
      exact absurd rfl c
def ntC (n : Nat) : Nat := if n ≤ 2 then n else 2 - n % 2
theorem notN_C (x : Int32) : ∀ n, notN (ntC n) x = notN n x
  | 0 => rfl
  | 1 => rfl
  | 2 => rfl
  | n + 3 => by
    rw [notN_2, ← notN_C x (n + 1)]
    unfold ntC
    by_cases c : n + 1 ≤ 2
    · rw [if_pos c, if_neg (by omega)]
      rcases (show n = 0 ∨ n = 1 by omega) with rfl | rfl <;> rfl
    · rw [if_neg c, if_neg (by omega), show (n + 3) % 2 = (n + 1) % 2 by omega]
theorem Den.not1C {δ : Nat} {E : List Int32} {E' : List (Int32 × Int32)} {val : Int32 → Int32 → Int32 → Int32 → Int32} (h : Den δ E E' val) (a b : Nat) (hab : ∀ x, notN a x = notN b x) : Den δ (E ++ List.replicate a (-5)) (E' ++ List.replicate b (2, 0)) (fun d hh l f => notN b (val d hh l f)) := by
  have hC : ∀ a d hh l f (x : Int32) st, (List.replicate a (-5 : Int32)).foldl (stepC d hh l f) (x :: st) = notN a x :: st := by
    intro a
    induction a with
    | zero => intros; rfl
    | succ a ih =>
      intro d hh l f x st
      rw [List.replicate_succ', List.foldl_append, ih, List.foldl_cons, List.foldl_nil, stepC.eq_def, if_neg (by decide), if_pos rfl]
      rfl
  have hM : ∀ a d hh l f (x : Int32) st, (List.replicate a ((2 : Int32), (0 : Int32))).foldl (stepM d hh l f) (x :: st) = notN a x :: st := by
    intro a
    induction a with
    | zero => intros; rfl
    | succ a ih =>
      intro d hh l f x st
      rw [List.replicate_succ', List.foldl_append, ih, List.foldl_cons, List.foldl_nil, stepM.eq_def, if_neg (show ¬ (2 : Int32) = 0 by decide), if_neg (show ¬ (2 : Int32) = 1 by decide), if_pos rfl]
      rfl
  have dC : ∀ a n rest kk, 1 ≤ kk → depC n (List.replicate a (-5 : Int32) ++ rest) kk = depC n rest kk := by
    intro a
    induction a with
    | zero => intros; rfl
    | succ a ih =>
      intro n rest kk hk
      rw [List.replicate_succ, List.cons_append, depC, if_neg (by decide), if_pos rfl, if_pos hk, ih n rest kk hk]
  have dM : ∀ a n rest kk, 1 ≤ kk → depM n (List.replicate a ((2 : Int32), (0 : Int32)) ++ rest) kk = depM n rest kk := by
    intro a
    induction a with
    | zero => intros; rfl
    | succ a ih =>
      intro n rest kk hk
      rw [List.replicate_succ, List.cons_append, depM, if_neg (show ¬ (2 : Int32) = 0 by decide), if_neg (show ¬ (2 : Int32) = 1 by decide), if_pos rfl, if_pos hk, ih n rest kk hk]
  refine ⟨fun d hh l f st => ?_, fun d hh l f st => ?_, fun n rest kk hk => ?_, fun n rest kk hk => ?_⟩
  · rw [List.foldl_append, h.1, hC, hab]
  · rw [List.foldl_append, h.2.1, hM]
  · rw [List.append_assoc, h.2.2.1 n _ kk hk, dC _ _ _ _ (by omega)]
  · rw [List.append_assoc, h.2.2.2 n _ kk hk, dM _ _ _ _ (by omega)]
