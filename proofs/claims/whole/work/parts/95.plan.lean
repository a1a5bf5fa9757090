/-! ===== a plan being told: what both hold of it ===== -/
def up2 (P : Nat → Nat → Nat) (a b v : Nat) : Nat → Nat → Nat := fun x y => if x = a ∧ y = b then v else P x y
theorem up2_at (P : Nat → Nat → Nat) (a b v : Nat) : up2 P a b v a b = v := if_pos ⟨rfl, rfl⟩
theorem up2_ne {P : Nat → Nat → Nat} {a b v x y : Nat} (h : ¬ (x = a ∧ y = b)) : up2 P a b v x y = P x y := if_neg h
/-- in the class's plan at tP T: tables of T; 22 sides, 23 whether wakeful is told, 20 6 the date, 20 7 whether it is told -/
def wkI (T : Tn) (p : Nat) : Int32 := if T.1 23 p = 0 then -1 else nI (tw T p)
def dtI (T : Tn) : Int32 := if T.1 20 7 = 0 then -1 else nI (T.1 20 6)
def PT (T : Tn) (nms : Nat → List Nat) : Prop := TOK T ∧ (tP T = 5 ∨ tP T = 32) ∧ (∀ p, p < tnp T → VW (nms p)) ∧ (∀ i j, i < tnp T → j < tnp T → nms i = nms j → i = j) ∧ (∀ p, p < tnp T → T.1 22 p < 3 ∧ T.1 23 p ≤ 1 ∧ (T.1 23 p = 0 → tw T p = 0)) ∧ T.1 20 7 ≤ 1 ∧ T.1 20 6 ≤ 364 ∧ (T.1 20 7 = 0 → T.1 20 6 = 0)
def FCz (T : Tn) (c : Mem) : Prop := FC T c ∧ ∀ w, w < 3 → told T w = 0 → c.1 (tP T + (12 + 3 * w)) 2 = 0
def PC (T : Tn) (nms : Nat → List Nat) (c : Mem) : Prop := c.2.2 4 1 = tP T ∧ (c.1 (tP T) 0 = nI (tnp T) ∧ c.1 (tP T) 5 = nI (tnm T) ∧ c.1 (tP T) 10 = nI (tnn T) ∧ c.1 (tP T) 18 = nI (tun T) ∧ c.1 (tP T) 14 = dtI T) ∧
  (∀ p, p < tnp T → c.2.1 (tP T + 1) p = lN (enc 27 96 (nms p)) ∧ c.1 (tP T + 2) p = nI (th T p) ∧ c.1 (tP T + 3) p = nI (T.1 22 p) ∧ c.1 (tP T + 4) p = wkI T p) ∧
  (∀ k, k < tnm T → c.1 (tP T + 5) k = nI (tA T k) ∧ c.1 (tP T + 6) k = nI (tB T k) ∧ c.1 (tP T + 7) k = nI (tH T k) ∧ c.1 (tP T + 8) k = nI (tW T k)) ∧
  (∀ k, k < tnn T → c.1 (tP T + 9) k = nI (tO T k) ∧ c.1 (tP T + 10) k = nI (tT T k) ∧ c.1 (tP T + 11) k = nI (tL T k)) ∧ FCz T c
def FMn (T : Tn) (m : Mem) : Prop := ∀ w, w < 3 → m.1 11 w = nI (told T w) ∧ (told T w = 1 → ∃ cs : List (Int32 × Int32), cs.length ≤ 320 ∧ m.1 5 w = nI cs.length ∧ (∀ i, i < cs.length → m.1 3 (320 * w + i) = (cs.getD i (0, 0)).1 ∧ m.1 4 (320 * w + i) = (cs.getD i (0, 0)).2) ∧ depM 60 cs 0 = some 1 ∧ ∀ d h l f, cs.foldl (stepM d h l f) [] = [T.2 w d h l f])
def PM (T : Tn) (nms : Nat → List Nat) (m : Mem) : Prop := (m.1 0 47 = nI (tnp T) ∧ m.1 0 48 = nI (tnm T) ∧ m.1 0 49 = nI (tnn T) ∧ m.1 0 23 = nI (tun T) ∧ m.1 0 54 = nI (T.1 20 7) ∧ m.1 0 50 = nI (T.1 20 6)) ∧
  (∀ p, p < tnp T → m.2.1 2 p = lN (enc 256 0 (nms p)) ∧ m.1 14 p = nI (th T p) ∧ m.1 15 p = nI (T.1 22 p) ∧ m.1 16 p = wkI T p) ∧
  (∀ k, k < tnm T → m.1 19 k = nI (tA T k) ∧ m.1 20 k = nI (tB T k) ∧ m.1 21 k = nI (tH T k) ∧ m.1 22 k = nI (tW T k)) ∧
  (∀ k, k < tnn T → m.1 27 k = nI (tO T k) ∧ m.1 28 k = nI (tT T k) ∧ m.1 29 k = nI (tL T k)) ∧ FMn T m
/-- what reading leaves as it was -/
def GC (Q : Nat) (c c' : Mem) : Prop := (∀ r, (r ≠ 1 ∧ r ≠ 4 ∧ (r < Q ∨ Q + 21 ≤ r)) → c'.1 r = c.1 r) ∧ (∀ s, (s < 3 ∨ 7 ≤ s) → c'.1 1 s = c.1 1 s) ∧ (∀ r, r ≠ 1 → r ≠ Q + 1 → c'.2.1 r = c.2.1 r) ∧ ∀ r s, (r ≠ 4 ∨ s ≠ 2) → c'.2.2 r s = c.2.2 r s
def GM (m m' : Mem) : Prop := (∀ r, r ∉ [0, 3, 4, 5, 9, 11, 14, 15, 16, 19, 20, 21, 22, 27, 28, 29] → m'.1 r = m.1 r) ∧ ∀ s, s ∉ [2, 3, 4, 6, 7, 8, 21, 22, 23, 25, 26, 47, 48, 49, 50, 54] → m'.1 0 s = m.1 0 s
theorem GC.rfl' {Q : Nat} {c : Mem} : GC Q c c := ⟨fun _ _ => rfl, fun _ _ => rfl, fun _ _ _ => rfl, fun _ _ _ => rfl⟩
theorem GM.rfl' {m : Mem} : GM m m := ⟨fun _ _ => rfl, fun _ _ => rfl⟩
theorem GC.trans {Q : Nat} {a b c : Mem} (h : GC Q a b) (g : GC Q b c) : GC Q a c := ⟨fun r hr => (g.1 r hr).trans (h.1 r hr), fun s hs => (g.2.1 s hs).trans (h.2.1 s hs), fun r x y => (g.2.2.1 r x y).trans (h.2.2.1 r x y), fun r s x => (g.2.2.2 r s x).trans (h.2.2.2 r s x)⟩
theorem GM.trans {a b c : Mem} (h : GM a b) (g : GM b c) : GM a c := ⟨fun r hr => (g.1 r hr).trans (h.1 r hr), fun s hs => (g.2 s hs).trans (h.2 s hs)⟩
theorem lxC.gc {Q : Nat} {c c' : Mem} (h : lxC c c') : GC Q c c' := ⟨fun r hr => h.2.1 r hr.1, h.2.2.1, fun r x _ => h.2.2.2 r x, fun r s _ => by rw [h.1]⟩
theorem lxM.gm {m m' : Mem} (h : lxM m m') : GM m m' := by
  refine ⟨fun r hr => h.2.1 r (fun z => hr (by simp [z])), fun s hs => h.2.2.1 s ?_⟩
  simp only [List.mem_cons, List.not_mem_nil, or_false, not_or] at hs
  omega
theorem GC.sI {Q : Nat} {a c : Mem} {r k : Nat} {v : Int32} (h : GC Q a c) (hr : r = 4 ∨ (r ≠ 1 ∧ Q ≤ r ∧ r < Q + 21)) : GC Q a (sI c r k v) := h.trans ⟨fun q hq => sI_oth (by omega), fun s hs => by rw [sI_oth (by omega)], fun _ _ _ => rfl, fun _ _ _ => rfl⟩
theorem GC.k4 {Q : Nat} {c c' : Mem} (hk : keeps [4] c c') : GC Q c c' := ⟨fun r hr => hk.2 r (by simp; omega), fun s _ => by rw [hk.2 1 (by simp)], fun r _ _ => by rw [hk.1], fun r s _ => by rw [hk.1]⟩
theorem GM.k0 {m m' : Mem} (hk : keeps [0] m m') (h0 : ∀ s, s ≠ 2 → s ≠ 3 → m'.1 0 s = m.1 0 s) : GM m m' := by
  refine ⟨fun r hr => hk.2 r (by simp at hr ⊢; omega), fun s hs => ?_⟩
  simp only [List.mem_cons, List.not_mem_nil, or_false, not_or] at hs
  exact h0 s (by omega) (by omega)
theorem GM.sI {a m : Mem} {r k : Nat} {v : Int32} (h : GM a m) (hr : (r ≠ 0 ∧ r ∈ [3, 4, 5, 9, 11, 14, 15, 16, 19, 20, 21, 22, 27, 28, 29]) ∨ (r = 0 ∧ k ∈ [2, 3, 21, 22, 23, 25, 26, 47, 48, 49, 50, 54])) : GM a (sI m r k v) := by
  refine h.trans ⟨fun q hq => sI_oth (fun z => ?_), fun s hs => ?_⟩
  · subst z
    rcases hr with ⟨x, y⟩ | ⟨x, y⟩
    · exact hq (by simp at y ⊢; omega)
    · exact hq (by simp [x])
  · rcases hr with ⟨x, y⟩ | ⟨rfl, y⟩
    · rw [sI_oth (Ne.symm x)]
    · rw [sI_row, upd_ne (fun z => by subst z; exact hs (by simp at y ⊢; omega))]
theorem GM.sL2 {a m : Mem} {r k : Nat} {v : Int64} (h : GM a m) : GM a (sL m r k v) := h.trans ⟨fun _ _ => rfl, fun _ _ => rfl⟩
theorem PC.gl {T : Tn} {nms : Nat → List Nat} {c c' : Mem} (hT : tP T = 5 ∨ tP T = 32) (h : PC T nms c) (h2 : c'.2.2 4 1 = c.2.2 4 1) (hL : c'.2.1 (tP T + 1) = c.2.1 (tP T + 1)) (hr : ∀ r, tP T ≤ r → r < tP T + 21 → c'.1 r = c.1 r) : PC T nms c' := by
  obtain ⟨h0, h1, h3, h4, h5, h6⟩ := h
  refine ⟨by rw [h2]; exact h0, ?_, ?_, ?_, ?_, ?_⟩
  · rw [hr (tP T) (by omega) (by omega)]; exact h1
  · rw [hL, hr (tP T + 2) (by omega) (by omega), hr (tP T + 3) (by omega) (by omega), hr (tP T + 4) (by omega) (by omega)]; exact h3
  · rw [hr (tP T + 5) (by omega) (by omega), hr (tP T + 6) (by omega) (by omega), hr (tP T + 7) (by omega) (by omega), hr (tP T + 8) (by omega) (by omega)]; exact h4
  · rw [hr (tP T + 9) (by omega) (by omega), hr (tP T + 10) (by omega) (by omega), hr (tP T + 11) (by omega) (by omega)]; exact h5
  · refine ⟨fun w hw => ?_, fun w hw hz => ?_⟩
    · rw [hr (tP T + (12 + 3 * w)) (by omega) (by omega), hr (tP T + (12 + 3 * w) + 1) (by omega) (by omega)]
      exact h6.1 w hw
    · rw [hr (tP T + (12 + 3 * w)) (by omega) (by omega)]
      exact h6.2 w hw hz
theorem PC.lx {T : Tn} {nms : Nat → List Nat} {c c' : Mem} (hT : tP T = 5 ∨ tP T = 32) (h : PC T nms c) (hl : lxC c c') : PC T nms c' := h.gl hT (by rw [hl.1]) (hl.2.2.2 _ (by omega)) (fun r x y => hl.2.1 r (by omega))
theorem PM.gl {T : Tn} {nms : Nat → List Nat} {m m' : Mem} (h : PM T nms m) (h0 : ∀ s, (s = 47 ∨ s = 48 ∨ s = 49 ∨ s = 23 ∨ s = 54 ∨ s = 50) → m'.1 0 s = m.1 0 s) (hL : m'.2.1 2 = m.2.1 2) (hr : ∀ r, r ∈ [3, 4, 5, 11, 14, 15, 16, 19, 20, 21, 22, 27, 28, 29] → m'.1 r = m.1 r) : PM T nms m' := by
  unfold PM FMn at *
  rw [h0 47 (by omega), h0 48 (by omega), h0 49 (by omega), h0 23 (by omega), h0 54 (by omega), h0 50 (by omega), hL, hr 3 (by simp), hr 4 (by simp), hr 5 (by simp), hr 11 (by simp), hr 14 (by simp), hr 15 (by simp), hr 16 (by simp), hr 19 (by simp), hr 20 (by simp), hr 21 (by simp), hr 22 (by simp), hr 27 (by simp), hr 28 (by simp), hr 29 (by simp)]
  exact h
theorem PM.lx {T : Tn} {nms : Nat → List Nat} {m m' : Mem} (h : PM T nms m) (hl : lxM m m') : PM T nms m' := h.gl (fun s hs => hl.2.2.1 s (by omega)) (hl.2.2.2 2 (by omega)) (fun r hr => hl.2.1 r (by rintro rfl; simp at hr))
/-- both at a token, with the plan so far, no fault yet -/
def PI (bt : Nat → Nat) (L : Nat) (T : Tn) (nms : Nat → List Nat) (k p n v : Nat) (wd : List Nat) (c m : Mem) : Prop := BT bt L c m ∧ TK L k p n v wd c m ∧ PT T nms ∧ PC T nms c ∧ PM T nms m ∧ m.1 0 2 = 0
section
variable {bt : Nat → Nat} {L : Nat} {T : Tn} {nms : Nat → List Nat} {k p n v : Nat} {wd : List Nat} {c m : Mem}
theorem PI.adv (h : PI bt L T nms k p n v wd c m) (hk : ¬ k = 0) : ∃ k' p' n' v' wd' c' m', fX10_advance c = some c' ∧ fX12_token m = some m' ∧ PI bt L T nms k' p' n' v' wd' c' m' ∧ lxC c c' ∧ lxM m m' := by
  obtain ⟨hB, hT, hP, hC, hM, h0⟩ := h
  obtain ⟨k', p', n', v', wd', c', m', a1, a2, -, a3, a4, a5, a6⟩ := _root_.Jvm.Pilot.CHingeTownLaw_law_r9371_c971df.adv hB hT.2.2.1 (hT.nxC hk) (hT.nxM hk)
  exact ⟨k', p', n', v', wd', c', m', a1, a2, ⟨a3, a4, hP, hC.lx hP.2.1 a5, hM.lx a6, by rw [a6.2.2.1 2 (by omega)]; exact h0⟩, a5, a6⟩
theorem PI.p16 (h : PI bt L T nms k p n v wd c m) : p ≤ 1600 := by have := h.1.1; have := h.2.1.2.1; omega
/-- both refuse alike -/
theorem PI.no (h : PI bt L T nms k p n v wd c m) {x : Nat} (hx : 1 ≤ x ∧ x ≤ 5) : ∃ c' m', fX7_refuse c (nI x) = some (0, c') ∧ fX12_wrong m (nI x) = some m' ∧ bad c' m' ∧ MF (if k = 0 then 1 else x) p m' ∧ GC (tP T) c c' ∧ GM m m' ∧ (∀ s, s ≠ 2 → s ≠ 3 → m'.1 0 s = m.1 0 s) := by
  obtain ⟨c', r1, r2, r3, r4, r5⟩ := refuse_ok h.2.1 x
  obtain ⟨m', b1, b2, b3, b4, b5⟩ := wrong_ok h.2.1 h.2.2.2.2.2 x
  have hM : MF (if k = 0 then 1 else x) p m' := ⟨⟨by split <;> omega, by split <;> omega, h.p16⟩, b4, b5⟩
  exact ⟨c', m', r1, b1, ⟨_, p, hM.1.1, hM.1.2.1, hM.1.2.2, r4, r5, b4, b5⟩, hM, GC.k4 r2, GM.k0 b2 b3, b3⟩
/-- the end of a line, with its sign -/
theorem PI.fin (h : PI bt L T nms k p n v wd c m) (F : Nat) : (∃ c' m', fX7_pass c (59 : Int32) = some (0, c') ∧ gX12_readLine (F + 1) 2 m = some m' ∧ bad c' m' ∧ GC (tP T) c c' ∧ GM m m') ∨ (∃ k' p' n' v' wd' c' m', fX7_pass c (59 : Int32) = some (1, c') ∧ gX12_readLine (F + 1) 2 m = some m' ∧ PI bt L T nms k' p' n' v' wd' c' m' ∧ GC (tP T) c c' ∧ GM m m') := by
  have h59 := h.2.1.kd (j := 59) (x := 59) rfl (by omega)
  have hs59 := h.2.1.sg (s := 59) (x := 59) rfl (by omega) (by decide)
  unfold fX7_pass
  rw [gX12_readLine, if_pos h.2.2.2.2.2]
  by_cases e : k = 59
  · obtain ⟨k', p', n', v', wd', c', m', a1, a2, a3, a4, a5⟩ := h.adv (by omega)
    refine Or.inr ⟨k', p', n', v', wd', c', m', ?_, ?_, a3, a4.gc, a5.gm⟩
    · rw [if_pos (h59.mpr e), a1, cV_some]
    · rw [if_pos (hs59.mpr e), if_pos h.2.2.2.2.2, a2, cV_some]
  · obtain ⟨c', m', a1, a2, a3, a4, a5, a6, -⟩ := h.no (x := 2) (by omega)
    refine Or.inl ⟨c', m', ?_, ?_, a3, a5, a6⟩
    · rw [if_neg (fun z => e (h59.mp z)), show fX7_refuse c (2 : Int32) = _ from a1, cI_some, tz_0]
    · rw [if_neg (fun z => e (hs59.mp z)), show fX12_wrong m (2 : Int32) = _ from a2, cV_some, if_neg a4.pos.1]
theorem MF.fin {f p : Nat} {m : Mem} (h : MF f p m) (F : Nat) : gX12_readLine (F + 1) 2 m = some m := by
  rw [gX12_readLine, if_neg h.pos.1, if_neg h.pos.1]
theorem MF.want {f p : Nat} {m : Mem} (h : MF f p m) (x : Int64) : fX12_want m x = some m := by unfold fX12_want; rw [if_neg h.pos.2]
theorem MF.number {f p : Nat} {m : Mem} (h : MF f p m) (x y : Int32) : fX12_toldNumber m x y = some (0, m) := by unfold fX12_toldNumber; rw [if_neg h.pos.2]
theorem MF.told {f p : Nat} {m : Mem} (h : MF f p m) (x : Int64) (y z : Int32) : fX12_told m x y z = some (0, m) := by unfold fX12_told; rw [h.want, cV_some, h.number, cI_some]
theorem MF.old {f p : Nat} {m : Mem} (h : MF f p m) : fX12_oldPerson m = some (0, m) := by unfold fX12_oldPerson; rw [if_neg h.pos.2]
/-- a word that must stand here -/
theorem PI.want (h : PI bt L T nms k p n v wd c m) {j : Nat} (hj : j < 19) {y : Int32} (hy : y = nI (128 + j)) {x : Int64} (hx : fX12_isWord m x = some (if k = 128 + j then 1 else 0)) : (∃ c' m' f q, fX7_pass c y = some (0, c') ∧ fX12_want m x = some m' ∧ bad c' m' ∧ MF f q m' ∧ GC (tP T) c c' ∧ GM m m' ∧ (∀ s, s ≠ 2 → s ≠ 3 → m'.1 0 s = m.1 0 s)) ∨ (∃ k' p' n' v' wd' c' m', fX7_pass c y = some (1, c') ∧ fX12_want m x = some m' ∧ PI bt L T nms k' p' n' v' wd' c' m' ∧ lxC c c' ∧ lxM m m') := by
  have hk := h.2.1.kd (j := 128 + j) hy (by omega)
  unfold fX7_pass fX12_want
  rw [if_pos (show m.1 0 2 ≤ 0 by rw [h.2.2.2.2.2]; decide), hx, cP_some]
  by_cases e : k = 128 + j
  · obtain ⟨k', p', n', v', wd', c', m', a1, a2, a3, a4, a5⟩ := h.adv (by omega)
    exact Or.inr ⟨k', p', n', v', wd', c', m', by rw [if_pos (hk.mpr e), a1, cV_some], by rw [if_pos e, if_neg (show ¬ (1 : Int32) = 0 by decide), a2, cV_some], a3, a4, a5⟩
  · obtain ⟨c', m', a1, a2, a3, a4, a5, a6, a7⟩ := h.no (x := 2) (by omega)
    exact Or.inl ⟨c', m', _, _, by rw [if_neg (fun z => e (hk.mp z)), show fX7_refuse c (2 : Int32) = _ from a1, cI_some, tz_0], by rw [if_neg e, if_pos rfl, show fX12_wrong m (2 : Int32) = _ from a2, cV_some], a3, a4, a5, a6, a7⟩
/-- a number that must stand here, from lo to up -/
theorem PI.number (h : PI bt L T nms k p n v wd c m) {lo up : Nat} (hu : up < 10000) (hl : lo ≤ up) : (∃ c' m' f q z, fX7_isNumberHere c (nI lo) (nI up) = some (0, c') ∧ fX12_toldNumber m (nI lo) (nI up) = some (z, m') ∧ bad c' m' ∧ MF f q m' ∧ GC (tP T) c c' ∧ GM m m' ∧ (∀ s, s ≠ 2 → s ≠ 3 → m'.1 0 s = m.1 0 s)) ∨ (k = 3 ∧ lo ≤ v ∧ v ≤ up ∧ c.1 1 6 = nI v ∧ fX7_isNumberHere c (nI lo) (nI up) = some (1, c) ∧ ∀ m', fX12_token m = some m' → fX12_toldNumber m (nI lo) (nI up) = some (nI v, m')) := by
  have h0 := h.2.2.2.2.2
  have hk := h.2.1.kd (j := 3) (x := 3) rfl (by omega)
  have hs := h.2.1.s2
  unfold fX7_isNumberHere fX12_toldNumber
  rw [if_pos (show m.1 0 2 ≤ 0 by rw [h0]; decide)]
  by_cases e : k = 3
  · obtain ⟨e1, e2, e3⟩ := h.2.1.num e
    rw [if_pos (hk.mpr e), if_pos (hs.mpr e), e2, e3]
    obtain ⟨c', m', a1, a2, a3, a4, a5, a6, a7⟩ := h.no (x := 4) (by omega)
    by_cases y1 : v < lo
    · refine Or.inl ⟨c', m', _, _, _, by rw [if_pos (nI_lt y1 (by omega)), show fX7_refuse c (4 : Int32) = _ from a1, cI_some, if_pos rfl], by rw [if_pos (nI_lt y1 (by omega)), show fX12_wrong m (4 : Int32) = _ from a2, cV_some, nm_eq, if_neg a4.pos.1], a3, a4, a5, a6, a7⟩
    · rw [if_neg (show ¬ nI v < nI lo from nI_nlt (by omega) (by omega)), if_neg (show ¬ nI v < nI lo from nI_nlt (by omega) (by omega))]
      by_cases y2 : up < v
      · refine Or.inl ⟨c', m', _, _, _, by rw [if_pos (nI_lt y2 (by omega)), show fX7_refuse c (4 : Int32) = _ from a1, cI_some, if_pos rfl], by rw [if_neg (nI_ge y2 (by omega)), show fX12_wrong m (4 : Int32) = _ from a2, cV_some, nm_eq, if_neg a4.pos.1], a3, a4, a5, a6, a7⟩
      · refine Or.inr ⟨e, by omega, by omega, rfl, by rw [if_neg (nI_nlt (by omega) (by omega))], fun m' hm' => ?_⟩
        rw [if_pos (nI_le (by omega) (by omega)), nm_eq, if_pos h0, hm', cV_some]
  · obtain ⟨c', m', a1, a2, a3, a4, a5, a6, a7⟩ := h.no (x := 2) (by omega)
    refine Or.inl ⟨c', m', _, _, _, by rw [if_neg (fun z => e (hk.mp z)), show fX7_refuse c (2 : Int32) = _ from a1, cI_some, tz_0], by rw [if_neg (fun z => e (hs.mp z)), show fX12_wrong m (2 : Int32) = _ from a2, cV_some, nm_eq, if_neg a4.pos.1], a3, a4, a5, a6, a7⟩
end
