/-! ===== acts, undo, redo, images ===== -/
theorem rowAt_same {f g : Nat → Int32} {r i : Nat} (hi : i < 37) : rowAt (fb_put f g (37 * r) 37) r i = g i := by
  unfold rowAt
  rw [fb_put_in (by omega) (by omega), show 37 * r + i - 37 * r = i by omega]
theorem rowAt_ne {f g : Nat → Int32} {r q i : Nat} (hi : i < 37) (h : q ≠ r) : rowAt (fb_put f g (37 * r) 37) q i = rowAt f q i := by
  unfold rowAt
  rw [fb_put_out (by omega)]
theorem rowAt_sh {f : Nat → Int32} {j i : Nat} (hi : i < 37) (hj : j < 39) : rowAt (cpN (fun q => f (37 + q)) f 1443) j i = rowAt f (j + 1) i := by
  unfold rowAt
  rw [cpN_in (by omega), show 37 + (37 * j + i) = 37 * (j + 1) + i by omega]
theorem stEq.of {np : Nat} {a b a' b' : Nat → Int32} (h : stEq np a b) (ha : ∀ i, i < 37 → a' i = a i) (hb : ∀ i, i < 37 → b' i = b i) : stEq np a' b' := fun i hi hc => by rw [ha i hi, hb i hi]; exact h i hi hc
theorem stOK.of {np : Nat} {a a' : Nat → Int32} (hnp : np ≤ 7) (h : stOK np a) (ha : ∀ i, i < 37 → a' i = a i) : stOK np a' := by
  obtain ⟨h1, h2, h3, h4⟩ := h
  refine ⟨fun p hp => by rw [ha p (by omega)]; exact h1 p hp, by rw [ha 34 (by omega)]; exact h2, by rw [ha 35 (by omega)]; exact h3, by rw [ha 36 (by omega)]; exact h4⟩
theorem i_rem41 (x : Nat) (h : x < 2 ^ 30) : nI x - nI x / (41 : Int32) * (41 : Int32) = nI (x % 41) := pk_rem (d := 41) (by omega) (by omega) (by omega)
theorem i_min40 {a : Nat} (h : a ≤ 40) : imin (nI (a + 1)) 40 = nI (min (a + 1) 40) := by
  unfold imin
  by_cases c : a = 40
  · subst c; rfl
  · rw [if_neg (show ¬ (40 : Int32) < nI (a + 1) from nI_nlt (b := a + 1) (a := 40) (by omega) (by omega)), show min (a + 1) 40 = a + 1 by omega]
theorem c_keep {m : Mem} {rw a : Nat} (hr : rw < 41) (ha : a ≤ 40) (h1 : m.1 56 1 = nI rw) (h2 : m.1 56 2 = nI a) : ∃ m', fX0_keep m = some m' ∧ keeps [56, 57] m m' ∧ m'.1 56 1 = nI ((rw + 1) % 41) ∧ m'.1 56 2 = nI (min (a + 1) 40) ∧ m'.1 56 3 = nI 0 ∧ m'.1 57 = fb_put (m.1 57) (cSt m) (37 * ((rw + 1) % 41)) 37 := by
  unfold fX0_keep
  rw [h1, show nI rw + (1 : Int32) = nI (rw + 1) from nI_1 rw, i_rem41 _ (by omega), pt_eq, pt_eq, pt_eq]
  have e2 : (sI m 56 1 (nI ((rw + 1) % 41))).1 56 2 = nI a := by rw [sI_row, upd_ne (by decide), h2]
  rw [e2, nI_1, i_min40 ha]
  generalize hm3 : sI (sI (sI m 56 1 (nI ((rw + 1) % 41))) 56 2 (nI (min (a + 1) 40))) 56 3 0 = m3
  have k3 : keeps [56, 57] m m3 := by rw [← hm3]; exact ((keeps.rfl'.sI (by decide)).sI (by decide)).sI (by decide)
  have f1 : m3.1 56 1 = nI ((rw + 1) % 41) := by rw [← hm3, sI_row, upd_ne (by decide), sI_row, upd_ne (by decide), sI_row, upd_at]
  have f2 : m3.1 56 2 = nI (min (a + 1) 40) := by rw [← hm3, sI_row, upd_ne (by decide), sI_row, upd_at]
  have f3 : m3.1 56 3 = nI 0 := by rw [← hm3, sI_row, upd_at]; rfl
  have f4 : m3.1 57 = m.1 57 := by rw [← hm3, sI_oth (by decide), sI_oth (by decide), sI_oth (by decide)]
  have f5 : cSt m3 = cSt m := cSt.keep (fun r hr => k3.2 r (by simp only [List.mem_cons, List.not_mem_nil, or_false]; omega))
  rw [f1, show nI ((rw + 1) % 41) * (37 : Int32) = nI (37 * ((rw + 1) % 41)) from by rw [show (37 : Int32) = nI 37 from rfl, pk_mul, Nat.mul_comm], c_save (Or.inl rfl) (show 37 * ((rw + 1) % 41) + 37 ≤ 1517 by have := Nat.mod_lt (rw + 1) (show 41 > 0 by decide); omega), cV_some, f4, f5]
  refine ⟨_, rfl, k3.sW (by decide), ?_, ?_, ?_, sW_row _ _ _⟩
  · rw [sW_oth (by decide)]; exact f1
  · rw [sW_oth (by decide)]; exact f2
  · rw [sW_oth (by decide)]; exact f3
/-- an act: the new states are alike, the old ones are kept -/
theorem RA.act {T : Tn} {c m c' m' : Mem} (hT : TOK T) (h : RA T c m) (hS : stOK (tnp T) (m.1 33)) {newC : Nat → Int32} (hn : stEq (tnp T) newC (m'.1 33))
    (hc : ∀ rw a, c.1 56 1 = nI rw → c.1 56 2 = nI a → rw < 41 → a ≤ 40 → c'.1 56 1 = nI ((rw + 1) % 41) ∧ c'.1 56 2 = nI (min (a + 1) 40) ∧ c'.1 56 3 = nI 0 ∧ c'.1 57 = fb_put (c.1 57) newC (37 * ((rw + 1) % 41)) 37)
    (hm : ∀ a, m.1 0 60 = nI a → a ≤ 40 → m'.1 0 60 = nI (min (a + 1) 40) ∧ m'.1 0 61 = 0 ∧ m'.1 37 = fb_put (if a = 40 then cpN (fun q => m.1 37 (37 + q)) (m.1 37) 1443 else m.1 37) (m.1 33) (37 * (min a 39)) 37) : RA T c' m' := by
  obtain ⟨rw, a, u, g1, g2, g3, g4, g5, g6, g7, g8, g9, g10⟩ := h
  obtain ⟨c1, c2, c3, c4⟩ := hc rw a g3 g4 g1 (by omega)
  obtain ⟨m1, m2, m3⟩ := hm a g6 (by omega)
  have hnp := hT.1
  refine ⟨(rw + 1) % 41, min (a + 1) 40, 0, Nat.mod_lt _ (by decide), by omega, c1, c2, c3, m1, m2, ?_, fun j hj => ?_, fun j hj => absurd hj (by omega)⟩
  · rw [c4]
    exact hn.of (fun i hi => rowAt_same hi) (fun i hi => rfl)
  · rw [c4, m3]
    by_cases ca : a = 40
    · subst ca
      rw [if_pos rfl]
      have hidx : ((rw + 1) % 41 + 41 - (min (40 + 1) 40 - j)) % 41 ≠ (rw + 1) % 41 := by omega
      by_cases cj : j = 39
      · subst cj
        have e : ((rw + 1) % 41 + 41 - (min (40 + 1) 40 - 39)) % 41 = rw := by omega
        rw [e] at hidx ⊢
        exact ⟨g8.of (fun i hi => rowAt_ne hi hidx) (fun i hi => rowAt_same hi), hS.of hnp (fun i hi => rowAt_same hi)⟩
      · obtain ⟨q1, q2⟩ := g9 (j + 1) (by omega)
        have e : ((rw + 1) % 41 + 41 - (min (40 + 1) 40 - j)) % 41 = (rw + 41 - (40 - (j + 1))) % 41 := by omega
        rw [e] at hidx ⊢
        exact ⟨q1.of (fun i hi => rowAt_ne hi hidx) (fun i hi => by rw [rowAt_ne hi (by omega), rowAt_sh hi (by omega)]), q2.of hnp (fun i hi => by rw [rowAt_ne hi (by omega), rowAt_sh hi (by omega)])⟩
    · rw [if_neg ca, show min a 39 = a by omega]
      have hidx : ((rw + 1) % 41 + 41 - (min (a + 1) 40 - j)) % 41 ≠ (rw + 1) % 41 := by omega
      by_cases cj : j = a
      · subst cj
        have e : ((rw + 1) % 41 + 41 - (min (j + 1) 40 - j)) % 41 = rw := by omega
        rw [e] at hidx ⊢
        exact ⟨g8.of (fun i hi => rowAt_ne hi hidx) (fun i hi => rowAt_same hi), hS.of hnp (fun i hi => rowAt_same hi)⟩
      · obtain ⟨q1, q2⟩ := g9 j (by omega)
        have e : ((rw + 1) % 41 + 41 - (min (a + 1) 40 - j)) % 41 = (rw + 41 - (a - j)) % 41 := by omega
        rw [e] at hidx ⊢
        exact ⟨q1.of (fun i hi => rowAt_ne hi hidx) (fun i hi => rowAt_ne hi cj), q2.of hnp (fun i hi => rowAt_ne hi cj)⟩
theorem c_hasP {T : Tn} {c : Mem} (h : TC T c) (x : Int32) : fX9_hasPerson c x = some (if x < 0 then 0 else if nI (tnp T) ≤ x then 0 else 1) := by
  unfold fX9_hasPerson
  rw [gPl_T h, h.2.1, h.2.2.2.1]
  by_cases c0 : x < 0
  · rw [if_pos c0, if_pos c0]
  · rw [if_neg c0, if_neg c0]
    split <;> rfl
theorem m_isP_lt {x : Int32} {m : Mem} (c : x < 0) : fX12_isPerson m x = some 0 := by
  unfold fX12_isPerson
  rw [isIn_lt c, cP_some, tz_0]
theorem m_isP_ge {T : Tn} {x : Int32} {m : Mem} (hT : TOK T) (h : TM T m) (c0 : 0 ≤ x) (c : nI (tnp T) ≤ x) : fX12_isPerson m x = some 0 := by
  unfold fX12_isPerson
  have := hT.1
  rw [h.1, isIn_ge (by omega) c0 c, cP_some, tz_0]
theorem m_isP_in {T : Tn} {p : Nat} {m : Mem} (hT : TOK T) (h : TM T m) (c : p < tnp T) : fX12_isPerson m (nI p) = some 1 := by
  unfold fX12_isPerson
  have := hT.1
  rw [h.1, isIn_in c (by omega), cP_some, tz_1]
theorem c_hasP_in {T : Tn} {p : Nat} {c : Mem} (hT : TOK T) (h : TC T c) (hp : p < tnp T) : fX9_hasPerson c (nI p) = some 1 := by
  have := hT.1
  rw [c_hasP h, if_neg (nI_lt0 (by omega)), if_neg (nI_ge hp (by omega))]
theorem c_hasP_lt {T : Tn} {x : Int32} {c : Mem} (h : TC T c) (hx : x < 0) : fX9_hasPerson c x = some 0 := by rw [c_hasP h, if_pos hx]
theorem c_hasP_ge {T : Tn} {x : Int32} {c : Mem} (h : TC T c) (c0 : 0 ≤ x) (hx : nI (tnp T) ≤ x) : fX9_hasPerson c x = some 0 := by rw [c_hasP h, if_neg (Int32.not_lt.mpr c0), if_pos hx]
theorem cSt_side {m : Mem} {p : Nat} {v : Int32} (hp : p < 7) : ∀ i, i < 37 → cSt (sI m 28 p v) i = upd (cSt m) p v i := by
  intro i hi
  by_cases e : i = p
  · subst e
    rw [upd_at]
    unfold cSt
    rw [if_pos hp, sI_row, upd_at]
  · rw [upd_ne e]
    unfold cSt
    rw [sI_row, sI_oth (by decide), sI_oth (by decide), sI_oth (by decide), sI_oth (by decide)]
    by_cases c : i < 7
    · rw [if_pos c, if_pos c, upd_ne e]
    · rw [if_neg c, if_neg c]
set_option maxHeartbeats 1000000 in
theorem o_go : Ob_go Rl := by
  intro mC mM x y hR
  obtain ⟨T, h1, h2, h3, h4, h5, h6, h7, h8, h9, h10, h11, h12, h13, h14⟩ := id hR
  have hPP := h2.pl
  have hnp := h1.1
  unfold fX11_go fX12_go
  rcases ix3 x (tnp T) (by omega) with c | ⟨c0, c⟩ | ⟨p, hp, rfl⟩
  · rw [c_hasP_lt h2 c, m_isP_lt c, cP_some, cP_some]
    exact ⟨_, _, _, by rw [if_pos rfl], by rw [if_pos rfl], hR⟩
  · rw [c_hasP_ge h2 c0 c, m_isP_ge h1 h3 c0 c, cP_some, cP_some]
    exact ⟨_, _, _, by rw [if_pos rfl], by rw [if_pos rfl], hR⟩
  rw [c_hasP_in h1 h2 hp, m_isP_in h1 h3 hp, cP_some, cP_some, if_neg (by decide : ¬ (1 : Int32) = 0), if_neg (by decide : ¬ (1 : Int32) = 0)]
  rcases ix3 y 3 (by omega) with c | ⟨c0, c⟩ | ⟨s, hs, rfl⟩
  · rw [if_pos c, isIn_lt c, cP_some]
    exact ⟨_, _, _, rfl, by rw [if_pos rfl], hR⟩
  · rw [if_neg (Int32.not_lt.mpr c0), if_neg (show ¬ y < (3 : Int32) from Int32.not_lt.mpr c), show fX12_isIn y 0 2 = some 0 from isIn_ge (n := 3) (by omega) c0 c, cP_some]
    exact ⟨_, _, _, rfl, by rw [if_pos rfl], hR⟩
  rw [if_neg (nI_lt0 (by omega)), if_pos (show nI s < (3 : Int32) from nI_lt (b := 3) hs (by omega)), show fX12_isIn (nI s) 0 2 = some 1 from isIn_in (n := 3) hs (by omega), cP_some, if_neg (by decide : ¬ (1 : Int32) = 0), rd_ok (by omega) (by omega), rd_ok (by omega) (by omega), h7.side h1 hp]
  by_cases e : mM.1 33 p = nI s
  · rw [if_pos e]
    exact ⟨_, _, _, rfl, by rw [if_pos e], hR⟩
  rw [if_neg e, if_neg e, wr_ok (by omega) (by omega)]
  obtain ⟨rw_, a, u, a1, a2, a3, a4, a5, a6, a7, a8⟩ := id h8
  obtain ⟨c1, k1, k2, k3, k4, k5, k6⟩ := c_keep (m := sI mC 28 p (nI s)) (a := a) a1 (by omega) (by rw [sI_oth (by decide)]; exact a3) (by rw [sI_oth (by decide)]; exact a4)
  obtain ⟨m1, q1, q2, q3, q4, q5, q6, q7⟩ := m_act (m := mM) (a := a) (by omega) a6
  rw [k1, q1, cV_some, cV_some, rd_ok (by omega) (by omega), wr_ok (by omega) (by omega), q3 33 (by omega) (by omega)]
  refine ⟨_, _, _, rfl, rfl, ?_⟩
  have cr : ∀ r, r ≠ 28 → r ≠ 56 → r ≠ 57 → c1.1 r = mC.1 r := fun r x1 x2 x3 => by rw [k2.2 r (by simp only [List.mem_cons, List.not_mem_nil, or_false]; omega), sI_oth x1]
  have cr28 : c1.1 28 = upd (mC.1 28) p (nI s) := by rw [k2.2 28 (by decide), sI_row]
  have c2 : c1.2 = mC.2 := k2.1
  have mr : ∀ r, r ≠ 0 → r ≠ 37 → r ≠ 33 → (sI m1 33 p (nI s)).1 r = mM.1 r := fun r x1 x2 x3 => by rw [sI_oth x3, q3 r x1 x2]
  have m0 : ∀ k, k ≠ 60 → k ≠ 61 → (sI m1 33 p (nI s)).1 0 k = mM.1 0 k := fun k x1 x2 => by rw [sI_oth (by decide), q4 k x1 x2]
  have m33 : (sI m1 33 p (nI s)).1 33 = upd (mM.1 33) p (nI s) := by rw [sI_row, q3 33 (by omega) (by omega)]
  have hcs : ∀ i, i < 37 → cSt c1 i = upd (cSt mC) p (nI s) i := fun i hi => by rw [cSt.keep (m := sI mC 28 p (nI s)) (fun r hr => k2.2 r (by simp only [List.mem_cons, List.not_mem_nil, or_false]; omega))]; exact cSt_side (by omega) i hi
  have hq : stEq (tnp T) (upd (cSt mC) p (nI s)) (upd (mM.1 33) p (nI s)) := fun i hi hc => by
    by_cases ei : i = p
    · subst ei; rw [upd_at, upd_at]
    · rw [upd_ne ei, upd_ne ei]; exact h7.1 i hi hc
  have hok : stOK (tnp T) (upd (mM.1 33) p (nI s)) := by
    obtain ⟨z1, z2, z3, z4⟩ := h7.2
    refine ⟨fun i hi => ?_, by rw [upd_ne (by omega)]; exact z2, by rw [upd_ne (by omega)]; exact z3, by rw [upd_ne (by omega)]; exact z4⟩
    by_cases ei : i = p
    · subst ei; rw [upd_at]; exact ⟨s, hs, rfl⟩
    · rw [upd_ne ei]; exact z1 i hi
  have hRS : RSt T c1 (sI m1 33 p (nI s)) := ⟨by rw [m33]; exact hq.of hcs (fun _ _ => rfl), by rw [m33]; exact hok⟩
  have hRA : RA T c1 (sI m1 33 p (nI s)) := by
    refine RA.act (newC := cSt (sI mC 28 p (nI s))) h1 h8 h7.2 (by rw [m33]; exact hq.of (cSt_side (by omega)) (fun _ _ => rfl)) (fun rw' a' e1 e2 e3 e4 => ?_) (fun a' e1 e2 => ?_)
    · have x1 : rw' = rw_ := (nI_eq (by omega) (by omega)).mp (e1.symm.trans a3)
      have x2 : a' = a := (nI_eq (by omega) (by omega)).mp (e2.symm.trans a4)
      subst x1; subst x2
      refine ⟨k3, k4, k5, ?_⟩
      rw [k6, sI_oth (by decide)]
    · have x2 : a' = a := (nI_eq (by omega) (by omega)).mp (e1.symm.trans a6)
      subst x2
      exact ⟨by rw [sI_oth (by decide)]; exact q5, by rw [sI_oth (by decide)]; exact q6, by rw [sI_oth (by decide)]; exact q7⟩
  exact ⟨T, h1, h2.keep (by rw [c2]) (fun r hr => cr r (by omega) (by omega) (by omega)), h3.keep (fun k hk => m0 k (by omega) (by omega)) (fun r hr => mr r (by omega) (by omega) (by omega)), FC.keep h2 h4 (fun w hw => ⟨cr _ (by rcases hPP with p | p <;> rw [p] <;> omega) (by rcases hPP with p | p <;> rw [p] <;> omega) (by rcases hPP with p | p <;> rw [p] <;> omega), cr _ (by rcases hPP with p | p <;> rw [p] <;> omega) (by rcases hPP with p | p <;> rw [p] <;> omega) (by rcases hPP with p | p <;> rw [p] <;> omega)⟩), h5.keep (fun r hr => mr r (by omega) (by omega) (by omega)), h6.keep (fun r hr => cr r (by omega) (by omega) (by omega)), hRS, hRA, h9.keep ⟨by rw [cr 65 (by omega) (by omega) (by omega)], by rw [cr 65 (by omega) (by omega) (by omega)]⟩ (fun r hr => cr r (by omega) (by omega) (by omega)) ⟨m0 69 (by omega) (by omega), m0 70 (by omega) (by omega)⟩ (fun r hr => mr r (by omega) (by omega) (by omega)), h10.keep ⟨by rw [cr 0 (by omega) (by omega) (by omega)], cr 73 (by omega) (by omega) (by omega)⟩ ⟨m0 63 (by omega) (by omega), mr 38 (by omega) (by omega) (by omega)⟩, h11.keep ⟨by rw [cr 0 (by omega) (by omega) (by omega)], cr 72 (by omega) (by omega) (by omega)⟩ ⟨mr 46 (by omega) (by omega) (by omega), mr 47 (by omega) (by omega) (by omega)⟩, h12.keep ⟨by rw [cr 1 (by omega) (by omega) (by omega)], cr 2 (by omega) (by omega) (by omega)⟩ ⟨m0 1 (by omega) (by omega), mr 1 (by omega) (by omega) (by omega)⟩, h13.keep ⟨by rw [cr 4 (by omega) (by omega) (by omega)], by rw [cr 4 (by omega) (by omega) (by omega)]⟩ ⟨m0 2 (by omega) (by omega), m0 3 (by omega) (by omega)⟩, h14.keep (by rw [c2]) (by rw [cr 63 (by omega) (by omega) (by omega)]) (by rw [cr 64 (by omega) (by omega) (by omega)])⟩

