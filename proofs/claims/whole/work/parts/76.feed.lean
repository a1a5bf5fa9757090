/-! ===== lit, feed, loudest, shop, odds ===== -/
theorem vp_b {x : Int32} (h : x = 0 ∨ x = 1) : vp_nar .boolean x = x := by rcases h with rfl | rfl <;> rfl
theorem o_lit : Ob_lit Rl := by
  intro mC mM x y z hR hz
  obtain ⟨T, hX⟩ : ∃ T, RX T mC mM := id hR
  obtain ⟨h1, h2, h3, h4, h5, h6, h7, h8, h9, h10, h11, h12, h13, h14⟩ := id hX
  have hPP := h2.pl
  obtain ⟨ct, tm, g1, g2, g3, g4, g5, g6, g7⟩ := id h9
  unfold fX11_lit fX12_lit fX12_isLitPlace
  rcases house_c x with ⟨e1, e2⟩ | ⟨hs, h10', rfl, e1, e2⟩
  · rw [e1, e2, cP_some, cP_some]
    exact ⟨_, _, _, by rw [if_pos rfl], by rw [if_pos rfl, cP_some, if_pos rfl], hR⟩
  rw [e1, e2, cP_some, cP_some, if_neg i10, if_neg i10]
  rcases hour_c y with ⟨e1, e2⟩ | ⟨hh, h24, rfl, e1, e2⟩
  · rw [e1, e2, cP_some, cP_some]
    exact ⟨_, _, _, by rw [if_pos rfl], by rw [if_pos rfl, cP_some, if_pos rfl], hR⟩
  rw [e1, e2, cP_some, cP_some, if_neg i10, if_neg i10, cP_some, if_neg i10]
  unfold fX5_tell
  rw [g3, g4]
  by_cases c : ct = 30
  · subst c
    rw [if_neg (show ¬ nI 30 < (30 : Int32) by decide), if_pos (show nI 30 = (30 : Int32) from rfl), cI_some]
    exact ⟨_, _, _, rfl, rfl, hR⟩
  have clt : ct < 30 := by omega
  have r65 : ∀ (r k : Nat) (v : Int32) (m : Mem), r ≠ 65 → (sI m r k v).1 65 = m.1 65 := fun r k v m hr => sI_oth (fun e => hr e.symm)
  have r0 : ∀ (r k : Nat) (v : Int32) (m : Mem), r ≠ 0 → (sI m r k v).1 0 = m.1 0 := fun r k v m hr => sI_oth (fun e => hr e.symm)
  rw [if_pos (show nI ct < (30 : Int32) from nI_lt (b := 30) clt (by omega)), if_neg (show ¬ nI ct = (30 : Int32) from fun e => c ((nI_eq (b := 30) (by omega) (by omega)).mp e)), vp_b hz]
  rw [wr_ok clt (by omega), r65 66 _ _ _ (by omega), g3, wr_ok clt (by omega), r65 67 _ _ _ (by omega), r65 66 _ _ _ (by omega), g3, wr_ok clt (by omega), r65 68 _ _ _ (by omega), r65 67 _ _ _ (by omega), r65 66 _ _ _ (by omega), g3, g5, wr_ok clt (by omega), r65 69 _ _ _ (by omega), r65 68 _ _ _ (by omega), r65 67 _ _ _ (by omega), r65 66 _ _ _ (by omega), g3, wr_ok clt (by omega), r65 70 _ _ _ (by omega), r65 69 _ _ _ (by omega), r65 68 _ _ _ (by omega), r65 67 _ _ _ (by omega), r65 66 _ _ _ (by omega), g3, pt_eq, nI_1]
  rw [wr_ok clt (by omega), r0 39 _ _ _ (by omega), g4, wr_ok clt (by omega), r0 40 _ _ _ (by omega), r0 39 _ _ _ (by omega), g4, wr_ok clt (by omega), r0 43 _ _ _ (by omega), r0 40 _ _ _ (by omega), r0 39 _ _ _ (by omega), g4, g6, wr_ok clt (by omega), r0 41 _ _ _ (by omega), r0 43 _ _ _ (by omega), r0 40 _ _ _ (by omega), r0 39 _ _ _ (by omega), g4, wr_ok clt (by omega), r0 42 _ _ _ (by omega), r0 41 _ _ _ (by omega), r0 43 _ _ _ (by omega), r0 40 _ _ _ (by omega), r0 39 _ _ _ (by omega), g4, pt_eq, nI_1]
  generalize hc1 : sI (sI (sI (sI (sI (sI mC 66 ct (nI hs)) 67 ct (nI hh)) 68 ct z) 69 ct (nI tm)) 70 ct (-1)) 65 0 (nI (ct + 1)) = c1
  generalize hm1 : sI (sI (sI (sI (sI (sI mM 39 ct (nI hs)) 40 ct (nI hh)) 43 ct z) 41 ct (nI tm)) 42 ct (-1)) 0 69 (nI (ct + 1)) = m1
  have c650 : c1.1 65 0 = nI (ct + 1) := by rw [← hc1, sI_row, upd_at]
  have m069 : m1.1 0 69 = nI (ct + 1) := by rw [← hm1, sI_row, upd_at]
  rw [c650, m069, nI_pred, cI_some]
  refine ⟨_, _, _, rfl, rfl, ?_⟩
  have cr : ∀ r, (r < 65 ∨ 70 < r) → c1.1 r = mC.1 r := fun r hr => by rw [← hc1, sI_oth (by omega), sI_oth (by omega), sI_oth (by omega), sI_oth (by omega), sI_oth (by omega), sI_oth (by omega)]
  have c651 : c1.1 65 1 = nI tm := by rw [← hc1, sI_row, upd_ne (by omega), r65 70 _ _ _ (by omega), r65 69 _ _ _ (by omega), r65 68 _ _ _ (by omega), r65 67 _ _ _ (by omega), r65 66 _ _ _ (by omega), g5]
  have c66 : c1.1 66 = upd (mC.1 66) ct (nI hs) := by rw [← hc1, sI_oth (by omega), sI_oth (by omega), sI_oth (by omega), sI_oth (by omega), sI_oth (by omega), sI_row]
  have c67 : c1.1 67 = upd (mC.1 67) ct (nI hh) := by rw [← hc1, sI_oth (by omega), sI_oth (by omega), sI_oth (by omega), sI_oth (by omega), sI_row, sI_oth (by omega)]
  have c68 : c1.1 68 = upd (mC.1 68) ct z := by rw [← hc1, sI_oth (by omega), sI_oth (by omega), sI_oth (by omega), sI_row, sI_oth (by omega), sI_oth (by omega)]
  have c69 : c1.1 69 = upd (mC.1 69) ct (nI tm) := by rw [← hc1, sI_oth (by omega), sI_oth (by omega), sI_row, sI_oth (by omega), sI_oth (by omega), sI_oth (by omega)]
  have c70 : c1.1 70 = upd (mC.1 70) ct (-1) := by rw [← hc1, sI_oth (by omega), sI_row, sI_oth (by omega), sI_oth (by omega), sI_oth (by omega), sI_oth (by omega)]
  have c2 : c1.2 = mC.2 := by rw [← hc1]; rfl
  have mr : ∀ r, r ≠ 0 → (r < 39 ∨ 43 < r) → m1.1 r = mM.1 r := fun r x1 hr => by rw [← hm1, sI_oth (by omega), sI_oth (by omega), sI_oth (by omega), sI_oth (by omega), sI_oth (by omega), sI_oth (by omega)]
  have m0 : ∀ k, k ≠ 69 → m1.1 0 k = mM.1 0 k := fun k hk => by rw [← hm1, sI_row, upd_ne hk, r0 42 _ _ _ (by omega), r0 41 _ _ _ (by omega), r0 43 _ _ _ (by omega), r0 40 _ _ _ (by omega), r0 39 _ _ _ (by omega)]
  have m39 : m1.1 39 = upd (mM.1 39) ct (nI hs) := by rw [← hm1, sI_oth (by omega), sI_oth (by omega), sI_oth (by omega), sI_oth (by omega), sI_oth (by omega), sI_row]
  have m40 : m1.1 40 = upd (mM.1 40) ct (nI hh) := by rw [← hm1, sI_oth (by omega), sI_oth (by omega), sI_oth (by omega), sI_oth (by omega), sI_row, sI_oth (by omega)]
  have m43 : m1.1 43 = upd (mM.1 43) ct z := by rw [← hm1, sI_oth (by omega), sI_oth (by omega), sI_oth (by omega), sI_row, sI_oth (by omega), sI_oth (by omega)]
  have m41 : m1.1 41 = upd (mM.1 41) ct (nI tm) := by rw [← hm1, sI_oth (by omega), sI_oth (by omega), sI_row, sI_oth (by omega), sI_oth (by omega), sI_oth (by omega)]
  have m42 : m1.1 42 = upd (mM.1 42) ct (-1) := by rw [← hm1, sI_oth (by omega), sI_row, sI_oth (by omega), sI_oth (by omega), sI_oth (by omega), sI_oth (by omega)]
  have hRL : RL_ c1 m1 := by
    refine ⟨ct + 1, tm, by omega, g2, c650, m069, c651, by rw [m0 70 (by omega)]; exact g6, fun i hi => ?_⟩
    rw [c66, c67, c68, c69, c70, m39, m40, m41, m42, m43]
    by_cases e : i = ct
    · subst e
      simp only [upd_at]
      exact ⟨⟨hs, h10', rfl, rfl⟩, ⟨hh, h24, rfl, rfl⟩, hz, trivial, ⟨tm, g2, rfl, rfl⟩, trivial, Or.inl trivial⟩
    · simp only [upd_ne e]
      exact g7 i (by omega)
  exact ⟨T, h1, h2.keep (by rw [c2]) (fun r hr => cr r (by omega)), h3.keep (fun k hk => m0 k (by omega)) (fun r hr => mr r (by omega) (by omega)), FC.keep h2 h4 (fun w hw => ⟨cr _ (by rcases hPP with p | p <;> rw [p] <;> omega), cr _ (by rcases hPP with p | p <;> rw [p] <;> omega)⟩), h5.keep (fun r hr => mr r (by omega) (by omega)), h6.keep (fun r hr => cr r (by omega)), h7.keep (fun r hr => cr r (by omega)) (mr 33 (by omega) (by omega)), h8.keep ⟨cr 56 (by omega), cr 57 (by omega)⟩ ⟨m0 60 (by omega), m0 61 (by omega)⟩ ⟨mr 33 (by omega) (by omega), mr 37 (by omega) (by omega)⟩, hRL, h10.keep ⟨by rw [cr 0 (by omega)], cr 73 (by omega)⟩ ⟨m0 63 (by omega), mr 38 (by omega) (by omega)⟩, h11.keep ⟨by rw [cr 0 (by omega)], cr 72 (by omega)⟩ ⟨mr 46 (by omega) (by omega), mr 47 (by omega) (by omega)⟩, h12.keep ⟨by rw [cr 1 (by omega)], cr 2 (by omega)⟩ ⟨m0 1 (by omega), mr 1 (by omega) (by omega)⟩, h13.keep ⟨by rw [cr 4 (by omega)], by rw [cr 4 (by omega)]⟩ ⟨m0 2 (by omega), m0 3 (by omega)⟩, h14.keep (by rw [c2]) (by rw [cr 63 (by omega)]) (by rw [cr 64 (by omega)])⟩
/-- bytes -/
def RTn (tp : Nat) (mC mM : Mem) : Prop := ∃ bt : Nat → Nat, mC.1 1 1 = nI tp ∧ mM.1 0 1 = nI tp ∧ ∀ i, i < tp → bt i < 256 ∧ mM.1 1 i = nI (bt i) ∧ mC.1 2 i = (nI (bt i)).toInt8.toInt32
def fdC (c c' : Mem) : Prop := c'.2 = c.2 ∧ (∀ r, r ≠ 1 → r ≠ 2 → c'.1 r = c.1 r) ∧ ∀ k, k ≠ 1 → c'.1 1 k = c.1 1 k
def fdM (m m' : Mem) : Prop := m'.2 = m.2 ∧ (∀ r, r ≠ 0 → r ≠ 1 → m'.1 r = m.1 r) ∧ ∀ k, k ≠ 1 → m'.1 0 k = m.1 0 k
theorem fdC.trans {a b c : Mem} (h : fdC a b) (g : fdC b c) : fdC a c := ⟨g.1.trans h.1, fun r x y => (g.2.1 r x y).trans (h.2.1 r x y), fun k x => (g.2.2 k x).trans (h.2.2 k x)⟩
theorem fdM.trans {a b c : Mem} (h : fdM a b) (g : fdM b c) : fdM a c := ⟨g.1.trans h.1, fun r x y => (g.2.1 r x y).trans (h.2.1 r x y), fun k x => (g.2.2 k x).trans (h.2.2 k x)⟩
theorem byte1 {c m : Mem} {tp : Nat} (h : RTn tp c m) (ht : tp < 1600) (x s : Int32) (hs : ¬ s < 0) (f g : Nat) : ∃ c' m', gX10_add (f + 1) x s c = gX10_add f x (s + (-8)) c' ∧ gX12_four (g + 1) x s m = gX12_four g x (s + (-8)) m' ∧ RTn (tp + 1) c' m' ∧ fdC c c' ∧ fdM m m' := by
  obtain ⟨bt, a1, a2, a3⟩ := h
  obtain ⟨j, hj, hj2⟩ := pk_andE (x >>> (s &&& 31)) (m := 255) 8 (by decide)
  have hb : (x >>> (s &&& 31)).toInt8.toInt32 = (nI j).toInt8.toInt32 := by rw [← hj2, fa_byte_low]
  have e1 : gX10_add (f + 1) x s c = gX10_add f x (s + (-8)) (sI (sI c 2 tp ((nI j).toInt8.toInt32)) 1 1 (nI (tp + 1))) := by
    rw [gX10_add, if_neg hs, a1, if_neg (show ¬ (1600 : Int32) ≤ nI tp from nI_ge (b := 1600) ht (by omega)), pk_vb, hb, wr_ok ht (by omega), pt_eq, sI_oth (by omega), a1, nI_1]
  have e2 : gX12_four (g + 1) x s m = gX12_four g x (s + (-8)) (sI (sI m 1 tp (nI j)) 0 1 (nI (tp + 1))) := by
    rw [gX12_four, if_neg hs, a2, hj2, wr_ok ht (by omega), pt_eq, sI_oth (by omega), a2, nI_1]
  refine ⟨_, _, e1, e2, ⟨fun i => if i = tp then j else bt i, by rw [sI_row, upd_at], by rw [sI_row, upd_at], fun i hi => ?_⟩, ⟨rfl, fun r x1 x2 => by rw [sI_oth x1, sI_oth x2], fun k hk => by rw [sI_row, upd_ne hk, sI_oth (by omega)]⟩, ⟨rfl, fun r x1 x2 => by rw [sI_oth x1, sI_oth x2], fun k hk => by rw [sI_row, upd_ne hk, sI_oth (by omega)]⟩⟩
  rw [sI_oth (show 1 ≠ 0 by omega), sI_oth (show 2 ≠ 1 by omega), sI_row, sI_row]
  by_cases e : i = tp
  · subst e
    show (if i = i then j else bt i) < 256 ∧ upd (m.1 1) i (nI j) i = nI (if i = i then j else bt i) ∧ upd (c.1 2) i ((nI j).toInt8.toInt32) i = (nI (if i = i then j else bt i)).toInt8.toInt32
    rw [if_pos rfl, upd_at, upd_at]
    exact ⟨hj, rfl, rfl⟩
  · simp only [if_neg e, upd_ne e]
    exact a3 i (by omega)
theorem byte4 {c m : Mem} {tp : Nat} (h : RTn tp c m) (ht : tp + 4 ≤ 1600) (x : Int32) : ∃ c' m', fX10_add c x = some c' ∧ fX12_four m x = some m' ∧ RTn (tp + 4) c' m' ∧ fdC c c' ∧ fdM m m' := by
  obtain ⟨c1, m1, a1, a2, a3, a4, a5⟩ := byte1 h (by omega) x 24 (by decide) 4999 4999
  obtain ⟨c2, m2, b1, b2, b3, b4, b5⟩ := byte1 a3 (by omega) x (24 + (-8)) (by decide) 4998 4998
  obtain ⟨c3, m3, d1, d2, d3, d4, d5⟩ := byte1 b3 (by omega) x (24 + (-8) + (-8)) (by decide) 4997 4997
  obtain ⟨c4, m4, e1, e2, e3, e4, e5⟩ := byte1 d3 (by omega) x (24 + (-8) + (-8) + (-8)) (by decide) 4996 4996
  refine ⟨c4, m4, ?_, ?_, e3, ((a4.trans b4).trans d4).trans e4, ((a5.trans b5).trans d5).trans e5⟩
  · unfold fX10_add
    rw [a1, b1, d1, e1, gX10_add, if_pos (by decide)]
  · unfold fX12_four
    rw [a2, b2, d2, e2, gX12_four, if_pos (by decide)]
theorem o_feed : Ob_feed Rl := by
  intro mC mM x1 x2 x3 x4 x5 hR
  obtain ⟨T, hX⟩ : ∃ T, RX T mC mM := id hR
  obtain ⟨h1, h2, h3, h4, h5, h6, h7, h8, h9, h10, h11, h12, h13, h14⟩ := id hX
  have hP := h2.pl
  have hnp := h1.1
  have hPP := hP
  obtain ⟨tp, bt, g1, g2, g3, g4⟩ := id h12
  unfold fX11_feed fX12_feed
  rw [g2, g3, show nI tp + (20 : Int32) = nI (tp + 20) from nI_add tp 20]
  by_cases c : tp ≤ 1580
  · rw [if_pos (show nI tp ≤ (1580 : Int32) from nI_le (b := 1580) c (by omega)), if_pos (show nI (tp + 20) ≤ (1600 : Int32) from nI_le (b := 1600) (by omega) (by omega))]
    obtain ⟨c1, m1, a1, a2, a3, a4, a5⟩ := byte4 (tp := tp) ⟨bt, g2, g3, g4⟩ (by omega) x1
    obtain ⟨c2, m2, b1, b2, b3, b4, b5⟩ := byte4 a3 (by omega) x2
    obtain ⟨c3, m3, d1, d2, d3, d4, d5⟩ := byte4 b3 (by omega) x3
    obtain ⟨c4, m4, e1, e2, e3, e4, e5⟩ := byte4 d3 (by omega) x4
    obtain ⟨c5, m5, f1, f2, f3, f4, f5⟩ := byte4 e3 (by omega) x5
    rw [a1, cV_some, b1, cV_some, d1, cV_some, e1, cV_some, f1, cV_some, a2, cV_some, b2, cV_some, d2, cV_some, e2, cV_some, f2, cV_some]
    have kC : fdC mC c5 := (((a4.trans b4).trans d4).trans e4).trans f4
    have kM : fdM mM m5 := (((a5.trans b5).trans d5).trans e5).trans f5
    obtain ⟨bt5, y1, y2, y3⟩ := f3
    rw [y1, y2]
    refine ⟨_, _, _, rfl, rfl, ?_⟩
    obtain ⟨c2', cr, c1'⟩ := kC
    obtain ⟨m2', mr, m0⟩ := kM
    exact ⟨T, h1, h2.keep (by rw [c2']) (fun r hr => cr r (by omega) (by omega)), h3.keep (fun k hk => m0 k (by omega)) (fun r hr => mr r (by omega) (by omega)), FC.keep h2 h4 (fun w hw => ⟨cr _ (by rcases hPP with p | p <;> rw [p] <;> omega) (by rcases hPP with p | p <;> rw [p] <;> omega), cr _ (by rcases hPP with p | p <;> rw [p] <;> omega) (by rcases hPP with p | p <;> rw [p] <;> omega)⟩), h5.keep (fun r hr => mr r (by omega) (by omega)), h6.keep (fun r hr => cr r (by omega) (by omega)), h7.keep (fun r hr => cr r (by omega) (by omega)) (mr 33 (by omega) (by omega)), h8.keep ⟨cr 56 (by omega) (by omega), cr 57 (by omega) (by omega)⟩ ⟨m0 60 (by omega), m0 61 (by omega)⟩ ⟨mr 33 (by omega) (by omega), mr 37 (by omega) (by omega)⟩, h9.keep ⟨by rw [cr 65 (by omega) (by omega)], by rw [cr 65 (by omega) (by omega)]⟩ (fun r hr => cr r (by omega) (by omega)) ⟨m0 69 (by omega), m0 70 (by omega)⟩ (fun r hr => mr r (by omega) (by omega)), h10.keep ⟨by rw [cr 0 (by omega) (by omega)], cr 73 (by omega) (by omega)⟩ ⟨m0 63 (by omega), mr 38 (by omega) (by omega)⟩, h11.keep ⟨by rw [cr 0 (by omega) (by omega)], cr 72 (by omega) (by omega)⟩ ⟨mr 46 (by omega) (by omega), mr 47 (by omega) (by omega)⟩, ⟨tp + 4 + 4 + 4 + 4 + 4, bt5, by omega, y1, y2, y3⟩, h13.keep ⟨by rw [cr 4 (by omega) (by omega)], by rw [cr 4 (by omega) (by omega)]⟩ ⟨m0 2 (by omega), m0 3 (by omega)⟩, h14.keep (by rw [c2']) (by rw [cr 63 (by omega) (by omega)]) (by rw [cr 64 (by omega) (by omega)])⟩
  · rw [if_neg (show ¬ nI tp ≤ (1580 : Int32) from nI_ge (a := 1580) (by omega) (by omega)), if_neg (show ¬ nI (tp + 20) ≤ (1600 : Int32) from nI_ge (a := 1600) (by omega) (by omega))]
    exact ⟨_, _, _, rfl, rfl, hR⟩
