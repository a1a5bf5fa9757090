/-! ===== post, spread, wake ===== -/
def WA (T : Tn) (sd : Nat → Nat) (d h : Nat) : Nat := orB (fun p => awN T d (sd p) h) (tnp T)
theorem WA_lt {T : Tn} (hT : TOK T) (sd : Nat → Nat) (d h : Nat) : WA T sd d h < 128 := Nat.lt_of_lt_of_le (orB_lt _ _) (pow_np hT.1)
theorem mHand_sub {T : Tn} {w : Nat} : ∀ n h, subS h (mHand T w n h)
  | 0, _ => subS.rfl' _
  | n + 1, h => by rw [mHand]; exact (mMid_sub T w h (tnp T)).trans (mHand_sub n _)
section
variable {T : Tn} {d : Nat} {sd : Nat → Nat} {q : Nat} {m : Mem}
theorem c_behind (hT : TOK T) (h : CB T sd q m) {hr dt n : Nat} (h24 : hr < 24) (hd : dt < 365) (hn : n ≤ 240) (h5 : m.1 27 5 = nI hr) (h6 : m.1 27 6 = nI dt) : ∃ m', fX4_whoIsAwakeBehind m (nI n) = some (nI (WA T sd ((dt + (hr + n) / 24) % 365) ((hr + n) % 24)), m') ∧ keeps (SC T) m m' ∧ CB T sd q m' := by
  obtain ⟨m1, a1, a2, a3⟩ := h.day hT (show (dt + (hr + n) / 24) % 365 < 365 from Nat.mod_lt _ (by decide))
  have e1 : nI (hr + n) - nI (hr + n) / (24 : Int32) * (24 : Int32) = nI ((hr + n) % 24) := pk_rem (d := 24) (by omega) (by omega) (by omega)
  have e2 : nI (hr + n) / (24 : Int32) = nI ((hr + n) / 24) := pk_div (d := 24) (by omega) (by omega) (by omega)
  have e3 : nI (dt + (hr + n) / 24) - nI (dt + (hr + n) / 24) / (365 : Int32) * (365 : Int32) = nI ((dt + (hr + n) / 24) % 365) := pk_rem (d := 365) (by omega) (by omega) (by omega)
  refine ⟨m1, ?_, a2, a3.1⟩
  unfold fX4_whoIsAwakeBehind
  rw [h5, h6, nI_add, nm_eq, nm_eq, e1, e2, nI_add, e3, a1, cR_some, gEq_ok, a3.who hT (Nat.mod_lt _ (by decide)), cP_some]
  rfl
def ML (T : Tn) (sd : Nat → Nat) (q h d : Nat) (m : Mem) : Prop := MB T sd q m ∧ MD T d sd q m ∧ m.1 34 35 = nI h ∧ m.1 34 36 = nI d
theorem MB.air (hT : TOK T) {m' : Mem} (h : MB T sd q m) (hk : keeps [34] m m') (h34 : ∀ i, (i < 7 ∨ i = 34) → m'.1 34 i = m.1 34 i) : MB T sd q m' := by
  have h7 := hT.1
  exact ⟨h.1.kp hk (by simp <;> omega), h.2.1.kp hk (by simp), fun p hp => ⟨(h.2.2.1 p hp).1, by rw [h34 p (by omega)]; exact (h.2.2.1 p hp).2⟩, by rw [h34 34 (by omega)]; exact h.2.2.2⟩
theorem ML.go (hT : TOK T) {hh s : Nat} (h : ML T sd q hh d m) (h24 : hh < 24) (hd : d < 365) (hs : s < 2 ^ tnp T) : ∃ m', fX12_goLetters m (nI s) = some (nI (mHand T (WA T sd d hh) (tnp T) s), m') ∧ keeps [10, 13, 34, 35, 36] m m' ∧ (hh + 1 = 24 → ML T sd q 0 ((d + 1) % 365) m') ∧ (¬ hh + 1 = 24 → ML T sd q (hh + 1) d m') := by
  obtain ⟨hB, hD, h35, h36⟩ := h
  have hw35 : ∀ (m : Mem) (v : Int32) (K : Mem → Option (Int32 × Mem)), wr m 34 37 (35 : Int32) v K = K (sI m 34 35 v) := fun m v K => wr_ok (k := 35) (by omega) (by omega)
  have hw36 : ∀ (m : Mem) (v : Int32) (K : Mem → Option (Int32 × Mem)), wr m 34 37 (36 : Int32) v K = K (sI m 34 36 v) := fun m v K => wr_ok (k := 36) (by omega) (by omega)
  unfold fX12_goLetters
  rw [(rd_now _ _).2.1, h35, show fX12_awakeSet m (nI hh) = some (nI (WA T sd d hh)) from hD.who hT h24, cP_some, m_hand hT hD.1 (WA_lt hT sd d hh) hs, cP_some, (rd_now _ _).2.1, h35, nI_1, hw35, (rd_now _ _).2.1, sI_row, upd_at]
  have kp1 : keeps [34] m (sI m 34 35 (nI (hh + 1))) := keeps.rfl'.sI (by simp)
  by_cases c : hh + 1 = 24
  · rw [if_pos (by rw [c]; rfl), hw35, (rd_now _ _).2.2, sI_row, upd_ne (by omega), sI_row, upd_ne (by omega), h36, i_365 d hd, hw36, (rd_now _ _).2.2, sI_row, upd_at]
    generalize hm2 : sI (sI (sI m 34 35 (nI (hh + 1))) 34 35 0) 34 36 (nI ((d + 1) % 365)) = m2
    have kp2 : keeps [34] m m2 := by rw [← hm2]; exact (kp1.sI (by simp)).sI (by simp)
    have hB2 : MB T sd q m2 := hB.air hT kp2 (fun i hi => by rw [← hm2, sI_row, upd_ne (by omega), sI_row, upd_ne (by omega), sI_row, upd_ne (by omega)])
    obtain ⟨m3, z1, z2, z3, z4⟩ := hB2.lay hT ((d + 1) % 365)
    rw [z1, cV_some]
    refine ⟨m3, rfl, (kp2.mono (by simp)).trans (z2.mono (by simp <;> omega)), fun _ => ⟨z3, z4, ?_, ?_⟩, fun z => absurd c z⟩
    · rw [z2.2 34 (by simp), ← hm2, sI_row, upd_ne (by omega), sI_row, upd_at]; rfl
    · rw [z2.2 34 (by simp), ← hm2, sI_row, upd_at]
  · rw [if_neg (show ¬ nI (hh + 1) = (24 : Int32) from fun z => c ((nI_eq (b := 24) (by omega) (by omega)).mp z))]
    refine ⟨_, rfl, kp1.mono (by simp), fun z => absurd z c, fun _ => ⟨hB.air hT kp1 (fun i hi => by rw [sI_row, upd_ne (by omega)]), hD.air2 hT kp1 (fun i hi => by rw [sI_row, upd_ne (by omega)]), by rw [sI_row, upd_at], by rw [sI_row, upd_ne (by omega)]; exact h36⟩⟩
theorem ML.next (hT : TOK T) {hr dt n s : Nat} (h : ML T sd q ((hr + n) % 24) ((dt + (hr + n) / 24) % 365) m) (hs : s < 2 ^ tnp T) : ∃ m', fX12_goLetters m (nI s) = some (nI (mHand T (WA T sd ((dt + (hr + n) / 24) % 365) ((hr + n) % 24)) (tnp T) s), m') ∧ keeps [10, 13, 34, 35, 36] m m' ∧ ML T sd q ((hr + (n + 1)) % 24) ((dt + (hr + (n + 1)) / 24) % 365) m' := by
  obtain ⟨m', a1, a2, a3, a4⟩ := h.go hT (Nat.mod_lt _ (by decide)) (Nat.mod_lt _ (by decide)) hs
  refine ⟨m', a1, a2, ?_⟩
  by_cases c : (hr + n) % 24 + 1 = 24
  · have := a3 c
    rw [show (hr + (n + 1)) % 24 = 0 by omega, show (dt + (hr + (n + 1)) / 24) % 365 = ((dt + (hr + n) / 24) % 365 + 1) % 365 by omega]
    exact this
  · have := a4 c
    rw [show (hr + (n + 1)) % 24 = (hr + n) % 24 + 1 by omega, show (dt + (hr + (n + 1)) / 24) % 365 = (dt + (hr + n) / 24) % 365 by omega]
    exact this
theorem postG (hT : TOK T) {hr dt p : Nat} (h24 : hr < 24) (hd : dt < 365) (hp : p < tnp T) (x : Int32) : ∀ (k n : Nat), n + k = 241 → ∀ (c m : Mem) (f s : Nat), k < f → CB T sd q c → c.1 27 5 = nI hr → c.1 27 6 = nI dt → ML T sd q ((hr + n) % 24) ((dt + (hr + n) / 24) % 365) m → s < 2 ^ tnp T → s.testBit p = true → ∃ r c' m', gX4_hoursTo f x (nI s) (nI n) c = some (r, c') ∧ gX12_post f x (nI s) (nI n) m = some (r, m') ∧ keeps (SC T) c c' ∧ CB T sd q c' ∧ keeps [10, 13, 34, 35, 36] m m' := by
  intro k
  induction k with
  | zero =>
    intro n hn c m f s hf h h5 h6 hm hs hb
    obtain ⟨f, rfl⟩ : ∃ g, f = g + 1 := ⟨f - 1, by omega⟩
    refine ⟨-1, c, m, ?_, ?_, keeps.rfl', h, keeps.rfl'⟩
    · rw [gX4_hoursTo, if_pos (show (240 : Int32) < nI n from nI_lt (a := 240) (by omega) (by omega))]
    · rw [gX12_post, if_pos (show (240 : Int32) < nI n from nI_lt (a := 240) (by omega) (by omega))]
  | succ k ih =>
    intro n hn c m f s hf h h5 h6 hm hs hb
    obtain ⟨f, rfl⟩ : ∃ g, f = g + 1 := ⟨f - 1, by omega⟩
    have hP := h.1.pl
    obtain ⟨c1, a1, a2, a3⟩ := c_behind hT h h24 hd (show n ≤ 240 by omega) h5 h6
    obtain ⟨m1, b1, b2, b3⟩ := hm.next hT hs
    rw [gX4_hoursTo, gX12_post, if_neg (show ¬ (240 : Int32) < nI n from nI_nlt (a := 240) (by omega) (by omega)), if_neg (show ¬ (240 : Int32) < nI n from nI_nlt (a := 240) (by omega) (by omega)), a1, cI_some, h.1.2.1, c_hand hT a3.1 (WA_lt hT _ _ _) hs, cP_some, b1, cI_some, hand_eq hT hs hp hb, nI_1]
    by_cases c0 : ((nI s >>> (x &&& 31)) &&& (1 : Int32)) = (1 : Int32)
    · rw [if_pos c0, if_pos c0]
      exact ⟨_, _, _, rfl, rfl, keeps.rfl', h, keeps.rfl'⟩
    · rw [if_neg c0, if_neg c0]
      have k27 : c1.1 27 = c.1 27 := a2.2 27 (by simp <;> omega)
      obtain ⟨r, c', m', z1, z2, z3, z4, z5⟩ := ih (n + 1) (by omega) c1 m1 f _ (by omega) a3 (by rw [k27]; exact h5) (by rw [k27]; exact h6) b3 (mHand_lt _ _ hs) (mHand_sub _ _ _ hb)
      exact ⟨r, c', m', z1, z2, a2.trans z3, z4, b2.trans z5⟩
theorem spreadG (hT : TOK T) {hr dt p N : Nat} (h24 : hr < 24) (hd : dt < 365) (hp : p < tnp T) (hN : N ≤ 240) : ∀ (k n : Nat), n + k = N → ∀ (c m : Mem) (f s : Nat), k < f → CB T sd q c → c.1 27 5 = nI hr → c.1 27 6 = nI dt → ML T sd q ((hr + n) % 24) ((dt + (hr + n) / 24) % 365) m → s < 2 ^ tnp T → s.testBit p = true → ∃ r c' m', gX4_whoHasIt f (nI N) (nI s) (nI n) c = some (r, c') ∧ gX12_spread f (nI N) (nI s) (nI n) m = some (r, m') ∧ keeps (SC T) c c' ∧ CB T sd q c' ∧ keeps [10, 13, 34, 35, 36] m m' := by
  intro k
  induction k with
  | zero =>
    intro n hn c m f s hf h h5 h6 hm hs hb
    obtain ⟨f, rfl⟩ : ∃ g, f = g + 1 := ⟨f - 1, by omega⟩
    refine ⟨nI s, c, m, ?_, ?_, keeps.rfl', h, keeps.rfl'⟩
    · rw [gX4_whoHasIt, if_pos (nI_le (by omega) (by omega))]
    · rw [gX12_spread, if_pos (nI_le (by omega) (by omega))]
  | succ k ih =>
    intro n hn c m f s hf h h5 h6 hm hs hb
    obtain ⟨f, rfl⟩ : ∃ g, f = g + 1 := ⟨f - 1, by omega⟩
    have hP := h.1.pl
    obtain ⟨c1, a1, a2, a3⟩ := c_behind hT h h24 hd (show n ≤ 240 by omega) h5 h6
    obtain ⟨m1, b1, b2, b3⟩ := hm.next hT hs
    rw [gX4_whoHasIt, gX12_spread, if_neg (nI_ge (by omega) (by omega)), if_neg (nI_ge (by omega) (by omega)), a1, cI_some, h.1.2.1, c_hand hT a3.1 (WA_lt hT _ _ _) hs, cP_some, b1, cI_some, hand_eq hT hs hp hb, nI_1]
    have k27 : c1.1 27 = c.1 27 := a2.2 27 (by simp <;> omega)
    obtain ⟨r, c', m', z1, z2, z3, z4, z5⟩ := ih (n + 1) (by omega) c1 m1 f _ (by omega) a3 (by rw [k27]; exact h5) (by rw [k27]; exact h6) b3 (mHand_lt _ _ hs) (mHand_sub _ _ _ hb)
    exact ⟨r, c', m', z1, z2, a2.trans z3, z4, b2.trans z5⟩
theorem RX.ml {c : Mem} (hX : RX T c m) {hr dt : Nat} (hQ : QS T sd q hr dt c m) : ∃ m', fX12_loadDate m (nI dt) = some m' ∧ keeps [10, 13, 34, 35, 36] m m' ∧ ML T sd q hr dt m' := by
  have h7 := hX.1.1
  obtain ⟨m1, b1, b2, b3, b4⟩ := hX.load hQ dt
  exact ⟨m1, b1, b2, ⟨b3.1, hX.2.2.2.2.1.kp b2 (by simp), b3.2.2.2.1, b3.2.2.2.2⟩, b3, by rw [b4 35 (by omega)]; exact hQ.mh, by rw [b4 36 (by omega)]; exact hQ.md⟩
def wkOK (b : Int32) : Prop := b = -1 ∨ ∃ j : Nat, j < 128 ∧ b = nI j
theorem wakeG (hT : TOK T) {p w : Nat} (hp : p < tnp T) (hw : w < 128) (x y : Int32) {c : Mem} (hc : TC T c) (hm : TM T m) : ∀ (k j : Nat), j + k = 2 ^ tnp T → ∀ (f : Nat) (best : Int32), k < f → wkOK best → ∃ r, gX4_fewestWoken f (nI p) x (nI w) best (nI j) c = some (r, c) ∧ wkOK r ∧ gX12_wake f (nI p) x y (nI w) best (nI j) m = (if 0 ≤ r then (if y = 0 then (cP (fX12_members r) fun r4 => (some (r4, m))) else (some (r, m))) else (some ((-1 : Int32), m))) := by
  have h7 := hT.1
  have hpw := pow_np h7
  have hone := Nat.two_pow_pos (tnp T)
  intro k
  induction k with
  | zero =>
    intro j hj f best hf hb
    obtain ⟨f, rfl⟩ : ∃ g, f = g + 1 := ⟨f - 1, by omega⟩
    refine ⟨best, ?_, hb, ?_⟩
    · rw [gX4_fewestWoken, hc.every hT, cP_some, if_pos (nI_lt (by omega) (by omega))]
    · rw [gX12_wake, hm.1, sh_pow (tnp T) (by omega), if_pos (nI_le (by omega) (by omega))]
  | succ k ih =>
    intro j hj f best hf hb
    obtain ⟨f, rfl⟩ : ∃ g, f = g + 1 := ⟨f - 1, by omega⟩
    have hj128 : j < 128 := by omega
    have hwj : w ||| j < 128 := Nat.or_lt_two_pow (n := 7) hw hj128
    have hs : (2 : Nat) ^ p < 2 ^ tnp T := Nat.pow_lt_pow_right (by decide) hp
    have hhand : cHand T (w ||| j) (tnp T) (2 ^ p) = mHand T (w ||| j) (tnp T) (2 ^ p) := hand_eq hT hs hp (Nat.testBit_two_pow_self)
    rw [gX4_fewestWoken, gX12_wake, hc.every hT, cP_some, if_neg (nI_nlt (by omega) (by omega)), hm.1, sh_pow (tnp T) (by omega), if_neg (nI_ge (by omega) (by omega)), sh_pow p (by omega), fa_or, hc.2.1, c_hand hT hc hwj hs, cP_some, m_hand hT hm hwj hs, cP_some, hhand, nI_1]
    by_cases ca : (nI j &&& nI w) = 0
    · rw [if_pos ca, if_pos ca]
      have hand : ∃ r, (if ((nI (mHand T (w ||| j) (tnp T) (2 ^ p)) >>> (x &&& 31)) &&& (1 : Int32)) = (1 : Int32) then gX4_fewestWoken f (nI p) x (nI w) (nI j) (nI (j + 1)) c else gX4_fewestWoken f (nI p) x (nI w) best (nI (j + 1)) c) = some (r, c) ∧ wkOK r ∧ (if ((nI (mHand T (w ||| j) (tnp T) (2 ^ p)) >>> (x &&& 31)) &&& (1 : Int32)) = (1 : Int32) then gX12_wake f (nI p) x y (nI w) (nI j) (nI (j + 1)) m else gX12_wake f (nI p) x y (nI w) best (nI (j + 1)) m) = (if 0 ≤ r then (if y = 0 then (cP (fX12_members r) fun r4 => (some (r4, m))) else (some (r, m))) else (some ((-1 : Int32), m))) := by
        split
        · exact ih (j + 1) (by omega) f (nI j) (by omega) (Or.inr ⟨j, hj128, rfl⟩)
        · exact ih (j + 1) (by omega) f best (by omega) hb
      rcases hb with rfl | ⟨b, hb1, rfl⟩
      · rw [if_pos rfl, if_pos (show (-1 : Int32) < 0 by decide)]
        exact hand
      · rw [if_neg (fun z => nI_lt0 (k := b) (by omega) (by rw [z]; decide)), if_neg (nI_lt0 (by omega)), bc_128 j hj128, cP_some, bc_128 b hb1, cP_some, m_members (by omega), cP_some, m_members (by omega), cP_some]
        by_cases cb : nI (pcN j) < nI (pcN b)
        · rw [if_neg (Int32.not_le.mpr cb), if_pos cb]
          exact hand
        · rw [if_pos (Int32.not_lt.mp cb), if_neg cb]
          exact ih (j + 1) (by omega) f _ (by omega) (Or.inr ⟨b, hb1, rfl⟩)
    · rw [if_neg ca, if_neg ca]
      rcases hb with rfl | ⟨b, hb1, rfl⟩
      · rw [if_pos rfl]
        exact ih (j + 1) (by omega) f _ (by omega) (Or.inl rfl)
      · rw [if_neg (fun z => nI_lt0 (k := b) (by omega) (by rw [z]; decide)), bc_128 j hj128, cP_some, bc_128 b hb1, cP_some]
        have := ih (j + 1) (by omega) f (nI b) (by omega) (Or.inr ⟨b, hb1, rfl⟩)
        split <;> exact this
end
theorem o_post : Ob_post Rl := by
  intro mC mM x y hR
  obtain ⟨T, hX⟩ : ∃ T, RX T mC mM := id hR
  obtain ⟨sd, q, hr, dt, hQ⟩ := hX.cb
  have hT := hX.1
  have h2 := hX.2.1
  have h3 := hX.2.2.1
  have h7 := hT.1
  have h8 := hT.2.2.1
  have h10 := hT.2.1
  unfold fX11_post fX12_post
  rcases hX.person x with ⟨e1, e2⟩ | ⟨p, hp, rfl, e1, e2⟩
  · rw [e1, e2, cP_some, cP_some]
    exact ⟨_, _, _, by rw [if_pos rfl], by rw [if_pos rfl], hR⟩
  rw [e1, e2, cP_some, cP_some, if_neg i10, if_neg i10]
  rcases hX.person y with ⟨e1, e2⟩ | ⟨o, ho, rfl, e1, e2⟩
  · rw [e1, e2, cP_some, cP_some]
    exact ⟨_, _, _, by rw [if_pos rfl], by rw [if_pos rfl], hR⟩
  rw [e1, e2, cP_some, cP_some, if_neg i10, if_neg i10]
  obtain ⟨m1, b1, b2, b3⟩ := hX.ml hQ
  rw [(rd_now _ _).2.2, hQ.md, b1, cV_some]
  unfold fX4_hoursTo
  rw [nm_eq, nm_eq, sh_pow p (by omega)]
  obtain ⟨r, c', m', z1, z2, z3, z4, z5⟩ := postG hT hQ.hlt hQ.dlt hp (nI o) 241 0 (by omega) mC m1 5000 (2 ^ p) (by omega) hQ.cb hQ.ch hQ.cd (by rw [Nat.add_zero, Nat.mod_eq_of_lt hQ.hlt, Nat.div_eq_of_lt hQ.hlt, Nat.add_zero, Nat.mod_eq_of_lt hQ.dlt]; exact b3) (Nat.pow_lt_pow_right (by decide) hp) Nat.testBit_two_pow_self
  rw [show gX4_hoursTo 5000 (nI o) (nI (2 ^ p)) 0 mC = _ from z1, cI_some, show gX12_post 5000 (nI o) (nI (2 ^ p)) 0 m1 = _ from z2]
  exact ⟨_, _, _, rfl, rfl, hX.done z3 z4.2.2.1 (b2.trans z5)⟩
theorem o_spread : Ob_spread Rl := by
  intro mC mM x y hR
  obtain ⟨T, hX⟩ : ∃ T, RX T mC mM := id hR
  obtain ⟨sd, q, hr, dt, hQ⟩ := hX.cb
  have hT := hX.1
  have h2 := hX.2.1
  have h3 := hX.2.2.1
  have h7 := hT.1
  have h8 := hT.2.2.1
  have h10 := hT.2.1
  unfold fX11_spread fX12_spread
  rcases hX.person x with ⟨e1, e2⟩ | ⟨p, hp, rfl, e1, e2⟩
  · rw [e1, e2, cP_some, cP_some]
    exact ⟨_, _, _, by rw [if_pos rfl], by rw [if_pos rfl], hR⟩
  rw [e1, e2, cP_some, cP_some, if_neg i10, if_neg i10]
  rcases ix3 y 241 (by omega) with e | ⟨e0, e⟩ | ⟨N, hN, rfl⟩
  · rw [if_pos e, isIn_lt e, cP_some]
    exact ⟨_, _, _, rfl, by rw [if_pos rfl], hR⟩
  · rw [if_neg (Int32.not_lt.mpr e0), if_pos (show (240 : Int32) < y from fa_trans (show (240 : Int32) < nI 241 by decide) e), show fX12_isIn y 0 240 = some 0 from isIn_ge (n := 241) (by omega) e0 e, cP_some]
    exact ⟨_, _, _, rfl, by rw [if_pos rfl], hR⟩
  rw [if_neg (nI_lt0 (by omega)), if_neg (show ¬ (240 : Int32) < nI N from nI_nlt (a := 240) (by omega) (by omega)), show fX12_isIn (nI N) 0 240 = some 1 from isIn_in (n := 241) hN (by omega), cP_some, if_neg i10]
  obtain ⟨m1, b1, b2, b3⟩ := hX.ml hQ
  rw [(rd_now _ _).2.2, hQ.md, b1, cV_some]
  unfold fX4_whoHasIt
  rw [nm_eq, nm_eq, sh_pow p (by omega)]
  obtain ⟨r, c', m', z1, z2, z3, z4, z5⟩ := spreadG hT hQ.hlt hQ.dlt hp (show N ≤ 240 by omega) N 0 (by omega) mC m1 5000 (2 ^ p) (by omega) hQ.cb hQ.ch hQ.cd (by rw [Nat.add_zero, Nat.mod_eq_of_lt hQ.hlt, Nat.div_eq_of_lt hQ.hlt, Nat.add_zero, Nat.mod_eq_of_lt hQ.dlt]; exact b3) (Nat.pow_lt_pow_right (by decide) hp) Nat.testBit_two_pow_self
  rw [show gX4_whoHasIt 5000 (nI N) (nI (2 ^ p)) 0 mC = _ from z1, cI_some, show gX12_spread 5000 (nI N) (nI (2 ^ p)) 0 m1 = _ from z2]
  exact ⟨_, _, _, rfl, rfl, hX.done z3 z4.2.2.1 (b2.trans z5)⟩
theorem o_wake : Ob_wake Rl := by
  intro mC mM x y z hR
  obtain ⟨T, hX⟩ : ∃ T, RX T mC mM := id hR
  obtain ⟨sd, q, hr, dt, hQ⟩ := hX.cb
  have hT := hX.1
  have h2 := hX.2.1
  have h3 := hX.2.2.1
  have h7 := hT.1
  have h8 := hT.2.2.1
  have h10 := hT.2.1
  unfold fX11_wake fX12_wake
  rcases hX.person x with ⟨e1, e2⟩ | ⟨p, hp, rfl, e1, e2⟩
  · rw [e1, e2, cP_some, cP_some]
    exact ⟨_, _, _, by rw [if_pos rfl], by rw [if_pos rfl], hR⟩
  rw [e1, e2, cP_some, cP_some, if_neg i10, if_neg i10]
  rcases hX.person y with ⟨e1, e2⟩ | ⟨o, ho, rfl, e1, e2⟩
  · rw [e1, e2, cP_some, cP_some]
    exact ⟨_, _, _, by rw [if_pos rfl], by rw [if_pos rfl], hR⟩
  rw [e1, e2, cP_some, cP_some, if_neg i10, if_neg i10]
  by_cases cpo : nI p = nI o
  · rw [if_pos cpo]
    exact ⟨_, _, _, rfl, by rw [if_pos cpo], hR⟩
  rw [if_neg cpo, if_neg cpo]
  rcases two_c z with ⟨e1, e2⟩ | ⟨e0, e1, e3, e2⟩ | ⟨b, hb, rfl, e0, e1, e3, e2⟩
  · rw [if_pos e1, e2, cP_some]
    exact ⟨_, _, _, rfl, by rw [if_pos rfl], hR⟩
  · rw [if_neg e0, if_neg e1, e2, cP_some]
    exact ⟨_, _, _, rfl, by rw [if_pos rfl], hR⟩
  rw [if_neg e0, if_pos e1, e2, cP_some, if_neg i10]
  obtain ⟨m1, b1, b2, b3⟩ := hX.ml hQ
  obtain ⟨c1, a1, a2, a3⟩ := c_behind hT hQ.cb hQ.hlt hQ.dlt (show 0 ≤ 240 by omega) hQ.ch hQ.cd
  rw [Nat.add_zero, Nat.mod_eq_of_lt hQ.hlt, Nat.div_eq_of_lt hQ.hlt, Nat.add_zero, Nat.mod_eq_of_lt hQ.dlt] at a1
  have hpw := pow_np h7
  obtain ⟨r, z1, z2, z3⟩ := wakeG hT hp (WA_lt hT sd dt hr) (nI o) (nI b) a3.1 b3.2.1.1 (2 ^ tnp T) 0 (by omega) 5000 (-1) (by omega) (Or.inl rfl)
  unfold fX4_fewestWoken
  rw [(rd_now _ _).2.2, hQ.md, b1, cV_some, (rd_now _ _).2.1, b3.2.2.1, b3.2.1.who hT hQ.hlt, cP_some, show fX4_whoIsAwakeBehind mC 0 = _ from a1, cI_some, show gX4_fewestWoken 5000 (nI p) (nI o) (nI (WA T sd dt hr)) (-1) 0 c1 = _ from z1, cI_some, show gX12_wake 5000 (nI p) (nI o) (nI b) (nI (orB (fun p => awN T dt (sd p) hr) (tnp T))) (-1) 0 m1 = _ from z3]
  have hend := hX.done a2 a3.2.2.1 b2
  rcases z2 with rfl | ⟨j, hj, rfl⟩
  · rw [if_pos rfl, if_neg (show ¬ (0 : Int32) ≤ -1 by decide)]
    exact ⟨_, _, _, rfl, rfl, hend⟩
  · rw [if_neg (fun z => nI_lt0 (k := j) (by omega) (by rw [z]; decide)), if_pos (nI_pos' (by omega)), bc_128 j hj, cP_some, m_members (by omega), cP_some]
    rcases (show b = 0 ∨ b = 1 by omega) with rfl | rfl
    · rw [if_neg (show ¬ nI 0 = (1 : Int32) by decide), if_pos (show nI 0 = (0 : Int32) from rfl)]
      exact ⟨_, _, _, rfl, rfl, hend⟩
    · rw [if_pos (show nI 1 = (1 : Int32) from rfl), if_neg (show ¬ nI 1 = (0 : Int32) by decide)]
      exact ⟨_, _, _, rfl, rfl, hend⟩
