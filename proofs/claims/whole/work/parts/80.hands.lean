/-! ===== letters ===== -/
def subS (a b : Nat) : Prop := ∀ i, a.testBit i = true → b.testBit i = true
theorem subS.rfl' (a : Nat) : subS a a := fun _ h => h
theorem subS.trans {a b c : Nat} (h : subS a b) (g : subS b c) : subS a c := fun i x => g i (h i x)
theorem subS.anti {a b : Nat} (h : subS a b) (g : subS b a) : a = b := Nat.eq_of_testBit_eq (fun i => by
  cases x : a.testBit i with
  | true => exact (h i x).symm
  | false => cases y : b.testBit i with
    | true => rw [g i y] at x; cases x
    | false => rfl)
theorem subS.or (a b : Nat) : subS a (a ||| b) := fun i h => by rw [Nat.testBit_or, h]; rfl
theorem orS {a b c : Nat} (h : subS a c) (g : subS b c) : subS (a ||| b) c := fun i x => by
  rw [Nat.testBit_or, Bool.or_eq_true] at x
  rcases x with x | x
  · exact h i x
  · exact g i x
theorem powS {p c : Nat} (h : c.testBit p = true) : subS (2 ^ p) c := fun i x => by
  rw [Nat.testBit_two_pow, decide_eq_true_eq] at x
  subst x
  exact h
theorem tb_lt {s n i : Nat} (h : s < 2 ^ n) (hb : s.testBit i = true) : i < n := by
  by_cases c : i < n
  · exact c
  · have : s.testBit i = false := Nat.testBit_lt_two_pow (Nat.lt_of_lt_of_le h (Nat.pow_le_pow_right (by decide) (by omega)))
    rw [this] at hb; cases hb
def cntS (n s : Nat) : Nat := fb_ct (fun i => s.testBit i) n
theorem cntS_le (n s : Nat) : cntS n s ≤ n := fb_ct_le _ n
theorem cntS_grow {n a b : Nat} (hb : b < 2 ^ n) (h : subS a b) (hne : ¬ b = a) : cntS n a + 1 ≤ cntS n b := by
  have h1 : ∃ i, i < n ∧ (b.testBit i && !a.testBit i) = true := by
    apply Classical.byContradiction
    intro hx
    refine hne (subS.anti (fun i hi => ?_) h)
    cases y : a.testBit i with
    | true => rfl
    | false => exact absurd ⟨i, tb_lt hb hi, by rw [hi, y]; rfl⟩ hx
  have h2 : fb_ct (fun i => a.testBit i || (b.testBit i && !a.testBit i)) n = cntS n a + fb_ct (fun i => b.testBit i && !a.testBit i) n := fb_ct_or (fun k _ hk => by
    obtain ⟨x, y⟩ := hk
    rw [x] at y
    simp at y)
  have h3 : fb_ct (fun i => a.testBit i || (b.testBit i && !a.testBit i)) n = cntS n b := fb_ct_cong (fun k _ => by
    show (a.testBit k || (b.testBit k && !a.testBit k)) = b.testBit k
    cases x : a.testBit k with
    | true => rw [h k x]; rfl
    | false => simp)
  have h4 : 0 < fb_ct (fun i => b.testBit i && !a.testBit i) n := fb_ct_pos.mpr h1
  omega
theorem cntS_pos {n s p : Nat} (hp : p < n) (h : s.testBit p = true) : 1 ≤ cntS n s := fb_ct_pos.mpr ⟨p, hp, h⟩
/-- a set that letters don't leave -/
def Cl (T : Tn) (w S : Nat) : Prop := ∀ k, k < tnm T → w.testBit (tA T k) = true → w.testBit (tB T k) = true → (S.testBit (tA T k) = true ∨ S.testBit (tB T k) = true) → S.testBit (tA T k) = true ∧ S.testBit (tB T k) = true
/-- the class's way -/
def cStep (T : Tn) (w h k : Nat) : Nat := if w.testBit (tA T k) = true ∧ w.testBit (tB T k) = true then (if both T k &&& h = 0 then h else h ||| both T k) else h
def cRound (T : Tn) (w : Nat) : Nat → Nat → Nat
  | 0, h => h
  | k + 1, h => cStep T w (cRound T w k h) k
def cHand (T : Tn) (w : Nat) : Nat → Nat → Nat
  | 0, h => h
  | n + 1, h => if cRound T w (tnm T) h = h then cRound T w (tnm T) h else cHand T w n (cRound T w (tnm T) h)
theorem bothS {T : Tn} {k S : Nat} (h : S.testBit (tA T k) = true) (g : S.testBit (tB T k) = true) : subS (both T k) S := orS (powS h) (powS g)
theorem both_a (T : Tn) (k : Nat) : (both T k).testBit (tA T k) = true := by unfold both; rw [Nat.testBit_or, Nat.testBit_two_pow_self]; rfl
theorem both_b (T : Tn) (k : Nat) : (both T k).testBit (tB T k) = true := by unfold both; rw [Nat.testBit_or, Nat.testBit_two_pow_self, Bool.or_true]
theorem both_0 (T : Tn) (k h : Nat) : both T k &&& h = 0 ↔ ¬ (h.testBit (tA T k) = true ∨ h.testBit (tB T k) = true) := by
  constructor
  · intro e hx
    rcases hx with hx | hx
    · have : (both T k &&& h).testBit (tA T k) = true := by rw [Nat.testBit_and, both_a, hx]; rfl
      rw [e, Nat.zero_testBit] at this; cases this
    · have : (both T k &&& h).testBit (tB T k) = true := by rw [Nat.testBit_and, both_b, hx]; rfl
      rw [e, Nat.zero_testBit] at this; cases this
  · intro hx
    apply Nat.eq_of_testBit_eq
    intro i
    rw [Nat.zero_testBit, Nat.testBit_and]
    unfold both
    rw [Nat.testBit_or, Nat.testBit_two_pow, Nat.testBit_two_pow]
    by_cases x1 : tA T k = i
    · subst x1
      cases y : h.testBit (tA T k) with
      | true => exact absurd (Or.inl y) hx
      | false => simp
    · by_cases x2 : tB T k = i
      · subst x2
        cases y : h.testBit (tB T k) with
        | true => exact absurd (Or.inr y) hx
        | false => simp
      · simp [x1, x2]
theorem cStep_sub (T : Tn) (w h k : Nat) : subS h (cStep T w h k) := by
  unfold cStep
  split
  · split
    · exact subS.rfl' _
    · exact subS.or _ _
  · exact subS.rfl' _
theorem cRound_sub (T : Tn) (w h : Nat) : ∀ k, subS h (cRound T w k h)
  | 0 => subS.rfl' _
  | k + 1 => (cRound_sub T w h k).trans (cStep_sub _ _ _ _)
theorem cRound_mono (T : Tn) (w h k : Nat) : ∀ j, subS (cRound T w k h) (cRound T w (k + j) h)
  | 0 => subS.rfl' _
  | j + 1 => (cRound_mono T w h k j).trans (cStep_sub _ _ _ _)
theorem cRound_lt {T : Tn} (hT : TOK T) {w h : Nat} (hh : h < 2 ^ tnp T) : ∀ k, k ≤ tnm T → cRound T w k h < 2 ^ tnp T
  | 0, _ => hh
  | k + 1, hk => by
    have := cRound_lt hT (w := w) hh k (by omega)
    rw [cRound]
    unfold cStep
    split
    · split
      · exact this
      · exact Nat.or_lt_two_pow this (both_lt hT (by omega))
    · exact this
theorem cRound_fix {T : Tn} {w h : Nat} (e : cRound T w (tnm T) h = h) : Cl T w h := by
  intro k hk wa wb hx
  have s1 : subS (cRound T w (k + 1) h) h := by
    have := cRound_mono T w h (k + 1) (tnm T - (k + 1))
    rw [show k + 1 + (tnm T - (k + 1)) = tnm T by omega, e] at this
    exact this
  have e2 : cRound T w k h = h := subS.anti ((cRound_mono T w h k 1).trans s1) (cRound_sub T w h k)
  rw [cRound, e2] at s1
  unfold cStep at s1
  rw [if_pos ⟨wa, wb⟩, if_neg (fun z => (both_0 T k h).mp z hx)] at s1
  exact ⟨s1 _ (by rw [Nat.testBit_or, both_a, Bool.or_true]), s1 _ (by rw [Nat.testBit_or, both_b, Bool.or_true])⟩
theorem cRound_least {T : Tn} {w h S : Nat} (hS : Cl T w S) (hs : subS h S) : ∀ k, k ≤ tnm T → subS (cRound T w k h) S
  | 0, _ => hs
  | k + 1, hk => by
    have ih := cRound_least hS hs k (by omega)
    rw [cRound]
    unfold cStep
    split
    · rename_i hw
      split
      · exact ih
      · rename_i hb
        have hx : (cRound T w k h).testBit (tA T k) = true ∨ (cRound T w k h).testBit (tB T k) = true := Classical.byContradiction (fun z => hb ((both_0 T k _).mpr z))
        have := hS k (by omega) hw.1 hw.2 (hx.imp (ih _) (ih _))
        exact orS ih (bothS this.1 this.2)
    · exact ih
theorem cHand_ok {T : Tn} (hT : TOK T) {w : Nat} : ∀ n h, h < 2 ^ tnp T → tnp T + 1 ≤ cntS (tnp T) h + n → Cl T w (cHand T w n h) ∧ subS h (cHand T w n h) ∧ ∀ S, Cl T w S → subS h S → subS (cHand T w n h) S
  | 0, h, _, hc => absurd (cntS_le (tnp T) h) (by omega)
  | n + 1, h, hh, hc => by
    rw [cHand]
    by_cases e : cRound T w (tnm T) h = h
    · rw [if_pos e, e]
      exact ⟨cRound_fix e, subS.rfl' _, fun S _ hs => hs⟩
    · rw [if_neg e]
      have hl := cRound_lt hT (w := w) hh (tnm T) (Nat.le_refl _)
      have hg := cntS_grow hl (cRound_sub T w h (tnm T)) e
      obtain ⟨a1, a2, a3⟩ := cHand_ok hT (w := w) n _ hl (by omega)
      exact ⟨a1, (cRound_sub T w h (tnm T)).trans a2, fun S h1 h2 => a3 S h1 (cRound_least h1 h2 _ (Nat.le_refl _))⟩
/-- the reference's way -/
def hvb (T : Tn) (a b : Nat) : Nat → Nat
  | 0 => 0
  | k + 1 => if hvb T a b k = 1 then 1 else if (tA T k = a ∧ tB T k = b) ∨ (tA T k = b ∧ tB T k = a) then 1 else 0
theorem hvb_lt (T : Tn) (a b : Nat) : ∀ n, hvb T a b n < 2
  | 0 => by unfold hvb; omega
  | n + 1 => by
    unfold hvb
    repeat' split
    all_goals omega
theorem hvb_iff (T : Tn) (a b : Nat) : ∀ n, hvb T a b n = 1 ↔ ∃ k, k < n ∧ ((tA T k = a ∧ tB T k = b) ∨ (tA T k = b ∧ tB T k = a))
  | 0 => by
    unfold hvb
    constructor
    · intro h; cases h
    · rintro ⟨k, hk, _⟩; omega
  | n + 1 => by
    have ih := hvb_iff T a b n
    unfold hvb
    by_cases c : hvb T a b n = 1
    · rw [if_pos c]
      obtain ⟨k, hk, hx⟩ := ih.mp c
      exact ⟨fun _ => ⟨k, by omega, hx⟩, fun _ => rfl⟩
    · rw [if_neg c]
      by_cases c2 : (tA T n = a ∧ tB T n = b) ∨ (tA T n = b ∧ tB T n = a)
      · rw [if_pos c2]
        exact ⟨fun _ => ⟨n, by omega, c2⟩, fun _ => rfl⟩
      · rw [if_neg c2]
        constructor
        · intro h; cases h
        · rintro ⟨k, hk, hx⟩
          by_cases e : k = n
          · subst e; exact absurd hx c2
          · exact absurd (ih.mpr ⟨k, by omega, hx⟩) c
def mIn (T : Tn) (w a : Nat) : Nat → Nat → Nat
  | 0, h => h
  | b + 1, h => if w.testBit b = true ∧ hvb T a b (tnm T) = 1 then mIn T w a b h ||| 2 ^ b else mIn T w a b h
def mMid (T : Tn) (w : Nat) : Nat → Nat → Nat
  | 0, h => h
  | a + 1, h => if (mMid T w a h).testBit a = true ∧ w.testBit a = true then mIn T w a (tnp T) (mMid T w a h) else mMid T w a h
def mHand (T : Tn) (w : Nat) : Nat → Nat → Nat
  | 0, h => h
  | n + 1, h => mHand T w n (mMid T w (tnp T) h)
theorem mIn_sub (T : Tn) (w a h : Nat) : ∀ b, subS h (mIn T w a b h)
  | 0 => subS.rfl' _
  | b + 1 => by
    rw [mIn]
    split
    · exact (mIn_sub T w a h b).trans (subS.or _ _)
    · exact mIn_sub T w a h b
theorem mIn_lt {T : Tn} {w a h : Nat} (hh : h < 2 ^ tnp T) : ∀ b, b ≤ tnp T → mIn T w a b h < 2 ^ tnp T
  | 0, _ => hh
  | b + 1, hb => by
    have := mIn_lt (T := T) (w := w) (a := a) hh b (by omega)
    rw [mIn]
    split
    · exact Nat.or_lt_two_pow this (Nat.pow_lt_pow_right (by decide) (by omega))
    · exact this
theorem mIn_has {T : Tn} {w a h b : Nat} (hw : w.testBit b = true) (hv : hvb T a b (tnm T) = 1) : ∀ n, b < n → (mIn T w a n h).testBit b = true
  | 0, hn => by omega
  | n + 1, hn => by
    rw [mIn]
    by_cases e : b = n
    · subst e
      rw [if_pos ⟨hw, hv⟩, Nat.testBit_or, Nat.testBit_two_pow_self, Bool.or_true]
    · have := mIn_has (h := h) hw hv n (by omega)
      split
      · exact subS.or _ _ _ this
      · exact this
theorem mMid_step (T : Tn) (w h a : Nat) : subS (mMid T w a h) (mMid T w (a + 1) h) := by
  rw [mMid]
  split
  · exact mIn_sub _ _ _ _ _
  · exact subS.rfl' _
theorem mMid_mono (T : Tn) (w h a : Nat) : ∀ j, subS (mMid T w a h) (mMid T w (a + j) h)
  | 0 => subS.rfl' _
  | j + 1 => (mMid_mono T w h a j).trans (mMid_step _ _ _ _)
theorem mMid_sub (T : Tn) (w h a : Nat) : subS h (mMid T w a h) := by
  have := mMid_mono T w h 0 a
  rw [Nat.zero_add] at this
  exact this
theorem mMid_lt {T : Tn} {w h : Nat} (hh : h < 2 ^ tnp T) : ∀ a, mMid T w a h < 2 ^ tnp T
  | 0 => hh
  | a + 1 => by
    have := mMid_lt (T := T) (w := w) hh a
    rw [mMid]
    split
    · exact mIn_lt this _ (Nat.le_refl _)
    · exact this
theorem mMid_fix {T : Tn} (hT : TOK T) {w h : Nat} (e : mMid T w (tnp T) h = h) : Cl T w h := by
  have key : ∀ a b, a < tnp T → b < tnp T → w.testBit a = true → w.testBit b = true → hvb T a b (tnm T) = 1 → h.testBit a = true → h.testBit b = true := by
    intro a b ha hb wa wb hv hx
    have s1 : subS (mMid T w (a + 1) h) h := by
      have := mMid_mono T w h (a + 1) (tnp T - (a + 1))
      rw [show a + 1 + (tnp T - (a + 1)) = tnp T by omega, e] at this
      exact this
    have e2 : mMid T w a h = h := subS.anti ((mMid_step T w h a).trans s1) (mMid_sub T w h a)
    rw [mMid, e2, if_pos ⟨hx, wa⟩] at s1
    exact s1 b (mIn_has wb hv _ hb)
  intro k hk wa wb hx
  obtain ⟨n1, n2, _⟩ := hT.2.2.2.2.2.1 k hk
  have v1 : hvb T (tA T k) (tB T k) (tnm T) = 1 := (hvb_iff T _ _ _).mpr ⟨k, hk, Or.inl ⟨rfl, rfl⟩⟩
  have v2 : hvb T (tB T k) (tA T k) (tnm T) = 1 := (hvb_iff T _ _ _).mpr ⟨k, hk, Or.inr ⟨rfl, rfl⟩⟩
  rcases hx with hx | hx
  · exact ⟨hx, key _ _ n1 n2 wa wb v1 hx⟩
  · exact ⟨key _ _ n2 n1 wb wa v2 hx, hx⟩
theorem mIn_least {T : Tn} {w a h S : Nat} (hS : Cl T w S) (hs : subS h S) (ha : S.testBit a = true) (wa : w.testBit a = true) : ∀ b, subS (mIn T w a b h) S
  | 0 => hs
  | b + 1 => by
    have ih := mIn_least (w := w) hS hs ha wa b
    rw [mIn]
    split
    · rename_i hx
      refine orS ih (powS ?_)
      obtain ⟨k, hk, hk2⟩ := (hvb_iff T a b (tnm T)).mp hx.2
      rcases hk2 with ⟨x1, x2⟩ | ⟨x1, x2⟩
      · have := hS k hk (by rw [x1]; exact wa) (by rw [x2]; exact hx.1) (Or.inl (by rw [x1]; exact ha))
        rw [x2] at this
        exact this.2
      · have := hS k hk (by rw [x1]; exact hx.1) (by rw [x2]; exact wa) (Or.inr (by rw [x2]; exact ha))
        rw [x1] at this
        exact this.1
    · exact ih
theorem mMid_least {T : Tn} {w h S : Nat} (hS : Cl T w S) (hs : subS h S) : ∀ a, subS (mMid T w a h) S
  | 0 => hs
  | a + 1 => by
    have ih := mMid_least (w := w) hS hs a
    rw [mMid]
    split
    · rename_i hx
      exact mIn_least hS ih (ih _ hx.1) hx.2 _
    · exact ih
theorem mHand_ok {T : Tn} (hT : TOK T) {w : Nat} : ∀ n h, h < 2 ^ tnp T → (mMid T w (tnp T) h = h ∨ tnp T + 1 ≤ cntS (tnp T) h + n) → Cl T w (mHand T w n h) ∧ subS h (mHand T w n h) ∧ ∀ S, Cl T w S → subS h S → subS (mHand T w n h) S
  | 0, h, _, hc => by
    rcases hc with e | hc
    · exact ⟨mMid_fix hT e, subS.rfl' _, fun S _ hs => hs⟩
    · exact absurd (cntS_le (tnp T) h) (by omega)
  | n + 1, h, hh, hc => by
    rw [mHand]
    by_cases e : mMid T w (tnp T) h = h
    · rw [e]
      exact mHand_ok hT n h hh (Or.inl e)
    · have hl := mMid_lt (T := T) (w := w) hh (tnp T)
      have hg := cntS_grow hl (mMid_sub T w h (tnp T)) e
      obtain ⟨a1, a2, a3⟩ := mHand_ok hT (w := w) n _ hl (Or.inr (by rcases hc with hc | hc; exact absurd hc e; omega))
      exact ⟨a1, (mMid_sub T w h (tnp T)).trans a2, fun S h1 h2 => a3 S h1 (mMid_least h1 h2 _)⟩
theorem hand_eq {T : Tn} (hT : TOK T) {w h : Nat} (hh : h < 2 ^ tnp T) {p : Nat} (hp : p < tnp T) (hb : h.testBit p = true) : cHand T w (tnp T) h = mHand T w (tnp T) h := by
  have h1 := cntS_pos hp hb
  obtain ⟨a1, a2, a3⟩ := cHand_ok hT (w := w) (tnp T) h hh (by omega)
  obtain ⟨b1, b2, b3⟩ := mHand_ok hT (w := w) (tnp T) h hh (Or.inr (by omega))
  exact subS.anti (a3 _ b1 b2) (b3 _ a1 a2)
theorem mHand_lt {T : Tn} {w : Nat} : ∀ n h, h < 2 ^ tnp T → mHand T w n h < 2 ^ tnp T
  | 0, _, hh => hh
  | n + 1, h, hh => by rw [mHand]; exact mHand_lt n _ (mMid_lt hh _)
/-! the machine's -/
section
variable {T : Tn} {d : Nat} {sd : Nat → Nat} {q : Nat} {m : Mem}
theorem c_handIn (hT : TOK T) (h : TC T m) {w s : Nat} (hw : w < 128) (hs : s < 2 ^ tnp T) (x4 x5 : Int32) : ∀ (k i : Nat), i + k = tnm T → ∀ f, k < f → ∃ f', f = f' + (k + 1) ∧ gX4_handOn m f 1 (tP T) (nI w) (nI (cRound T w i s)) x4 x5 (nI i) = (if nI (cRound T w (tnm T) s) = x5 then some (nI (cRound T w (tnm T) s)) else gX4_handOn m f' 0 (tP T) (nI w) (nI (cRound T w (tnm T) s)) (x4 + 1) 0 0) := by
  have h10 := hT.2.1
  have h7 := hT.1
  have hpw := pow_np h7
  intro k
  induction k with
  | zero =>
    intro i hi f hf
    obtain ⟨f, rfl⟩ : ∃ g, f = g + 1 := ⟨f - 1, by omega⟩
    have ei : i = tnm T := by omega
    subst ei
    exact ⟨f, rfl, by rw [gX4_handOn, gPl_ok h.pl, h.2.2.2.2.1, if_pos (nI_le (by omega) (by omega))]⟩
  | succ k ih =>
    intro i hi f hf
    obtain ⟨f, rfl⟩ : ∃ g, f = g + 1 := ⟨f - 1, by omega⟩
    obtain ⟨n1, n2, _⟩ := hT.2.2.2.2.2.1 i (by omega)
    have hb := both_lt hT (show i < tnm T by omega)
    have t2 : (nI (both T i) &&& (nI w ^^^ (-1 : Int32)) = 0 ↔ w.testBit (tA T i) = true ∧ w.testBit (tB T i) = true) := by
      unfold both
      rw [two_aw _ (by omega) _ (by omega) w hw, tb_dm, tb_dm, decide_eq_true_eq, decide_eq_true_eq]
    have hl : both T i &&& cRound T w i s < 2 ^ 31 := Nat.lt_of_le_of_lt Nat.and_le_left (by omega)
    obtain ⟨f', q0, q1⟩ := ih (i + 1) (by omega) f (by omega)
    refine ⟨f', by omega, ?_⟩
    rw [gX4_handOn, gPl_ok h.pl, h.2.2.2.2.1, if_neg (nI_ge (by omega) (by omega)), h.both hT (by omega), cP_some, ← q1, cRound, nI_1, fa_and, nm_eq, nm_eq, or_z, fa_or]
    unfold cStep
    by_cases c1 : w.testBit (tA T i) = true ∧ w.testBit (tB T i) = true
    · rw [if_pos (t2.mpr c1), if_pos c1]
      by_cases c2 : both T i &&& cRound T w i s = 0
      · rw [if_pos (by rw [c2]; rfl), if_pos c2]
      · rw [if_neg (fun z => c2 ((nI_eq0 hl).mp z)), if_neg c2]
    · rw [if_neg (fun z => c1 (t2.mp z)), if_neg c1]
theorem c_handG (hT : TOK T) (h : TC T m) {w : Nat} (hw : w < 128) : ∀ (n i : Nat), i + n = tnp T → ∀ (f s : Nat), 13 * n < f → s < 2 ^ tnp T → gX4_handOn m f 0 (tP T) (nI w) (nI s) (nI i) 0 0 = some (nI (cHand T w n s)) := by
  have h10 := hT.2.1
  have h7 := hT.1
  have hpw := pow_np h7
  intro n
  induction n with
  | zero =>
    intro i hi f s hf hs
    obtain ⟨f, rfl⟩ : ∃ g, f = g + 1 := ⟨f - 1, by omega⟩
    rw [gX4_handOn, gPl_ok h.pl, h.2.2.2.1, if_pos (nI_le (by omega) (by omega)), cHand]
  | succ n ih =>
    intro i hi f s hf hs
    obtain ⟨f, rfl⟩ : ∃ g, f = g + 1 := ⟨f - 1, by omega⟩
    obtain ⟨f', q0, q1⟩ := c_handIn hT h hw hs (nI i) (nI s) (tnm T) 0 (by omega) f (by omega)
    have hl := cRound_lt hT (w := w) hs (tnm T) (Nat.le_refl _)
    rw [gX4_handOn, gPl_ok h.pl, h.2.2.2.1, if_neg (nI_ge (by omega) (by omega)), show gX4_handOn m f 1 (tP T) (nI w) (nI s) (nI i) (nI s) 0 = _ from q1, nI_1, cHand]
    by_cases e : cRound T w (tnm T) s = s
    · rw [if_pos (by rw [e]), if_pos e]
    · rw [if_neg (fun z => e ((nI_eq (by omega) (by omega)).mp z)), if_neg e]
      exact ih (i + 1) (by omega) f' _ (by omega) hl
theorem c_hand (hT : TOK T) (h : TC T m) {w s : Nat} (hw : w < 128) (hs : s < 2 ^ tnp T) : fX4_handOn m (tP T) (nI s) (nI w) = some (nI (cHand T w (tnp T) s)) := c_handG hT h hw (tnp T) 0 (by omega) 5000 s (by have := hT.1; omega) hs
theorem m_haveG (hT : TOK T) (h : TM T m) {a b : Nat} (ha : a < tnp T) (hb : b < tnp T) : ∀ (k i : Nat), i + k = tnm T → ∀ (f : Nat), k < f → gX12_haveMeet m f (nI a) (nI b) (nI (hvb T a b i)) (nI i) = some (nI (hvb T a b (tnm T))) := by
  have h10 := hT.2.1
  have h7 := hT.1
  intro k
  induction k with
  | zero =>
    intro i hi f hf
    obtain ⟨f, rfl⟩ : ∃ g, f = g + 1 := ⟨f - 1, by omega⟩
    have ei : i = tnm T := by omega
    subst ei
    rw [gX12_haveMeet, h.2.1, if_pos (nI_le (by omega) (by omega)), tz_b (hvb_lt _ _ _ _)]
  | succ k ih =>
    intro i hi f hf
    obtain ⟨f, rfl⟩ : ∃ g, f = g + 1 := ⟨f - 1, by omega⟩
    obtain ⟨e1, e2, _⟩ := h.2.2.2.2.2.1 i (by omega)
    obtain ⟨n1, n2, _⟩ := hT.2.2.2.2.2.1 i (by omega)
    have eq : ∀ x y, x < tnp T → y < tnp T → (nI x = nI y ↔ x = y) := fun x y hx hy => nI_eq (by omega) (by omega)
    rw [gX12_haveMeet, h.2.1, if_neg (nI_ge (by omega) (by omega)), rd_ok (by omega) (by omega), e1, rd_ok (by omega) (by omega), e2, rd_ok (by omega) (by omega), e1, rd_ok (by omega) (by omega), e2, nI_1, ← ih (i + 1) (by omega) f (by omega), hvb]
    simp only [eq _ _ n1 ha, eq _ _ n1 hb, eq _ _ n2 ha, eq _ _ n2 hb]
    by_cases c : hvb T a b i = 1
    · rw [c, if_neg i1n, if_pos rfl]; rfl
    · rw [if_pos (by rw [show hvb T a b i = 0 by have := hvb_lt T a b i; omega]; rfl), if_neg c]
      by_cases x1 : tA T i = a
      · rw [if_pos x1]
        by_cases x2 : tB T i = b
        · rw [if_pos x2, if_pos (Or.inl ⟨x1, x2⟩)]; rfl
        · rw [if_neg x2]
          by_cases x3 : tA T i = b
          · rw [if_pos x3]
            by_cases x4 : tB T i = a
            · rw [if_pos x4, if_pos (Or.inr ⟨x3, x4⟩)]; rfl
            · rw [if_neg x4, if_neg (fun z => z.elim (fun z => x2 z.2) (fun z => x4 z.2))]; rfl
          · rw [if_neg x3, if_neg (fun z => z.elim (fun z => x2 z.2) (fun z => x3 z.1))]; rfl
      · rw [if_neg x1]
        by_cases x3 : tA T i = b
        · rw [if_pos x3]
          by_cases x4 : tB T i = a
          · rw [if_pos x4, if_pos (Or.inr ⟨x3, x4⟩)]; rfl
          · rw [if_neg x4, if_neg (fun z => z.elim (fun z => x1 z.1) (fun z => x4 z.2))]; rfl
        · rw [if_neg x3, if_neg (fun z => z.elim (fun z => x1 z.1) (fun z => x3 z.1))]; rfl
theorem m_have (hT : TOK T) (h : TM T m) {a b : Nat} (ha : a < tnp T) (hb : b < tnp T) : fX12_haveMeet m (nI a) (nI b) = some (nI (hvb T a b (tnm T))) := m_haveG hT h ha hb (tnm T) 0 (by omega) 5000 (by have := hT.2.1; omega)
theorem m_handIn (hT : TOK T) (h : TM T m) {w s a : Nat} (hw : w < 128) (ha : a < tnp T) (x4 : Int32) : ∀ (k b : Nat), b + k = tnp T → ∀ f, k < f → ∃ f', f = f' + (k + 1) ∧ gX12_handedOn m f 2 (nI w) (nI (mIn T w a b s)) x4 (nI a) (nI b) = gX12_handedOn m f' 1 (nI w) (nI (mIn T w a (tnp T) s)) x4 (nI (a + 1)) 0 := by
  have h7 := hT.1
  intro k
  induction k with
  | zero =>
    intro b hb f hf
    obtain ⟨f, rfl⟩ : ∃ g, f = g + 1 := ⟨f - 1, by omega⟩
    have ei : b = tnp T := by omega
    subst ei
    exact ⟨f, rfl, by rw [gX12_handedOn, h.1, if_pos (nI_le (by omega) (by omega)), nI_1]⟩
  | succ k ih =>
    intro b hb f hf
    obtain ⟨f, rfl⟩ : ∃ g, f = g + 1 := ⟨f - 1, by omega⟩
    obtain ⟨f', q0, q1⟩ := ih (b + 1) (by omega) f (by omega)
    refine ⟨f', by omega, ?_⟩
    have t1 : (nI (w / 2 ^ b % 2) = 1 ↔ w.testBit b = true) := by
      rw [tb_dm, decide_eq_true_eq]
      exact nI_eq (b := 1) (by have := Nat.mod_lt (w / 2 ^ b) (show 0 < 2 by decide); omega) (by omega)
    rw [gX12_handedOn, h.1, if_neg (nI_ge (by omega) (by omega)), bitN (by omega) (by omega), m_have hT h ha (by omega), cP_some, nm_eq, sh_pow b (by omega), fa_or, nI_1, ← q1, mIn]
    by_cases c1 : w.testBit b = true
    · rw [if_pos (t1.mpr c1)]
      by_cases c2 : hvb T a b (tnm T) = 1
      · rw [if_neg (by rw [c2]; decide), if_pos ⟨c1, c2⟩]
      · rw [if_pos (by rw [show hvb T a b (tnm T) = 0 by have := hvb_lt T a b (tnm T); omega]; rfl), if_neg (fun z => c2 z.2)]
    · rw [if_neg (fun z => c1 (t1.mp z)), if_neg (fun z => c1 z.1)]
theorem m_handMid (hT : TOK T) (h : TM T m) {w s r : Nat} (hw : w < 128) (hs : s < 2 ^ tnp T) : ∀ (k a : Nat), a + k = tnp T → ∀ f, 10 * k < f → ∃ f', f ≤ f' + (10 * k + 1) ∧ gX12_handedOn m f 1 (nI w) (nI (mMid T w a s)) (nI r) (nI a) 0 = gX12_handedOn m f' 0 (nI w) (nI (mMid T w (tnp T) s)) (nI (r + 1)) 0 0 := by
  have h7 := hT.1
  have hpw := pow_np h7
  intro k
  induction k with
  | zero =>
    intro a hb f hf
    obtain ⟨f, rfl⟩ : ∃ g, f = g + 1 := ⟨f - 1, by omega⟩
    have ei : a = tnp T := by omega
    subst ei
    exact ⟨f, by omega, by rw [gX12_handedOn, h.1, if_pos (nI_le (by omega) (by omega)), nI_1]⟩
  | succ k ih =>
    intro a hb f hf
    obtain ⟨f, rfl⟩ : ∃ g, f = g + 1 := ⟨f - 1, by omega⟩
    have hl := mMid_lt (T := T) (w := w) hs a
    have t1 : (nI ((mMid T w a s &&& w) &&& 2 ^ a) = 0 ↔ ¬ ((mMid T w a s).testBit a = true ∧ w.testBit a = true)) := by
      rw [nI_eq0 (Nat.lt_of_le_of_lt Nat.and_le_left (Nat.lt_of_le_of_lt Nat.and_le_left (by omega))), fb_bit_nat, Nat.testBit_and]
      cases (mMid T w a s).testBit a <;> cases w.testBit a <;> simp
    rw [gX12_handedOn, h.1, if_neg (nI_ge (by omega) (by omega)), sh_pow a (by omega), fa_and, fa_and, nI_1]
    by_cases c : (mMid T w a s).testBit a = true ∧ w.testBit a = true
    · rw [if_neg (fun z => t1.mp z c)]
      obtain ⟨f1, z0, z1⟩ := m_handIn (s := mMid T w a s) hT h hw (show a < tnp T by omega) (nI r) (tnp T) 0 (by omega) f (by omega)
      have e : mMid T w (a + 1) s = mIn T w a (tnp T) (mMid T w a s) := by rw [mMid, if_pos c]
      rw [show gX12_handedOn m f 2 (nI w) (nI (mMid T w a s)) (nI r) (nI a) 0 = _ from z1, ← e]
      obtain ⟨f', q0, q1⟩ := ih (a + 1) (by omega) f1 (by omega)
      exact ⟨f', by omega, q1⟩
    · rw [if_pos (t1.mpr c)]
      have e : mMid T w (a + 1) s = mMid T w a s := by rw [mMid, if_neg c]
      rw [← e]
      obtain ⟨f', q0, q1⟩ := ih (a + 1) (by omega) f (by omega)
      exact ⟨f', by omega, q1⟩
theorem m_handG (hT : TOK T) (h : TM T m) {w : Nat} (hw : w < 128) : ∀ (n r : Nat), r + n = tnp T → ∀ (f s : Nat), 80 * n < f → s < 2 ^ tnp T → gX12_handedOn m f 0 (nI w) (nI s) (nI r) 0 0 = some (nI (mHand T w n s)) := by
  have h7 := hT.1
  intro n
  induction n with
  | zero =>
    intro i hi f s hf hs
    obtain ⟨f, rfl⟩ : ∃ g, f = g + 1 := ⟨f - 1, by omega⟩
    rw [gX12_handedOn, h.1, if_pos (nI_le (by omega) (by omega)), mHand]
  | succ n ih =>
    intro i hi f s hf hs
    obtain ⟨f, rfl⟩ : ∃ g, f = g + 1 := ⟨f - 1, by omega⟩
    obtain ⟨f', q0, q1⟩ := m_handMid (r := i) hT h hw hs (tnp T) 0 (by omega) f (by omega)
    rw [gX12_handedOn, h.1, if_neg (nI_ge (by omega) (by omega)), show gX12_handedOn m f 1 (nI w) (nI s) (nI i) 0 0 = _ from q1, mHand]
    exact ih (i + 1) (by omega) f' _ (by omega) (mMid_lt hs _)
theorem m_hand (hT : TOK T) (h : TM T m) {w s : Nat} (hw : w < 128) (hs : s < 2 ^ tnp T) : fX12_handedOn m (nI s) (nI w) = some (nI (mHand T w (tnp T) s)) := m_handG hT h hw (tnp T) 0 (by omega) 5000 s (by have := hT.1; omega) hs
end
