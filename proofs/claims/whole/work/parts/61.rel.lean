/-! ===== the relation of the two memories ===== -/
/-- a town as told: numbers by (table, index), and what comes of the three formulas -/
abbrev Tn : Type := (Nat → Nat → Nat) × (Nat → Int32 → Int32 → Int32 → Int32 → Int32)
abbrev tP (T : Tn) : Nat := T.1 20 0
abbrev tQ (T : Tn) : Nat := T.1 20 1
abbrev tnp (T : Tn) : Nat := T.1 20 2
abbrev tnm (T : Tn) : Nat := T.1 20 3
abbrev tnn (T : Tn) : Nat := T.1 20 4
abbrev tun (T : Tn) : Nat := T.1 20 5
abbrev told (T : Tn) (w : Nat) : Nat := T.1 21 w
abbrev th (T : Tn) (p : Nat) : Nat := T.1 0 p
abbrev tw (T : Tn) (p : Nat) : Nat := T.1 1 p
abbrev tA (T : Tn) (k : Nat) : Nat := T.1 2 k
abbrev tB (T : Tn) (k : Nat) : Nat := T.1 3 k
abbrev tH (T : Tn) (k : Nat) : Nat := T.1 4 k
abbrev tW (T : Tn) (k : Nat) : Nat := T.1 5 k
abbrev tO (T : Tn) (k : Nat) : Nat := T.1 6 k
abbrev tT (T : Tn) (k : Nat) : Nat := T.1 7 k
abbrev tL (T : Tn) (k : Nat) : Nat := T.1 8 k
def TOK (T : Tn) : Prop := tnp T ≤ 7 ∧ tnm T ≤ 10 ∧ tnn T ≤ 8 ∧ tun T ≤ 60 ∧ (∀ p, p < tnp T → th T p ≤ 9 ∧ tw T p ≤ 100) ∧ (∀ k, k < tnm T → tA T k < tnp T ∧ tB T k < tnp T ∧ tA T k ≠ tB T k ∧ 1 ≤ tH T k ∧ tH T k ≤ 24 ∧ 1 ≤ tW T k ∧ tW T k ≤ 99) ∧ (∀ k, k < tnn T → tO T k < tnp T ∧ tT T k < 24 ∧ 1 ≤ tL T k ∧ tL T k ≤ 20) ∧ (∀ j k, j < tnn T → k < tnn T → tO T j = tO T k → tT T j = tT T k → j = k) ∧ (∀ w, w < 3 → told T w ≤ 1)
/-- the town in the class's plan -/
def TC (T : Tn) (m : Mem) : Prop := ((tP T = 5 ∧ tQ T = 32) ∨ (tP T = 32 ∧ tQ T = 5)) ∧ m.2.2 26 1 = tP T ∧ m.2.2 4 1 = tQ T ∧ m.1 (tP T) 0 = nI (tnp T) ∧ m.1 (tP T) 5 = nI (tnm T) ∧ m.1 (tP T) 10 = nI (tnn T) ∧ m.1 (tP T) 18 = nI (tun T) ∧
  (∀ p, p < tnp T → m.1 (tP T + 2) p = nI (th T p) ∧ imax (m.1 (tP T + 4) p) 0 = nI (tw T p)) ∧
  (∀ k, k < tnm T → m.1 (tP T + 5) k = nI (tA T k) ∧ m.1 (tP T + 6) k = nI (tB T k) ∧ m.1 (tP T + 7) k = nI (tH T k) ∧ m.1 (tP T + 8) k = nI (tW T k)) ∧
  (∀ k, k < tnn T → m.1 (tP T + 9) k = nI (tO T k) ∧ m.1 (tP T + 10) k = nI (tT T k) ∧ m.1 (tP T + 11) k = nI (tL T k))
/-- the town in the reference -/
def TM (T : Tn) (m : Mem) : Prop := m.1 0 51 = nI (tnp T) ∧ m.1 0 52 = nI (tnm T) ∧ m.1 0 53 = nI (tnn T) ∧ m.1 0 24 = nI (tun T) ∧
  (∀ p, p < tnp T → m.1 17 p = nI (th T p) ∧ m.1 18 p = nI (tw T p)) ∧
  (∀ k, k < tnm T → m.1 23 k = nI (tA T k) ∧ m.1 24 k = nI (tB T k) ∧ m.1 25 k = nI (tH T k) ∧ m.1 26 k = nI (tW T k)) ∧
  (∀ k, k < tnn T → m.1 30 k = nI (tO T k) ∧ m.1 31 k = nI (tT T k) ∧ m.1 32 k = nI (tL T k))
/-- formulas: a stack, its top first -/
def stepC (d h l f : Int32) (st : List Int32) (c : Int32) : List Int32 :=
  if -5 < c then (if c = -1 then d else if c = -2 then h else if c = -3 then l else if c = -4 then f else c) :: st
  else if c = -5 then (match st with
    | x :: r => (if x = 0 then 1 else 0) :: r
    | [] => [])
  else match st with
    | y :: x :: r => ((fX3_join c x y).getD 0) :: r
    | r => r
/-- how deep the stack is behind the codes; none if it would run empty or over n -/
def depC (n : Nat) : List Int32 → Nat → Option Nat
  | [], k => some k
  | c :: r, k => if -5 < c then (if k < n then depC n r (k + 1) else none) else if c = -5 then (if 1 ≤ k then depC n r k else none) else (if 2 ≤ k then depC n r (k - 1) else none)
def FC (T : Tn) (m : Mem) : Prop := ∀ w, w < 3 → m.1 (tP T + (12 + 3 * w)) 3 = nI (told T w) ∧ (told T w = 1 → ∃ cs : List Int32, cs.length ≤ 120 ∧ m.1 (tP T + (12 + 3 * w)) 2 = nI cs.length ∧ (∀ i, i < cs.length → m.1 (tP T + (12 + 3 * w) + 1) i = cs.getD i 0) ∧ depC 30 cs 0 = some 1 ∧ ∀ d h l f, cs.foldl (stepC d h l f) [] = [T.2 w d h l f])
def stepM (d h l f : Int32) (st : List Int32) (c : Int32 × Int32) : List Int32 :=
  if c.1 = 0 then c.2 :: st
  else if c.1 = 1 then (if c.2 = 0 then d else if c.2 = 1 then h else if c.2 = 2 then l else f) :: st
  else if c.1 = 2 then (match st with
    | x :: r => (if x = 0 then 1 else 0) :: r
    | [] => [])
  else match st with
    | y :: x :: r => ((fX12_done c.2 x y).getD 0) :: r
    | r => r
def depM (n : Nat) : List (Int32 × Int32) → Nat → Option Nat
  | [], k => some k
  | c :: r, k => if c.1 = 0 then (if k < n then depM n r (k + 1) else none) else if c.1 = 1 then (if k < n ∧ (c.2 = 0 ∨ c.2 = 1 ∨ c.2 = 2 ∨ c.2 = 3) then depM n r (k + 1) else none) else if c.1 = 2 then (if 1 ≤ k then depM n r k else none) else (if 2 ≤ k then depM n r (k - 1) else none)
def FM (T : Tn) (m : Mem) : Prop := ∀ w, w < 3 → m.1 12 w = nI (told T w) ∧ (told T w = 0 → m.1 8 w = 0) ∧ (told T w = 1 → ∃ cs : List (Int32 × Int32), cs.length ≤ 320 ∧ m.1 8 w = nI cs.length ∧ (∀ i, i < cs.length → m.1 6 (320 * w + i) = (cs.getD i (0, 0)).1 ∧ m.1 7 (320 * w + i) = (cs.getD i (0, 0)).2) ∧ depM 60 cs 0 = some 1 ∧ ∀ d h l f, cs.foldl (stepM d h l f) [] = [T.2 w d h l f])
/-- a number between two others, as a number -/
def clN (lo hi : Nat) (x : Int32) : Nat := if x < nI lo then lo else if nI hi < x then hi else x.toNatClampNeg
/-- dawn and dusk of a date -/
def dwn (T : Tn) (d : Nat) : Nat := clN 0 11 (if told T 0 = 1 then T.2 0 (nI d) 0 0 0 else 6)
def dsk (T : Tn) (d : Nat) : Nat := clN 12 23 (if told T 1 = 1 then T.2 1 (nI d) 0 0 0 else 18)
/-- the hours at which a side is awake, as bits -/
def arnd (e : Nat) : Nat := (List.range 5).foldl (fun a i => a ||| 2 ^ ((e + i + 22) % 24)) 0
def hrsN (a b s : Nat) : Nat := if s = 0 then 2 ^ b - 2 ^ a else if s = 1 then 2 ^ 24 - 1 - (2 ^ b - 2 ^ a) else arnd a ||| arnd b
def hrs (T : Tn) (d s : Nat) : Int32 := nI (hrsN (dwn T d) (dsk T d) s)
/-- the class's memory of suns and of one day -/
def DC (T : Tn) (m : Mem) : Prop := (∀ d, d < 365 → m.1 55 d = 0 ∨ m.1 55 d = nI (dwn T d * 32 + dsk T d)) ∧ (m.1 53 0 = -1 ∨ ∃ d, d < 365 ∧ m.1 53 0 = nI d ∧ m.1 53 1 = nI (dwn T d) ∧ m.1 53 2 = nI (dsk T d) ∧ ∀ s, s < 3 → m.1 54 s = hrs T d s)
/-- a state is a row of 37: sides, suffered, together, met, quiet, hour, date -/
def cSt (m : Mem) : Nat → Int32 := fun i => if i < 7 then m.1 28 i else if i < 14 then m.1 29 (i - 7) else if i < 24 then m.1 30 (i - 14) else if i < 34 then m.1 31 (i - 24) else m.1 27 (i - 30)
def stEq (np : Nat) (r r' : Nat → Int32) : Prop := ∀ i, i < 37 → (i < np ∨ 7 ≤ i) → r i = r' i
def stOK (np : Nat) (r : Nat → Int32) : Prop := (∀ p, p < np → ∃ s, s < 3 ∧ r p = nI s) ∧ (∃ q, q < 2 ^ np ∧ r 34 = nI q) ∧ (∃ h, h < 24 ∧ r 35 = nI h) ∧ (∃ d, d < 365 ∧ r 36 = nI d)
def RSt (T : Tn) (mC mM : Mem) : Prop := stEq (tnp T) (cSt mC) (mM.1 33) ∧ stOK (tnp T) (mM.1 33)
def rowAt (f : Nat → Int32) (j : Nat) : Nat → Int32 := fun i => f (37 * j + i)
def RA (T : Tn) (mC mM : Mem) : Prop := ∃ rw a u : Nat, rw < 41 ∧ a + u ≤ 40 ∧ mC.1 56 1 = nI rw ∧ mC.1 56 2 = nI a ∧ mC.1 56 3 = nI u ∧ mM.1 0 60 = nI a ∧ mM.1 0 61 = nI u ∧ stEq (tnp T) (rowAt (mC.1 57) rw) (mM.1 33) ∧ (∀ j, j < a → stEq (tnp T) (rowAt (mC.1 57) ((rw + 41 - (a - j)) % 41)) (rowAt (mM.1 37) j) ∧ stOK (tnp T) (rowAt (mM.1 37) j)) ∧ (∀ j, j < u → stEq (tnp T) (rowAt (mC.1 57) ((rw + 1 + j) % 41)) (rowAt (mM.1 37) (a + j)) ∧ stOK (tnp T) (rowAt (mM.1 37) (a + j)))
def RL_ (mC mM : Mem) : Prop := ∃ ct tm : Nat, ct ≤ 30 ∧ tm ≤ 100000 ∧ mC.1 65 0 = nI ct ∧ mM.1 0 69 = nI ct ∧ mC.1 65 1 = nI tm ∧ mM.1 0 70 = nI tm ∧ ∀ i, i < ct → (∃ h, h < 10 ∧ mC.1 66 i = nI h ∧ mM.1 39 i = nI h) ∧ (∃ h, h < 24 ∧ mC.1 67 i = nI h ∧ mM.1 40 i = nI h) ∧ (mC.1 68 i = 0 ∨ mC.1 68 i = 1) ∧ mM.1 43 i = mC.1 68 i ∧ (∃ t, t ≤ 100000 ∧ mC.1 69 i = nI t ∧ mM.1 41 i = nI t) ∧ mC.1 70 i = mM.1 42 i ∧ (mM.1 42 i = -1 ∨ ∃ t, t ≤ 100000 ∧ mM.1 42 i = nI t)
def RY (mC mM : Mem) : Prop := ∃ lc : Nat, lc ≤ 7 ∧ mC.1 0 9 = nI lc ∧ mM.1 0 63 = nI lc ∧ ∀ i, i < lc → mC.1 73 i = mM.1 38 i
def RB (T : Tn) (mC mM : Mem) : Prop := ∃ bf : Nat, bf < 8 ∧ mC.1 0 7 = nI bf ∧ ∀ b, b < 3 → mM.1 46 b = nI (bf / 2 ^ b % 2) ∧ (bf / 2 ^ b % 2 = 1 → stEq (tnp T) (rowAt (mC.1 72) b) (rowAt (mM.1 47) b) ∧ stOK (tnp T) (rowAt (mM.1 47) b))
def RT (mC mM : Mem) : Prop := ∃ (tp : Nat) (bt : Nat → Nat), tp ≤ 1600 ∧ mC.1 1 1 = nI tp ∧ mM.1 0 1 = nI tp ∧ ∀ i, i < tp → bt i < 256 ∧ mM.1 1 i = nI (bt i) ∧ mC.1 2 i = (nI (bt i)).toInt8.toInt32
def RF (mC mM : Mem) : Prop := mC.1 4 4 = mM.1 0 2 ∧ mC.1 4 5 = mM.1 0 3
/-- the words of the tape; nobody adds up before the first -/
def CW (c : Mem) : Prop := c.2.1 3 = tapeWords ∧ c.1 63 0 = 0 ∧ c.1 64 0 = 0
theorem CW.keep {c c' : Mem} (h : CW c) (h2 : c'.2.1 3 = c.2.1 3) (h63 : c'.1 63 0 = c.1 63 0) (h64 : c'.1 64 0 = c.1 64 0) : CW c' := ⟨by rw [h2]; exact h.1, by rw [h63]; exact h.2.1, by rw [h64]; exact h.2.2⟩
/-- all of it -/
def Rl (mC mM : Mem) : Prop := ∃ T : Tn, TOK T ∧ TC T mC ∧ TM T mM ∧ FC T mC ∧ FM T mM ∧ DC T mC ∧ RSt T mC mM ∧ RA T mC mM ∧ RL_ mC mM ∧ RY mC mM ∧ RB T mC mM ∧ RT mC mM ∧ RF mC mM ∧ CW mC
/-- its parts are kept where their rows are -/
theorem TC.keep {T : Tn} {m m' : Mem} (h : TC T m) (h2 : m'.2.2 = m.2.2) (hr : ∀ r, (5 ≤ r ∧ r < 26 ∨ 32 ≤ r ∧ r < 53) → m'.1 r = m.1 r) : TC T m' := by
  obtain ⟨h1, a, b, c, d, e, f, g, i, j⟩ := h
  have hp : ∀ k, k < 21 → m'.1 (tP T + k) = m.1 (tP T + k) := fun k hk => hr _ (by rcases h1 with ⟨p, q⟩ | ⟨p, q⟩ <;> rw [p] <;> omega)
  have hp0 : m'.1 (tP T) = m.1 (tP T) := hp 0 (by omega)
  refine ⟨h1, by rw [h2]; exact a, by rw [h2]; exact b, by rw [hp0]; exact c, by rw [hp0]; exact d, by rw [hp0]; exact e, by rw [hp0]; exact f, fun p hq => ?_, fun k hk => ?_, fun k hk => ?_⟩
  · rw [hp 2 (by omega), hp 4 (by omega)]; exact g p hq
  · rw [hp 5 (by omega), hp 6 (by omega), hp 7 (by omega), hp 8 (by omega)]; exact i k hk
  · rw [hp 9 (by omega), hp 10 (by omega), hp 11 (by omega)]; exact j k hk
theorem TM.keep {T : Tn} {m m' : Mem} (h : TM T m) (h0 : ∀ k, (k = 51 ∨ k = 52 ∨ k = 53 ∨ k = 24) → m'.1 0 k = m.1 0 k) (hr : ∀ r, (r = 17 ∨ r = 18 ∨ 23 ≤ r ∧ r ≤ 26 ∨ 30 ≤ r ∧ r ≤ 32) → m'.1 r = m.1 r) : TM T m' := by
  unfold TM
  rw [h0 51 (by omega), h0 52 (by omega), h0 53 (by omega), h0 24 (by omega), hr 17 (by omega), hr 18 (by omega), hr 23 (by omega), hr 24 (by omega), hr 25 (by omega), hr 26 (by omega), hr 30 (by omega), hr 31 (by omega), hr 32 (by omega)]
  exact h
theorem FC.keep {T : Tn} {m m' : Mem} (hT : TC T m) (h : FC T m) (hr : ∀ w, w < 3 → m'.1 (tP T + (12 + 3 * w)) = m.1 (tP T + (12 + 3 * w)) ∧ m'.1 (tP T + (12 + 3 * w) + 1) = m.1 (tP T + (12 + 3 * w) + 1)) : FC T m' := by
  intro w hw
  rw [(hr w hw).1, (hr w hw).2]
  exact h w hw
theorem FM.keep {T : Tn} {m m' : Mem} (h : FM T m) (hr : ∀ r, (r = 6 ∨ r = 7 ∨ r = 8 ∨ r = 12) → m'.1 r = m.1 r) : FM T m' := by
  unfold FM
  rw [hr 6 (by omega), hr 7 (by omega), hr 8 (by omega), hr 12 (by omega)]
  exact h
theorem DC.keep {T : Tn} {m m' : Mem} (h : DC T m) (hr : ∀ r, (r = 53 ∨ r = 54 ∨ r = 55) → m'.1 r = m.1 r) : DC T m' := by
  unfold DC
  rw [hr 53 (by omega), hr 54 (by omega), hr 55 (by omega)]
  exact h
theorem cSt.keep {m m' : Mem} (hr : ∀ r, (27 ≤ r ∧ r ≤ 31) → m'.1 r = m.1 r) : cSt m' = cSt m := by
  unfold cSt
  rw [hr 27 (by omega), hr 28 (by omega), hr 29 (by omega), hr 30 (by omega), hr 31 (by omega)]
theorem RSt.keep {T : Tn} {c c' m m' : Mem} (h : RSt T c m) (hc : ∀ r, (27 ≤ r ∧ r ≤ 31) → c'.1 r = c.1 r) (hm : m'.1 33 = m.1 33) : RSt T c' m' := by
  unfold RSt
  rw [cSt.keep hc, hm]
  exact h
theorem RA.keep {T : Tn} {c c' m m' : Mem} (h : RA T c m) (hc : c'.1 56 = c.1 56 ∧ c'.1 57 = c.1 57) (h0 : m'.1 0 60 = m.1 0 60 ∧ m'.1 0 61 = m.1 0 61) (hm : m'.1 33 = m.1 33 ∧ m'.1 37 = m.1 37) : RA T c' m' := by
  unfold RA
  rw [hc.1, hc.2, h0.1, h0.2, hm.1, hm.2]
  exact h
theorem RL_.keep {c c' m m' : Mem} (h : RL_ c m) (h65 : c'.1 65 0 = c.1 65 0 ∧ c'.1 65 1 = c.1 65 1) (hc : ∀ r, (66 ≤ r ∧ r ≤ 70) → c'.1 r = c.1 r) (h0 : m'.1 0 69 = m.1 0 69 ∧ m'.1 0 70 = m.1 0 70) (hm : ∀ r, (39 ≤ r ∧ r ≤ 43) → m'.1 r = m.1 r) : RL_ c' m' := by
  unfold RL_
  rw [h65.1, h65.2, h0.1, h0.2, hc 66 (by omega), hc 67 (by omega), hc 68 (by omega), hc 69 (by omega), hc 70 (by omega), hm 39 (by omega), hm 40 (by omega), hm 41 (by omega), hm 42 (by omega), hm 43 (by omega)]
  exact h
theorem RY.keep {c c' m m' : Mem} (h : RY c m) (hc : c'.1 0 9 = c.1 0 9 ∧ c'.1 73 = c.1 73) (hm : m'.1 0 63 = m.1 0 63 ∧ m'.1 38 = m.1 38) : RY c' m' := by
  unfold RY
  rw [hc.1, hc.2, hm.1, hm.2]
  exact h
theorem RB.keep {T : Tn} {c c' m m' : Mem} (h : RB T c m) (hc : c'.1 0 7 = c.1 0 7 ∧ c'.1 72 = c.1 72) (hm : m'.1 46 = m.1 46 ∧ m'.1 47 = m.1 47) : RB T c' m' := by
  unfold RB
  rw [hc.1, hc.2, hm.1, hm.2]
  exact h
theorem RT.keep {c c' m m' : Mem} (h : RT c m) (hc : c'.1 1 1 = c.1 1 1 ∧ c'.1 2 = c.1 2) (hm : m'.1 0 1 = m.1 0 1 ∧ m'.1 1 = m.1 1) : RT c' m' := by
  unfold RT
  rw [hc.1, hc.2, hm.1, hm.2]
  exact h
theorem RF.keep {c c' m m' : Mem} (h : RF c m) (hc : c'.1 4 4 = c.1 4 4 ∧ c'.1 4 5 = c.1 4 5) (hm : m'.1 0 2 = m.1 0 2 ∧ m'.1 0 3 = m.1 0 3) : RF c' m' := by
  unfold RF
  rw [hc.1, hc.2, hm.1, hm.2]
  exact h
/-- a change of the class that touches its scratch rows alone: suns and day stay as DC has them -/
theorem Rl.scr {T : Tn} {c c' m m' : Mem} (h1 : TOK T) (h2 : TC T c) (h3 : TM T m) (h4 : FC T c) (h5 : FM T m) (h6 : DC T c') (h7 : RSt T c m) (h8 : RA T c m) (h9 : RL_ c m) (h10 : RY c m) (h11 : RB T c m) (h12 : RT c m) (h13 : RF c m) (h14 : CW c) (hc2 : c'.2 = c.2)
    (hc : ∀ r, r ∉ [tP T + 14, tP T + 17, tP T + 20, 53, 54, 55, 58, 59, 60, 61, 62, 65, 71] → c'.1 r = c.1 r) (hc65 : c'.1 65 0 = c.1 65 0 ∧ c'.1 65 1 = c.1 65 1) (hm : keeps [10, 13, 34, 35, 36, 44, 45] m m') : Rl c' m' := by
  have hP : tP T = 5 ∨ tP T = 32 := by rcases h2.1 with h | h; exact Or.inl h.1; exact Or.inr h.1
  have cr : ∀ r, (r < 5 ∨ 26 ≤ r ∧ r < 32 ∨ r = 56 ∨ r = 57 ∨ 63 ≤ r ∧ r ≤ 64 ∨ 66 ≤ r ∧ r ≤ 70 ∨ 72 ≤ r) → c'.1 r = c.1 r := by
    intro r hr
    refine hc r ?_
    simp only [List.mem_cons, List.not_mem_nil, or_false]
    rcases hP with p | p <;> rw [p] <;> omega
  have mr : ∀ r, (r < 10 ∨ 11 ≤ r ∧ r ≤ 12 ∨ 14 ≤ r ∧ r ≤ 33 ∨ 37 ≤ r ∧ r ≤ 43 ∨ 46 ≤ r) → m'.1 r = m.1 r := by
    intro r hr
    refine hm.2 r ?_
    simp only [List.mem_cons, List.not_mem_nil, or_false]
    omega
  refine ⟨T, h1, ?_, h3.keep (fun k _ => by rw [mr 0 (by omega)]) (fun r hr => mr r (by omega)), ?_, h5.keep (fun r hr => mr r (by omega)), h6, h7.keep (fun r hr => cr r (by omega)) (mr 33 (by omega)), h8.keep ⟨cr 56 (by omega), cr 57 (by omega)⟩ ⟨by rw [mr 0 (by omega)], by rw [mr 0 (by omega)]⟩ ⟨mr 33 (by omega), mr 37 (by omega)⟩, h9.keep hc65 (fun r hr => cr r (by omega)) ⟨by rw [mr 0 (by omega)], by rw [mr 0 (by omega)]⟩ (fun r hr => mr r (by omega)), h10.keep ⟨by rw [cr 0 (by omega)], cr 73 (by omega)⟩ ⟨by rw [mr 0 (by omega)], mr 38 (by omega)⟩, h11.keep ⟨by rw [cr 0 (by omega)], cr 72 (by omega)⟩ ⟨mr 46 (by omega), mr 47 (by omega)⟩, h12.keep ⟨by rw [cr 1 (by omega)], cr 2 (by omega)⟩ ⟨by rw [mr 0 (by omega)], mr 1 (by omega)⟩, h13.keep ⟨by rw [cr 4 (by omega)], by rw [cr 4 (by omega)]⟩ ⟨by rw [mr 0 (by omega)], by rw [mr 0 (by omega)]⟩, h14.keep (by rw [hc2]) (by rw [cr 63 (by omega)]) (by rw [cr 64 (by omega)])⟩
  · -- the plan's rows but the stacks of its formulas
    obtain ⟨g1, a, b, c1, d, e, f, g, i, j⟩ := h2
    have hp : ∀ k, k < 14 → c'.1 (tP T + k) = c.1 (tP T + k) := fun k hk => hc _ (by simp only [List.mem_cons, List.not_mem_nil, or_false]; rcases hP with p | p <;> rw [p] <;> omega)
    have hp0 : c'.1 (tP T) = c.1 (tP T) := hp 0 (by omega)
    refine ⟨g1, by rw [hc2]; exact a, by rw [hc2]; exact b, by rw [hp0]; exact c1, by rw [hp0]; exact d, by rw [hp0]; exact e, by rw [hp0]; exact f, fun p hq => ?_, fun k hk => ?_, fun k hk => ?_⟩
    · rw [hp 2 (by omega), hp 4 (by omega)]; exact g p hq
    · rw [hp 5 (by omega), hp 6 (by omega), hp 7 (by omega), hp 8 (by omega)]; exact i k hk
    · rw [hp 9 (by omega), hp 10 (by omega), hp 11 (by omega)]; exact j k hk
  · refine h4.keep h2 (fun w hw => ⟨hc _ ?_, hc _ ?_⟩) <;> simp only [List.mem_cons, List.not_mem_nil, or_false] <;> rcases hP with p | p <;> rw [p] <;> omega
