/-! ===== formulas read: tools ===== -/
def vK (k : Nat) : Bool := decide (k ≤ 3) || isS k || decide (128 ≤ k ∧ k < 147)
theorem TK.vk {L k p n v : Nat} {w : List Nat} {c m : Mem} (h : TK L k p n v w c m) : k < 147 ∧ vK k = true := by
  have h1 := h.1
  unfold vK
  rcases h1 with z | z | z
  · exact ⟨by omega, by simp [z]⟩
  · refine ⟨?_, by simp [z]⟩
    unfold isS at z
    simp at z
    omega
  · exact ⟨by omega, by simp [z.1, z.2]⟩
theorem rs_sign : ∀ k, k < 147 → vK k = true → ∀ s, s < 128 → isS s = true → (rSort k = s ↔ k = s) := by decide +kernel
theorem rs_few : ∀ k, k < 147 → vK k = true → (rSort k = 3 ↔ k = 0) ∧ (rSort k = 0 ↔ k = 1) ∧ (rSort k = 2 ↔ k = 3) ∧ (rSort k = 1 ↔ k = 2 ∨ 128 ≤ k) ∧ rSort k < 128 := by decide +kernel
section
variable {L k p n v : Nat} {w : List Nat} {c m : Mem}
theorem TK.sort (h : TK L k p n v w c m) : m.1 0 6 = nI (rSort k) := h.2.2.2.2.2.2.2.2.2.2.2.2.1
theorem TK.kind (h : TK L k p n v w c m) : c.1 1 4 = nI k := h.2.2.2.2.2.2.1
theorem TK.plC (h : TK L k p n v w c m) : c.1 1 5 = nI p := h.2.2.2.2.2.2.2.1
theorem TK.plM (h : TK L k p n v w c m) : m.1 0 7 = nI p := h.2.2.2.2.2.2.2.2.2.2.2.2.2.1
theorem TK.nxC (h : TK L k p n v w c m) (hk : ¬ k = 0) : c.1 1 3 = nI n := h.2.2.2.2.2.2.2.2.1 hk
theorem TK.nxM (h : TK L k p n v w c m) (hk : ¬ k = 0) : m.1 0 4 = nI n := h.2.2.2.2.2.2.2.2.2.2.2.2.2.2 hk
theorem TK.num (h : TK L k p n v w c m) (hk : k = 3) : v < 10000 ∧ c.1 1 6 = nI v ∧ m.1 0 8 = nI v := h.2.2.2.2.2.2.2.2.2.1 hk
theorem TK.isK (h : TK L k p n v w c m) {j : Nat} (hj : j < 2 ^ 31) : c.1 1 4 = nI j ↔ k = j := by
  have := h.vk.1
  rw [h.kind, nI_eq (by omega) hj]
theorem TK.isSort (h : TK L k p n v w c m) {j : Nat} (hj : j < 2 ^ 31) : m.1 0 6 = nI j ↔ rSort k = j := by
  have := (rs_few k h.vk.1 h.vk.2).2.2.2.2
  rw [h.sort, nI_eq (by omega) hj]
theorem TK.isSign (h : TK L k p n v w c m) {s : Nat} (hs : s < 128) (hS : isS s = true) : m.1 0 6 = nI s ↔ k = s := by
  rw [h.isSort (by omega), rs_sign k h.vk.1 h.vk.2 s hs hS]
theorem TK.kd (h : TK L k p n v w c m) {j : Nat} {x : Int32} (hx : x = nI j) (hj : j < 2 ^ 31) : c.1 1 4 = x ↔ k = j := by rw [hx]; exact h.isK hj
theorem TK.sg (h : TK L k p n v w c m) {s : Nat} {x : Int32} (hx : x = nI s) (hs : s < 128) (hS : isS s = true) : m.1 0 6 = x ↔ k = s := by rw [hx]; exact h.isSign hs hS
theorem TK.s0 (h : TK L k p n v w c m) : m.1 0 6 = (0 : Int32) ↔ k = 1 := (h.isSort (j := 0) (by omega)).trans (rs_few k h.vk.1 h.vk.2).2.1
theorem TK.s1 (h : TK L k p n v w c m) : m.1 0 6 = (1 : Int32) ↔ k = 2 ∨ 128 ≤ k := (h.isSort (j := 1) (by omega)).trans (rs_few k h.vk.1 h.vk.2).2.2.2.1
theorem TK.s2 (h : TK L k p n v w c m) : m.1 0 6 = (2 : Int32) ↔ k = 3 := (h.isSort (j := 2) (by omega)).trans (rs_few k h.vk.1 h.vk.2).2.2.1
theorem TK.s3 (h : TK L k p n v w c m) : m.1 0 6 = (3 : Int32) ↔ k = 0 := (h.isSort (j := 3) (by omega)).trans (rs_few k h.vk.1 h.vk.2).1
theorem TK.word (h : TK L k p n v w c m) {j : Nat} (hj : j < 19) : fX12_isWord m (lN (enc 256 0 (wrd j))) = some (if k = 128 + j then 1 else 0) := by
  obtain ⟨-, -, -, q4, -⟩ := rs_few k h.vk.1 h.vk.2
  unfold fX12_isWord
  by_cases e : k = 2 ∨ 128 ≤ k
  · obtain ⟨e1, e2, e3⟩ := h.2.2.2.2.2.2.2.2.2.2.2.1 e
    rw [if_pos (h.s1.mpr e), e2]
    by_cases y : k = 128 + j
    · rw [if_pos y, if_pos ((lg_cmp_eq _ _).mpr (by rw [(e3 j hj).mp y]))]
    · rw [if_neg y, if_neg (fun z => y ((e3 j hj).mpr ((e256_inj e1 (wrd_vw hj)).mp ((lg_cmp_eq _ _).mp z))))]
  · rw [if_neg (fun z => e (h.s1.mp z)), if_neg (by omega)]
end
theorem wc_all : lN (enc 256 0 (wrd 0)) = (123581014175598 : Int64) ∧ lN (enc 256 0 (wrd 1)) = (1835361652 : Int64) ∧ lN (enc 256 0 (wrd 2)) = (474315584357 : Int64) ∧ lN (enc 256 0 (wrd 3)) = (33602636119176556 : Int64) ∧ lN (enc 256 0 (wrd 4)) = (1684109166 : Int64) ∧ lN (enc 256 0 (wrd 5)) = (1685418859 : Int64) ∧ lN (enc 256 0 (wrd 6)) = (1751216749 : Int64) ∧ lN (enc 256 0 (wrd 7)) = (1684108389 : Int64) ∧ lN (enc 256 0 (wrd 8)) = (24948 : Int64) ∧ lN (enc 256 0 (wrd 9)) = (474214787188 : Int64) ∧ lN (enc 256 0 (wrd 10)) = (448445441893 : Int64) ∧ lN (enc 256 0 (wrd 11)) = (448546566771 : Int64) ∧ lN (enc 256 0 (wrd 12)) = (512970880104 : Int64) ∧ lN (enc 256 0 (wrd 13)) = (1819243876 : Int64) ∧ lN (enc 256 0 (wrd 14)) = (1752135026 : Int64) ∧ lN (enc 256 0 (wrd 15)) = (6709618 : Int64) ∧ lN (enc 256 0 (wrd 16)) = (28530 : Int64) ∧ lN (enc 256 0 (wrd 17)) = (6385252 : Int64) ∧ lN (enc 256 0 (wrd 18)) = (7237492 : Int64) := by decide +kernel
section
variable {L k p n v : Nat} {w : List Nat} {c m : Mem}
theorem TK.w0 (h : TK L k p n v w c m) : fX12_isWord m (123581014175598 : Int64) = some (if k = 128 then 1 else 0) := wc_all.1 ▸ h.word (j := 0) (by omega)
theorem TK.w1 (h : TK L k p n v w c m) : fX12_isWord m (1835361652 : Int64) = some (if k = 129 then 1 else 0) := wc_all.2.1 ▸ h.word (j := 1) (by omega)
theorem TK.w2 (h : TK L k p n v w c m) : fX12_isWord m (474315584357 : Int64) = some (if k = 130 then 1 else 0) := wc_all.2.2.1 ▸ h.word (j := 2) (by omega)
theorem TK.w3 (h : TK L k p n v w c m) : fX12_isWord m (33602636119176556 : Int64) = some (if k = 131 then 1 else 0) := wc_all.2.2.2.1 ▸ h.word (j := 3) (by omega)
theorem TK.w4 (h : TK L k p n v w c m) : fX12_isWord m (1684109166 : Int64) = some (if k = 132 then 1 else 0) := wc_all.2.2.2.2.1 ▸ h.word (j := 4) (by omega)
theorem TK.w5 (h : TK L k p n v w c m) : fX12_isWord m (1685418859 : Int64) = some (if k = 133 then 1 else 0) := wc_all.2.2.2.2.2.1 ▸ h.word (j := 5) (by omega)
theorem TK.w6 (h : TK L k p n v w c m) : fX12_isWord m (1751216749 : Int64) = some (if k = 134 then 1 else 0) := wc_all.2.2.2.2.2.2.1 ▸ h.word (j := 6) (by omega)
theorem TK.w7 (h : TK L k p n v w c m) : fX12_isWord m (1684108389 : Int64) = some (if k = 135 then 1 else 0) := wc_all.2.2.2.2.2.2.2.1 ▸ h.word (j := 7) (by omega)
theorem TK.w8 (h : TK L k p n v w c m) : fX12_isWord m (24948 : Int64) = some (if k = 136 then 1 else 0) := wc_all.2.2.2.2.2.2.2.2.1 ▸ h.word (j := 8) (by omega)
theorem TK.w9 (h : TK L k p n v w c m) : fX12_isWord m (474214787188 : Int64) = some (if k = 137 then 1 else 0) := wc_all.2.2.2.2.2.2.2.2.2.1 ▸ h.word (j := 9) (by omega)
theorem TK.w10 (h : TK L k p n v w c m) : fX12_isWord m (448445441893 : Int64) = some (if k = 138 then 1 else 0) := wc_all.2.2.2.2.2.2.2.2.2.2.1 ▸ h.word (j := 10) (by omega)
theorem TK.w11 (h : TK L k p n v w c m) : fX12_isWord m (448546566771 : Int64) = some (if k = 139 then 1 else 0) := wc_all.2.2.2.2.2.2.2.2.2.2.2.1 ▸ h.word (j := 11) (by omega)
theorem TK.w12 (h : TK L k p n v w c m) : fX12_isWord m (512970880104 : Int64) = some (if k = 140 then 1 else 0) := wc_all.2.2.2.2.2.2.2.2.2.2.2.2.1 ▸ h.word (j := 12) (by omega)
theorem TK.w13 (h : TK L k p n v w c m) : fX12_isWord m (1819243876 : Int64) = some (if k = 141 then 1 else 0) := wc_all.2.2.2.2.2.2.2.2.2.2.2.2.2.1 ▸ h.word (j := 13) (by omega)
theorem TK.w16 (h : TK L k p n v w c m) : fX12_isWord m (28530 : Int64) = some (if k = 144 then 1 else 0) := wc_all.2.2.2.2.2.2.2.2.2.2.2.2.2.2.2.2.1 ▸ h.word (j := 16) (by omega)
theorem TK.w17 (h : TK L k p n v w c m) : fX12_isWord m (6385252 : Int64) = some (if k = 145 then 1 else 0) := wc_all.2.2.2.2.2.2.2.2.2.2.2.2.2.2.2.2.2.1 ▸ h.word (j := 17) (by omega)
theorem TK.w18 (h : TK L k p n v w c m) : fX12_isWord m (7237492 : Int64) = some (if k = 146 then 1 else 0) := wc_all.2.2.2.2.2.2.2.2.2.2.2.2.2.2.2.2.2.2 ▸ h.word (j := 18) (by omega)
/-- what is asked of: date, hour, loud, far -/
def askN (k : Nat) : Int32 := if k = 135 then 0 else if k = 142 then 1 else if k = 141 then 2 else if k = 143 then 3 else -1
theorem TK.asked (h : TK L k p n v w c m) : fX12_asked m = some (askN k) := by
  obtain ⟨-, -, -, q4, -⟩ := rs_few k h.vk.1 h.vk.2
  have hk := h.vk.1
  unfold fX12_asked askN
  by_cases e : k = 2 ∨ 128 ≤ k
  · obtain ⟨e1, e2, e3⟩ := h.2.2.2.2.2.2.2.2.2.2.2.1 e
    have key : ∀ j, j < 19 → ∀ x : Int64, lN (enc 256 0 (wrd j)) = x → ((lg_cmp (m.2.1 0 9) x = 0) ↔ k = 128 + j) := fun j hj x hx => by
      rw [e2, ← hx, lg_cmp_eq, e256_inj e1 (wrd_vw hj), e3 j hj]
    have k7 := key 7 (by omega) _ wc_all.2.2.2.2.2.2.2.1
    have k14 := key 14 (by omega) _ wc_all.2.2.2.2.2.2.2.2.2.2.2.2.2.2.1
    have k13 := key 13 (by omega) _ wc_all.2.2.2.2.2.2.2.2.2.2.2.2.2.1
    have k15 := key 15 (by omega) _ wc_all.2.2.2.2.2.2.2.2.2.2.2.2.2.2.2.1
    rw [if_pos (h.s1.mpr e)]
    by_cases y1 : k = 135
    · rw [if_pos (k7.mpr y1), if_pos y1]
    · rw [if_neg (fun z => y1 (k7.mp z)), if_neg y1]
      by_cases y2 : k = 142
      · rw [if_pos (k14.mpr y2), if_pos y2]
      · rw [if_neg (fun z => y2 (k14.mp z)), if_neg y2]
        by_cases y3 : k = 141
        · rw [if_pos (k13.mpr y3), if_pos y3]
        · rw [if_neg (fun z => y3 (k13.mp z)), if_neg y3]
          by_cases y4 : k = 143
          · rw [if_pos (k15.mpr y4), if_pos y4]
          · rw [if_neg (fun z => y4 (k15.mp z)), if_neg y4]
  · rw [if_neg (fun z => e (h.s1.mp z)), if_neg (by omega), if_neg (by omega), if_neg (by omega), if_neg (by omega)]
def givN (k : Nat) : Int32 := if k = 135 then -1 else if k = 141 then -3 else if k = 142 then -2 else if k = 143 then -4 else 0
theorem giv_k : ∀ k, k < 147 → (if nI k = (135 : Int32) then (some (-1 : Int32)) else (if nI k = (141 : Int32) then (some (-3 : Int32)) else (if nI k = (142 : Int32) then (some (-2 : Int32)) else (if nI k = (143 : Int32) then (some (-4 : Int32)) else (some (0 : Int32)))))) = some (givN k) ∧ (givN k = 0 ↔ askN k < 0) := by decide +kernel
theorem TK.given (h : TK L k p n v w c m) : fX7_givenHere c = some (givN k) := by
  unfold fX7_givenHere
  rw [h.kind]
  exact (giv_k k h.vk.1).1
def sgn (k : Nat) : Nat := if k = 145 then 38 else if k = 144 then 124 else if k = 60 ∨ k = 62 ∨ k = 61 ∨ k = 43 ∨ k = 45 ∨ k = 42 ∨ k = 47 ∨ k = 37 then k else 0
theorem sgn_k : ∀ k, k < 147 → vK k = true → ¬ k = 145 → ¬ k = 144 → (if nI (rSort k) = (60 : Int32) then some (nI (rSort k)) else (if nI (rSort k) = (62 : Int32) then some (nI (rSort k)) else (if nI (rSort k) = (61 : Int32) then some (nI (rSort k)) else (if nI (rSort k) = (43 : Int32) then some (nI (rSort k)) else (if nI (rSort k) = (45 : Int32) then some (nI (rSort k)) else (if nI (rSort k) = (42 : Int32) then some (nI (rSort k)) else (if nI (rSort k) = (47 : Int32) then some (nI (rSort k)) else (if nI (rSort k) = (37 : Int32) then some (nI (rSort k)) else (some (0 : Int32)))))))))) = some (nI (sgn k)) := by decide +kernel
theorem TK.sign (h : TK L k p n v w c m) : fX12_sign m = some (nI (sgn k)) := by
  unfold fX12_sign
  rw [h.w17, cP_some, h.w16, cP_some]
  by_cases y1 : k = 145
  · rw [if_pos y1, if_neg i10, y1]; rfl
  · rw [if_neg y1, if_pos rfl]
    by_cases y2 : k = 144
    · rw [if_pos y2, if_neg i10, y2]; rfl
    · rw [if_neg y2, if_pos rfl, h.sort]
      exact sgn_k k h.vk.1 h.vk.2 y1 y2
end
def tgt (s : Nat) : Nat := if s = 21 then 3 else if s = 38 then 2 else if s = 43 ∨ s = 45 then 5 else if s = 60 ∨ s = 61 ∨ s = 62 then 4 else if s = 124 then 1 else 6
theorem tgt_ok : ∀ s, s < 128 → fX12_tight (nI s) = some (nI (tgt s)) ∧ 1 ≤ tgt s ∧ tgt s ≤ 6 := by decide +kernel
/-- a row as a stack, its top first -/
def stS (f : Nat → Int32) : List Nat → Prop
  | [] => True
  | x :: S => f S.length = nI x ∧ stS f S
theorem stS_upd {f : Nat → Int32} {j : Nat} {v : Int32} : ∀ {S : List Nat}, S.length ≤ j → stS f S → stS (upd f j v) S
  | [], _, _ => trivial
  | x :: S, h, hs => by
    rw [List.length_cons] at h
    exact ⟨by rw [upd_ne (by omega)]; exact hs.1, stS_upd (by omega) hs.2⟩
theorem stS_push {f : Nat → Int32} {x : Nat} {S : List Nat} (h : stS f S) : stS (upd f S.length (nI x)) (x :: S) := ⟨upd_at _ _ _, stS_upd (Nat.le_refl _) h⟩
/-- the formula being read: the reference's, the class's -/
def FR (w : Nat) (Em : List (Int32 × Int32)) (S : List Nat) (dp u o : Nat) (m : Mem) : Prop := (w < 3 ∧ (∀ x, x ∈ S → x < 128)) ∧ m.1 0 2 = 0 ∧ m.1 0 21 = nI w ∧ m.1 0 22 = nI S.length ∧ stS (m.1 9) S ∧ m.1 0 26 = nI dp ∧ m.1 0 23 = nI u ∧ m.1 0 25 = nI o ∧ m.1 5 w = nI Em.length ∧ rowIs (m.1 3) (320 * w) (Em.map Prod.fst) ∧ rowIs (m.1 4) (320 * w) (Em.map Prod.snd)
def FK (Q w : Nat) (Ec : List Int32) (u o : Nat) (c : Mem) : Prop := ((Q = 5 ∨ Q = 32) ∧ w < 3) ∧ c.2.2 4 1 = Q ∧ c.2.2 4 2 = Q + (12 + 3 * w) ∧ c.1 Q 18 = nI u ∧ c.1 4 3 = nI o ∧ c.1 (Q + (12 + 3 * w)) 2 = nI Ec.length ∧ rowIs (c.1 (Q + (12 + 3 * w) + 1)) 0 Ec
def frC (Q w : Nat) (c c' : Mem) : Prop := c'.2.2 = c.2.2 ∧ (∀ r, r ∉ [1, 4, Q, Q + (12 + 3 * w), Q + (12 + 3 * w) + 1] → c'.1 r = c.1 r) ∧ (∀ s, (s < 3 ∨ 7 ≤ s) → c'.1 1 s = c.1 1 s) ∧ (∀ s, s ≠ 18 → c'.1 Q s = c.1 Q s) ∧ (∀ s, s ≠ 2 → c'.1 (Q + (12 + 3 * w)) s = c.1 (Q + (12 + 3 * w)) s) ∧ ∀ r, r ≠ 1 → c'.2.1 r = c.2.1 r
def frM (w : Nat) (m m' : Mem) : Prop := (∀ r, r ∉ [0, 3, 4, 5, 9] → m'.1 r = m.1 r) ∧ (∀ s, s ∉ [2, 3, 4, 6, 7, 8, 22, 23, 25, 26] → m'.1 0 s = m.1 0 s) ∧ (∀ i, i ≠ w → m'.1 5 i = m.1 5 i) ∧ (∀ i, (i < 320 * w ∨ 320 * w + 320 ≤ i) → m'.1 3 i = m.1 3 i ∧ m'.1 4 i = m.1 4 i) ∧ ∀ r, r ≠ 0 → m'.2.1 r = m.2.1 r
theorem frC.rfl' {Q w : Nat} {c : Mem} : frC Q w c c := ⟨rfl, fun _ _ => rfl, fun _ _ => rfl, fun _ _ => rfl, fun _ _ => rfl, fun _ _ => rfl⟩
theorem frM.rfl' {w : Nat} {m : Mem} : frM w m m := ⟨fun _ _ => rfl, fun _ _ => rfl, fun _ _ => rfl, fun _ _ => ⟨rfl, rfl⟩, fun _ _ => rfl⟩
theorem frC.trans {Q w : Nat} {a b c : Mem} (h : frC Q w a b) (g : frC Q w b c) : frC Q w a c := ⟨g.1.trans h.1, fun r hr => (g.2.1 r hr).trans (h.2.1 r hr), fun s hs => (g.2.2.1 s hs).trans (h.2.2.1 s hs), fun s hs => (g.2.2.2.1 s hs).trans (h.2.2.2.1 s hs), fun s hs => (g.2.2.2.2.1 s hs).trans (h.2.2.2.2.1 s hs), fun r hr => (g.2.2.2.2.2 r hr).trans (h.2.2.2.2.2 r hr)⟩
theorem frM.trans {w : Nat} {a b c : Mem} (h : frM w a b) (g : frM w b c) : frM w a c := ⟨fun r hr => (g.1 r hr).trans (h.1 r hr), fun s hs => (g.2.1 s hs).trans (h.2.1 s hs), fun i hi => (g.2.2.1 i hi).trans (h.2.2.1 i hi), fun i hi => ⟨(g.2.2.2.1 i hi).1.trans (h.2.2.2.1 i hi).1, (g.2.2.2.1 i hi).2.trans (h.2.2.2.1 i hi).2⟩, fun r hr => (g.2.2.2.2 r hr).trans (h.2.2.2.2 r hr)⟩
theorem lxC.fr {Q w : Nat} {c c' : Mem} (hQ : Q = 5 ∨ Q = 32) (h : lxC c c') : frC Q w c c' := by
  refine ⟨h.1, fun r hr => h.2.1 r (fun z => hr (by simp [z])), h.2.2.1, fun s _ => by rw [h.2.1 Q (by omega)], fun s _ => by rw [h.2.1 _ (by omega)], h.2.2.2⟩
theorem lxM.fr {w : Nat} {m m' : Mem} (h : lxM m m') : frM w m m' := by
  refine ⟨fun r hr => h.2.1 r (fun z => hr (by simp [z])), fun s hs => h.2.2.1 s ?_, fun i _ => by rw [h.2.1 5 (by omega)], fun i _ => ⟨by rw [h.2.1 3 (by omega)], by rw [h.2.1 4 (by omega)]⟩, h.2.2.2⟩
  simp only [List.mem_cons, List.not_mem_nil, or_false, not_or] at hs
  omega
theorem FK.lx {Q w : Nat} {Ec : List Int32} {u o : Nat} {c c' : Mem} (h : FK Q w Ec u o c) (hl : lxC c c') : FK Q w Ec u o c' := by
  obtain ⟨⟨h0, h0'⟩, h1, h2, h3, h4, h5, h6⟩ := h
  refine ⟨⟨h0, h0'⟩, by rw [hl.1]; exact h1, by rw [hl.1]; exact h2, by rw [hl.2.1 Q (by omega)]; exact h3, by rw [hl.2.1 4 (by omega)]; exact h4, by rw [hl.2.1 _ (by omega)]; exact h5, by rw [hl.2.1 _ (by omega)]; exact h6⟩
theorem FR.lx {w : Nat} {Em : List (Int32 × Int32)} {S : List Nat} {dp u o : Nat} {m m' : Mem} (h : FR w Em S dp u o m) (hl : lxM m m') : FR w Em S dp u o m' := by
  unfold FR at *
  rw [hl.2.2.1 2 (by omega), hl.2.2.1 21 (by omega), hl.2.2.1 22 (by omega), hl.2.2.1 26 (by omega), hl.2.2.1 23 (by omega), hl.2.2.1 25 (by omega), hl.2.1 9 (by omega), hl.2.1 5 (by omega), hl.2.1 3 (by omega), hl.2.1 4 (by omega)]
  exact h
/-- both at the same token, reading a formula -/
def SF (bt : Nat → Nat) (L Q w : Nat) (Ec : List Int32) (Em : List (Int32 × Int32)) (S : List Nat) (dp u o k p n v : Nat) (wd : List Nat) (c m : Mem) : Prop := BT bt L c m ∧ TK L k p n v wd c m ∧ FK Q w Ec u o c ∧ FR w Em S dp u o m
theorem adv2 {bt : Nat → Nat} {L Q w : Nat} {Ec : List Int32} {Em : List (Int32 × Int32)} {S : List Nat} {dp u o n : Nat} {c m : Mem} (hB : BT bt L c m) (hn : n ≤ L) (h3 : c.1 1 3 = nI n) (h4 : m.1 0 4 = nI n) (hK : FK Q w Ec u o c) (hR : FR w Em S dp u o m) : ∃ k p n' v wd c' m', fX10_advance c = some c' ∧ fX12_token m = some m' ∧ SF bt L Q w Ec Em S dp u o k p n' v wd c' m' ∧ lxC c c' ∧ lxM m m' := by
  obtain ⟨k, p, n', v, wd, c', m', a1, a2, -, a3, a4, a5, a6⟩ := adv hB hn h3 h4
  exact ⟨k, p, n', v, wd, c', m', a1, a2, ⟨a3, a4, hK.lx a5, hR.lx a6⟩, a5, a6⟩
/-- a fault, told alike -/
def bad (c m : Mem) : Prop := ∃ f p : Nat, 1 ≤ f ∧ f ≤ 5 ∧ p ≤ 1600 ∧ c.1 4 4 = nI f ∧ c.1 4 5 = nI p ∧ m.1 0 2 = nI f ∧ m.1 0 3 = nI p
theorem refuse_ok {L k p n v : Nat} {w : List Nat} {c m : Mem} (h : TK L k p n v w c m) (x : Nat) : ∃ c', fX7_refuse c (nI x) = some (0, c') ∧ keeps [4] c c' ∧ (∀ s, s ≠ 4 → s ≠ 5 → c'.1 4 s = c.1 4 s) ∧ c'.1 4 4 = nI (if k = 0 then 1 else x) ∧ c'.1 4 5 = nI p := by
  unfold fX7_refuse
  have hk := h.kd (j := 0) (x := 0) rfl (by omega)
  by_cases e : k = 0
  · rw [if_pos (hk.mpr e), if_pos e, pt_eq, pt_eq, sI_oth (by omega), h.plC]
    exact ⟨_, rfl, (keeps.rfl'.sI (by simp)).sI (by simp), fun s x y => by rw [sI_row, upd_ne y, sI_row, upd_ne x], by rw [sI_row, upd_ne (by omega), sI_row, upd_at]; rfl, by rw [sI_row, upd_at]⟩
  · rw [if_neg (fun z => e (hk.mp z)), if_neg e, pt_eq, pt_eq, sI_oth (by omega), h.plC]
    exact ⟨_, rfl, (keeps.rfl'.sI (by simp)).sI (by simp), fun s x y => by rw [sI_row, upd_ne y, sI_row, upd_ne x], by rw [sI_row, upd_ne (by omega), sI_row, upd_at], by rw [sI_row, upd_at]⟩
theorem wrong_ok {L k p n v : Nat} {w : List Nat} {c m : Mem} (h : TK L k p n v w c m) (h0 : m.1 0 2 = 0) (x : Nat) : ∃ m', fX12_wrong m (nI x) = some m' ∧ keeps [0] m m' ∧ (∀ s, s ≠ 2 → s ≠ 3 → m'.1 0 s = m.1 0 s) ∧ m'.1 0 2 = nI (if k = 0 then 1 else x) ∧ m'.1 0 3 = nI p := by
  unfold fX12_wrong
  have hk := h.s3
  rw [if_pos (show m.1 0 2 ≤ 0 by rw [h0]; decide)]
  by_cases e : k = 0
  · rw [if_pos (hk.mpr e), if_pos e, pt_eq, pt_eq, sI_row, upd_ne (by omega), h.plM]
    exact ⟨_, rfl, (keeps.rfl'.sI (by simp)).sI (by simp), fun s x y => by rw [sI_row, upd_ne y, sI_row, upd_ne x], by rw [sI_row, upd_ne (by omega), sI_row, upd_at]; rfl, by rw [sI_row, upd_at]⟩
  · rw [if_neg (fun z => e (hk.mp z)), if_neg e, pt_eq, pt_eq, sI_row, upd_ne (by omega), h.plM]
    exact ⟨_, rfl, (keeps.rfl'.sI (by simp)).sI (by simp), fun s x y => by rw [sI_row, upd_ne y, sI_row, upd_ne x], by rw [sI_row, upd_ne (by omega), sI_row, upd_at], by rw [sI_row, upd_at]⟩
theorem wrong_bad {m : Mem} {f : Nat} (hf : 1 ≤ f) (hf5 : f ≤ 5) (h : m.1 0 2 = nI f) (x : Int32) : fX12_wrong m x = some m := by
  unfold fX12_wrong
  rw [h, if_neg (nI_nle (by omega) (by omega))]
/-- a code more -/
theorem put_c {Q w : Nat} {Ec : List Int32} {u o : Nat} {c : Mem} (h : FK Q w Ec u o c) (hl : Ec.length < 120) (x : Int32) : ∃ c', fX3_put c (Q + (12 + 3 * w)) x = some c' ∧ FK Q w (Ec ++ [x]) u o c' ∧ frC Q w c c' ∧ c'.2 = c.2 ∧ (∀ r, r ∉ [Q + (12 + 3 * w), Q + (12 + 3 * w) + 1] → c'.1 r = c.1 r) := by
  obtain ⟨⟨h0, h0'⟩, h1, h2, h3, h4, h5, h6⟩ := h
  have hfm : gFm (Q + (12 + 3 * w)) = (fun E : Option Mem => E) := by funext E; exact gFm_ok (by omega)
  unfold fX3_put
  rw [gFm_ok (by omega), h5, if_neg (show ¬ (120 : Int32) ≤ nI Ec.length from nI_ge (b := 120) hl (by omega)), wr_ok hl (by omega), pt_eq, sI_oth (by omega), h5, nI_1]
  refine ⟨_, rfl, ⟨⟨h0, h0'⟩, h1, h2, ?_, ?_, ?_, ?_⟩, ?_, rfl, fun r hr => ?_⟩
  · rw [sI_oth (by omega), sI_oth (by omega)]; exact h3
  · rw [sI_oth (by omega), sI_oth (by omega)]; exact h4
  · rw [sI_row, upd_at, List.length_append]; rfl
  · rw [sI_oth (by omega), sI_row]; exact rowIs_push rfl h6
  · refine ⟨rfl, fun r hr => ?_, fun s _ => ?_, fun s _ => ?_, fun s hs => ?_, fun _ _ => rfl⟩
    · simp only [List.mem_cons, List.not_mem_nil, or_false, not_or] at hr
      rw [sI_oth (by omega), sI_oth (by omega)]
    · rw [sI_oth (by omega), sI_oth (by omega)]
    · rw [sI_oth (by omega), sI_oth (by omega)]
    · rw [sI_row, upd_ne hs, sI_oth (by omega)]
  · simp only [List.mem_cons, List.not_mem_nil, or_false, not_or] at hr
    rw [sI_oth (by omega), sI_oth (by omega)]
theorem rowIs_push2 {f : Nat → Int32} {A : List Int32} {x : Int32} {a j : Nat} (hj : j = a + A.length) (h : rowIs f a A) : rowIs (upd f j x) a (A ++ [x]) := by
  rw [rowIs_app]
  refine ⟨rowIs_upd (by omega) h, ?_, trivial⟩
  rw [hj, upd_at]
theorem add_m {w : Nat} {Em : List (Int32 × Int32)} {S : List Nat} {dp u o : Nat} {m : Mem} (h : FR w Em S dp u o m) (hl : Em.length < 320) (x y : Int32) : ∃ m', fX12_add m x y = some m' ∧ FR w (Em ++ [(x, y)]) S dp u o m' ∧ frM w m m' ∧ m'.2 = m.2 ∧ m'.1 0 = m.1 0 ∧ m'.1 1 = m.1 1 := by
  obtain ⟨⟨h0, h0'⟩, h1, h2, h3, h4, h5, h6, h7, h8, h9, h10⟩ := h
  have hwr : ∀ (m : Mem) (r : Nat) (v : Int32) (K : Mem → Option Mem), wr m r 960 (nI (320 * w + Em.length)) v K = K (sI m r (320 * w + Em.length) v) := fun m r v K => wr_ok (by omega) (by omega)
  have hix : (320 : Int32) * nI w + nI Em.length = nI (320 * w + Em.length) := by rw [show (320 : Int32) = nI 320 from rfl, pk_mul, nI_add]
  unfold fX12_add
  have f1 : (sI m 3 (320 * w + Em.length) x).1 0 = m.1 0 := sI_oth (by omega)
  have f2 : (sI m 3 (320 * w + Em.length) x).1 5 = m.1 5 := sI_oth (by omega)
  have f3 : (sI (sI m 3 (320 * w + Em.length) x) 4 (320 * w + Em.length) y).1 0 = m.1 0 := by rw [sI_oth (by omega), f1]
  have f4 : (sI (sI m 3 (320 * w + Em.length) x) 4 (320 * w + Em.length) y).1 5 = m.1 5 := by rw [sI_oth (by omega), f2]
  rw [h2, rd_ok h0 (by omega), h8, hix, hwr, f1, f2, h2, rd_ok h0 (by omega), h8, hix, hwr, nm_eq, f3, f4, h2, rd_ok h0 (by omega), h8, wr_ok h0 (by omega), nI_1]
  refine ⟨_, rfl, ⟨⟨h0, h0'⟩, ?_, ?_, ?_, ?_, ?_, ?_, ?_, ?_, ?_, ?_⟩, ⟨fun r hr => ?_, fun s _ => ?_, fun i hi => ?_, fun i hi => ?_, fun _ _ => rfl⟩, rfl, ?_, ?_⟩
  · rw [sI_oth (by omega), sI_oth (by omega), sI_oth (by omega)]; exact h1
  · rw [sI_oth (by omega), sI_oth (by omega), sI_oth (by omega)]; exact h2
  · rw [sI_oth (by omega), sI_oth (by omega), sI_oth (by omega)]; exact h3
  · rw [sI_oth (by omega), sI_oth (by omega), sI_oth (by omega)]; exact h4
  · rw [sI_oth (by omega), sI_oth (by omega), sI_oth (by omega)]; exact h5
  · rw [sI_oth (by omega), sI_oth (by omega), sI_oth (by omega)]; exact h6
  · rw [sI_oth (by omega), sI_oth (by omega), sI_oth (by omega)]; exact h7
  · rw [sI_row, upd_at, List.length_append]; rfl
  · rw [sI_oth (by omega), sI_oth (by omega), sI_row, List.map_append]; exact rowIs_push2 (by rw [List.length_map]) h9
  · rw [sI_oth (by omega), sI_row, sI_oth (by omega), List.map_append]; exact rowIs_push2 (by rw [List.length_map]) h10
  · simp only [List.mem_cons, List.not_mem_nil, or_false, not_or] at hr
    rw [sI_oth (by omega), sI_oth (by omega), sI_oth (by omega)]
  · rw [sI_oth (by omega), sI_oth (by omega), sI_oth (by omega)]
  · rw [sI_row, upd_ne hi, sI_oth (by omega), sI_oth (by omega)]
  · exact ⟨by rw [sI_oth (by omega), sI_oth (by omega), sI_row, upd_ne (by omega)], by rw [sI_oth (by omega), sI_row, upd_ne (by omega), sI_oth (by omega)]⟩
  · rw [sI_oth (by omega), sI_oth (by omega), sI_oth (by omega)]
  · rw [sI_oth (by omega), sI_oth (by omega), sI_oth (by omega)]
