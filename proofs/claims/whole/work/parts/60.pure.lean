/-! ===== pure: a toolbox for the functions ===== -/
theorem rd_ok {β : Type} {f : Nat → Int32} {n k : Nat} {K : Int32 → Option β} (h : k < n) (hn : n < 2 ^ 31) : rd f n (nI k) K = K (f k) := by
  unfold rd
  rw [if_pos (nI_in h hn), nI_clamp (by omega)]
theorem rdL_ok {β : Type} {f : Nat → Int64} {n k : Nat} {K : Int64 → Option β} (h : k < n) (hn : n < 2 ^ 31) : rdL f n (nI k) K = K (f k) := by
  unfold rdL
  rw [if_pos (nI_in h hn), nI_clamp (by omega)]
theorem wr_ok {β : Type} {m : Mem} {q n k : Nat} {x : Int32} {K : Mem → Option β} (h : k < n) (hn : n < 2 ^ 31) : wr m q n (nI k) x K = K (sI m q k x) := by
  unfold wr
  rw [if_pos (nI_in h hn), nI_clamp (by omega)]
theorem wrL_ok {β : Type} {m : Mem} {q n k : Nat} {x : Int64} {K : Mem → Option β} (h : k < n) (hn : n < 2 ^ 31) : wrL m q n (nI k) x K = K (sL m q k x) := by
  unfold wrL
  rw [if_pos (nI_in h hn), nI_clamp (by omega)]
theorem pt_eq {β : Type} (m : Mem) (K : Mem → Option β) : pt m K = K m := rfl
theorem nm_eq {β : Type} (x : Int32) (K : Int32 → Option β) : nm x K = K x := rfl
theorem nmL_eq {β : Type} (x : Int64) (K : Int64 → Option β) : nmL x K = K x := rfl
theorem cP_some {β : Type} (r : Int32) (K : Int32 → Option β) : cP (some r) K = K r := rfl
theorem cL_some {β : Type} (r : Int64) (K : Int64 → Option β) : cL (some r) K = K r := rfl
theorem cV_some {β : Type} (m : Mem) (K : Mem → Option β) : cV (some m) K = K m := rfl
theorem cI_some {β : Type} (r : Int32) (m : Mem) (K : Int32 → Mem → Option β) : cI (some (r, m)) K = K r m := rfl
theorem cR_some {β : Type} (r : Nat) (m : Mem) (K : Nat → Mem → Option β) : cR (some (r, m)) K = K r m := rfl
theorem dv_ok {β : Type} {y : Int32} {E : Option β} (h : ¬ y = 0) : dv y E = E := if_neg h
theorem tz_0 {β : Type} {E : Option β} : tz 0 E = E := if_pos rfl
theorem tz_1 {β : Type} {E : Option β} : tz 1 E = E := if_pos rfl
theorem gEq_ok {β : Type} (p : Nat) (E : Option β) : gEq p p E = E := if_pos rfl
theorem gPl_ok {β : Type} {p : Nat} {E : Option β} (h : p = 5 ∨ p = 32) : gPl p E = E := if_pos h
theorem gRw_57 {β : Type} {E : Option β} : gRw 57 E = E := if_pos (Or.inl rfl)
theorem gRw_72 {β : Type} {E : Option β} : gRw 72 E = E := if_pos (Or.inr rfl)
/-- rows behind a change -/
theorem sI_row (m : Mem) (r k : Nat) (v : Int32) : (sI m r k v).1 r = upd (m.1 r) k v := by simp [sI, va_up]
theorem sI_oth {m : Mem} {r k : Nat} {v : Int32} {r' : Nat} (h : r' ≠ r) : (sI m r k v).1 r' = m.1 r' := by simp [sI, va_up, h]
theorem sI_2 (m : Mem) (r k : Nat) (v : Int32) : (sI m r k v).2 = m.2 := rfl
theorem sW_row (m : Mem) (r : Nat) (f : Nat → Int32) : (sW m r f).1 r = f := by simp [sW, va_up]
theorem sW_oth {m : Mem} {r : Nat} {f : Nat → Int32} {r' : Nat} (h : r' ≠ r) : (sW m r f).1 r' = m.1 r' := by simp [sW, va_up, h]
theorem sW_2 (m : Mem) (r : Nat) (f : Nat → Int32) : (sW m r f).2 = m.2 := rfl
theorem sL_1 (m : Mem) (r k : Nat) (v : Int64) : (sL m r k v).1 = m.1 := rfl
theorem sL_22 (m : Mem) (r k : Nat) (v : Int64) : (sL m r k v).2.2 = m.2.2 := rfl
theorem sR_1 (m : Mem) (r k v : Nat) : (sR m r k v).1 = m.1 := rfl
theorem sR_21 (m : Mem) (r k v : Nat) : (sR m r k v).2.1 = m.2.1 := rfl
theorem upd_at (f : Nat → Int32) (k : Nat) (v : Int32) : upd f k v k = v := by simp [upd]
theorem upd_ne {f : Nat → Int32} {k j : Nat} {v : Int32} (h : j ≠ k) : upd f k v j = f j := by simp [upd, h]
/-- a small number, as the machine has it -/
theorem nI_lt0 {k : Nat} (h : k < 2 ^ 31) : ¬ nI k < 0 := nI_pos h
theorem nI_eq0 {k : Nat} (h : k < 2 ^ 31) : nI k = 0 ↔ k = 0 := by rw [← nI_0, nI_eq h (by decide)]
/-- an int is below 0, above what is allowed, or a small number -/
theorem ix3 (x : Int32) (n : Nat) (hn : n < 2 ^ 31) : x < 0 ∨ (0 ≤ x ∧ nI n ≤ x) ∨ ∃ j : Nat, j < n ∧ x = nI j := by
  rcases pk_ix x hn with h | h | h
  · exact Or.inl h
  · refine Or.inr (Or.inl ⟨?_, h⟩)
    have h1 : nI 0 ≤ nI n := nI_le (Nat.zero_le n) hn
    rw [nI_0] at h1
    exact Int32.le_trans h1 h
  · exact Or.inr (Or.inr h)
/-- which rows of ints stay: all but some -/
def keeps (R : List Nat) (m m' : Mem) : Prop := m'.2 = m.2 ∧ ∀ r, r ∉ R → m'.1 r = m.1 r
theorem keeps.rfl' {R : List Nat} {m : Mem} : keeps R m m := ⟨rfl, fun _ _ => rfl⟩
theorem keeps.trans {R : List Nat} {m m' m'' : Mem} (h1 : keeps R m m') (h2 : keeps R m' m'') : keeps R m m'' := ⟨h2.1.trans h1.1, fun r hr => (h2.2 r hr).trans (h1.2 r hr)⟩
theorem keeps.mono {R S : List Nat} {m m' : Mem} (h : keeps R m m') (hs : ∀ r, r ∈ R → r ∈ S) : keeps S m m' := ⟨h.1, fun r hr => h.2 r (fun z => hr (hs r z))⟩
theorem keeps.sI {R : List Nat} {m m' : Mem} {r k : Nat} {v : Int32} (h : keeps R m m') (hr : r ∈ R) : keeps R m (sI m' r k v) := ⟨h.1, fun q hq => (sI_oth (by rintro rfl; exact hq hr)).trans (h.2 q hq)⟩
theorem keeps.sW {R : List Nat} {m m' : Mem} {r : Nat} {f : Nat → Int32} (h : keeps R m m') (hr : r ∈ R) : keeps R m (sW m' r f) := ⟨h.1, fun q hq => (sW_oth (by rintro rfl; exact hq hr)).trans (h.2 q hq)⟩
