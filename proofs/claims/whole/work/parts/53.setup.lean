/-! ===== the start: classes, rows, texts; the two objects ===== -/
theorem st_cls {s : State} {args : Array Value} (hts : ∀ w ∈ WT, w.before args s = true) : ∃ D : va_G, ∀ (c : Nat) (q : vw_C), jcl[c]? = some q → u_Kn s q.1 q.2.1 q.2.2 (D.1 c) (D.2 c) := by
  have key : ∀ c : Nat, ∃ p : ClassId × (Nat → Nat), ∀ q : vw_C, jcl[c]? = some q → u_Kn s q.1 q.2.1 q.2.2 p.1 p.2 := by
    intro c
    match c with
    | 0 =>
      obtain ⟨cC, iS, hk⟩ := u_known (C := RX0) (T := TX0) (N := 4) (n := 4) hts inC0 (hts (.instantiable RX0 4) (wt_mem 496 (by decide +kernel) rfl))
      exact ⟨(cC, iS), fun q hq => by cases hq; exact hk⟩
    | 1 =>
      obtain ⟨cC, iS, hk⟩ := u_known (C := RX1) (T := TX1) (N := 7) (n := 7) hts inC1 (hts (.instantiable RX1 7) (wt_mem 517 (by decide +kernel) rfl))
      exact ⟨(cC, iS), fun q hq => by cases hq; exact hk⟩
    | 2 =>
      obtain ⟨cC, iS, hk⟩ := u_known (C := RX2) (T := TX2) (N := 4) (n := 4) hts inC2 (hts (.instantiable RX2 4) (wt_mem 452 (by decide +kernel) rfl))
      exact ⟨(cC, iS), fun q hq => by cases hq; exact hk⟩
    | 3 =>
      obtain ⟨cC, iS, hk⟩ := u_known (C := RX3) (T := TX3) (N := 4) (n := 4) hts inC3 (hts (.instantiable RX3 4) (wt_mem 241 (by decide +kernel) rfl))
      exact ⟨(cC, iS), fun q hq => by cases hq; exact hk⟩
    | 4 =>
      obtain ⟨cC, iS, hk⟩ := u_known (C := RX3) (T := TX3) (N := 4) (n := 4) hts inC3 (hts (.instantiable RX3 4) (wt_mem 241 (by decide +kernel) rfl))
      exact ⟨(cC, iS), fun q hq => by cases hq; exact hk⟩
    | 5 =>
      obtain ⟨cC, iS, hk⟩ := u_known (C := RX5) (T := TX5) (N := 9) (n := 9) hts inC5 (hts (.instantiable RX5 9) (wt_mem 545 (by decide +kernel) rfl))
      exact ⟨(cC, iS), fun q hq => by cases hq; exact hk⟩
    | 6 =>
      obtain ⟨cC, iS, hk⟩ := u_known (C := RX6) (T := TX6) (N := 19) (n := 19) hts inC6 (hts (.instantiable RX6 19) (wt_mem 235 (by decide +kernel) rfl))
      exact ⟨(cC, iS), fun q hq => by cases hq; exact hk⟩
    | 7 =>
      obtain ⟨cC, iS, hk⟩ := u_known (C := RX7) (T := TX7) (N := 6) (n := 6) hts inC7 (hts (.instantiable RX7 6) (wt_mem 229 (by decide +kernel) rfl))
      exact ⟨(cC, iS), fun q hq => by cases hq; exact hk⟩
    | 8 =>
      obtain ⟨cC, iS, hk⟩ := u_known (C := RX8) (T := TX8) (N := 7) (n := 7) hts inC8 (hts (.instantiable RX8 7) (wt_mem 405 (by decide +kernel) rfl))
      exact ⟨(cC, iS), fun q hq => by cases hq; exact hk⟩
    | 9 =>
      obtain ⟨cC, iS, hk⟩ := u_known (C := RX9) (T := TX9) (N := 4) (n := 4) hts inC9 (hts (.instantiable RX9 4) (wt_mem 399 (by decide +kernel) rfl))
      exact ⟨(cC, iS), fun q hq => by cases hq; exact hk⟩
    | 10 =>
      obtain ⟨cC, iS, hk⟩ := u_known (C := RX10) (T := TX10) (N := 8) (n := 8) hts inC10 (hts (.instantiable RX10 8) (wt_mem 137 (by decide +kernel) rfl))
      exact ⟨(cC, iS), fun q hq => by cases hq; exact hk⟩
    | 11 =>
      obtain ⟨cC, iS, hk⟩ := u_known (C := RX11) (T := TX11) (N := 10) (n := 10) hts inC11 (hts (.instantiable RX11 10) (wt_mem 129 (by decide +kernel) rfl))
      exact ⟨(cC, iS), fun q hq => by cases hq; exact hk⟩
    | 12 =>
      obtain ⟨cC, iS, hk⟩ := u_known (C := RX12) (T := TX12) (N := 75) (n := 75) hts inM (hts (.instantiable RX12 75) (wt_mem 1328 (by decide +kernel) rfl))
      exact ⟨(cC, iS), fun q hq => by cases hq; exact hk⟩
    | c + 13 => exact ⟨(0, fun _ => 0), fun q hq => by simp [jcl] at hq⟩
  obtain ⟨f, hf⟩ := Classical.axiomOfChoice key
  exact ⟨(fun c => (f c).1, fun c => (f c).2), fun c q hq => hf c q hq⟩
theorem st_arr {s : State} {args : Array Value} (ty : FieldType) (hra : ∀ U : State, ∀ c, U.vm.findClass ("[" ++ ty.toString) = some c → va_RA U c ty) (h : (Cond.arrayClass ty).before args s = true) : ∃ cA : ClassId, ArrOfT s cA ty ∧ va_RA s cA ty := by
  obtain ⟨cA, kA, comp, h1, h2, h3⟩ := Cond.arrayClass_spec h
  exact ⟨cA, fun n z => ⟨fun k h => (by cases h), kA, h2, comp, h3⟩, hra _ _ h1⟩
def st_tm (i : Nat) : Term := if i = 0 then .string "HingeTown$Tape" 17 else .string "HingeTown$Tape" 61
def st_fl : List Cond := flatC (Jvm.Cond.and given_1 narrow_1)
theorem st_c1 : ∀ i, i < 2 → Cond.exactly (st_tm i) "java/lang/String" ∈ st_fl := by decide +kernel
theorem st_c2 : ∀ i, i < 2 → Cond.eq (.field (st_tm i) "java/lang/String" "coder" "B") (.int 0) ∈ st_fl := by decide +kernel
theorem st_c3 : ∀ i, i < 2 → Cond.arrayOf (.field (st_tm i) "java/lang/String" "value" "[B") .byte ∈ st_fl := by decide +kernel
theorem st_c4 : ∀ i, i < 2 → Cond.eq (.length (.field (st_tm i) "java/lang/String" "value" "[B")) (.int (Int32.ofNat (([98, 11] : List Nat).getD i 0))) ∈ st_fl := by decide +kernel
theorem st_c5 : ∀ i, i < 2 → ∀ j, j < ([98, 11] : List Nat).getD i 0 → Cond.eq (.elem (.field (st_tm i) "java/lang/String" "value" "[B") (.int (Int32.ofNat j))) (.int ((txB.getD i []).getD j 0)) ∈ st_fl := by decide +kernel
theorem st_c6 : Cond.not (Cond.eq (st_tm 0) (st_tm 1)) ∈ st_fl := by decide +kernel
theorem st_c7 : Cond.eq (.static "java/lang/String" "COMPACT_STRINGS" "Z") (.int 1) ∈ st_fl := by decide +kernel
theorem st_w1 : Cond.stringRef "HingeTown$Tape" 17 tx0 ∈ lw_tbl := List.mem_of_getElem? (i := 142) (by decide +kernel)
theorem st_w2 : Cond.stringRef "HingeTown$Tape" 61 tx1 ∈ lw_tbl := List.mem_of_getElem? (i := 676) (by decide +kernel)
theorem st_w3 : Cond.laysStatic "java/lang/String" "COMPACT_STRINGS" "Z" ∈ lw_tbl := List.mem_of_getElem? (i := 152) (by decide +kernel)
theorem st_w4 : Cond.initialized "java/lang/String" ∈ lw_tbl := List.mem_of_getElem? (i := 108) (by decide +kernel)
theorem st_c8 : Cond.isRef (.static "jdk/internal/util/Preconditions" "SIOOBE_FORMATTER" "Ljava/util/function/BiFunction;") ∈ st_fl := by decide +kernel
theorem st_w5 : Cond.laysStatic "jdk/internal/util/Preconditions" "SIOOBE_FORMATTER" "Ljava/util/function/BiFunction;" ∈ lw_tbl := List.mem_of_getElem? (i := 168) (by decide +kernel)
theorem st_w6 : Cond.initialized "jdk/internal/util/Preconditions" ∈ lw_tbl := List.mem_of_getElem? (i := 110) (by decide +kernel)
theorem st_nw : ∀ w ∈ nestW, w ∈ lw_tbl := fun w hw => List.mem_append_right _ (List.mem_filter.mp hw).1
theorem law_setup {s : State} {b : Nat} (htb : ∀ w ∈ lw_tbl, w.before #[Value.ref b] s = true) (hgv : (Jvm.Cond.and given_1 narrow_1).before #[Value.ref b] s = true) : ∃ G : Gt, va_K G.1 jcl (tyG G) s ∧ NY G (fun q => s.heap.size ≤ q) s := by
  have hts : ∀ w ∈ WT, w.before #[Value.ref b] s = true := fun w hw => htb w (List.mem_filter.mp hw).1
  have hf := flat_of_before _ hgv
  obtain ⟨D, hD⟩ := st_cls hts
  obtain ⟨cI, a1, a2⟩ := st_arr .int (fun _ _ h => h) (hts _ aw_int)
  obtain ⟨cB, b1, b2⟩ := st_arr .byte (fun _ _ h => h) (hts _ aw_byte)
  obtain ⟨cJ, c1, c2⟩ := st_arr .long (fun _ _ h => h) (hts _ aw_long)
  obtain ⟨cZ, d1, d2⟩ := st_arr .boolean (fun _ _ h => h) (hts _ aw_boolean)
  have hA : ∀ a : Nat, a < s.heap.size → ¬ (fun q => s.heap.size ≤ q) a := fun a h => Nat.not_le.mpr h
  obtain ⟨adK, adV, hSt, hev⟩ := vk_Sof (args := #[Value.ref b]) (s := s) (N := 2) (tm := st_tm) (len := [98, 11]) (byt := txB) (A := fun q => s.heap.size ≤ q) (by decide) (fun i hi => hf _ (st_c1 i hi)) (fun i hi => hf _ (st_c2 i hi)) (fun i hi => hf _ (st_c3 i hi)) (fun i hi => hf _ (st_c4 i hi)) (fun i hi j hj => hf _ (st_c5 i hi j hj)) (fun i j hi hj hij => by
    rcases (show (i = 0 ∧ j = 1) ∨ (i = 1 ∧ j = 0) by omega) with ⟨rfl, rfl⟩ | ⟨rfl, rfl⟩
    · exact Or.inl (hf _ st_c6)
    · exact Or.inr (hf _ st_c6)) hA
  have hZ : ZZ (fun q => s.heap.size ≤ q) s s.heap := ⟨va_Zof (htb _ st_w3) (htb _ st_w4) (va_eqi (hf _ st_c7)) hA, va_Zqof (htb _ st_w5) (htb _ st_w6) (hf _ st_c8) hA⟩
  refine ⟨(D, (cI, cB, cJ, cZ), fun k => if k < 2000 then adK (k - 1000) else adV (k - 2000)), ⟨hD, fun k q hk => ?_⟩, ?_, ?_, ?_, ?_, hZ⟩
  · match k, hk with
    | 0, hk => cases hk; exact ⟨a1, a2⟩
    | 1, hk => cases hk; exact ⟨b1, b2⟩
    | 2, hk => cases hk; exact ⟨c1, c2⟩
    | 3, hk => cases hk; exact ⟨d1, d2⟩
    | k + 4, hk => simp [tyG] at hk
  · intro w hw
    have h1 := (List.mem_filter.mp hw).2
    have h2 := htb w (st_nw w hw)
    cases w <;> first | exact va_Nw.of rfl h2 | (exact absurd h1 (by simp [isNest]))
  · exact vk_R.of (htb _ st_w1) (hev 0 (by omega))
  · exact vk_R.of (htb _ st_w2) (hev 1 (by omega))
  · refine ⟨fun i hi => ?_, fun i j hi hj hij => ?_⟩
    · have := hSt.1 i hi
      simp only [show (1000 + i < 2000) by omega, if_true, show ¬ (2000 + i < 2000) by omega, if_false, Nat.add_sub_cancel_left] at this ⊢
      exact this
    · simp only [show (1000 + i < 2000) by omega, show (1000 + j < 2000) by omega, if_true, Nat.add_sub_cancel_left] at hij
      exact hSt.2 i j hi hj hij
