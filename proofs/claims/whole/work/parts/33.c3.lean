theorem dX1_joyWith_0 : DD cX1_joyWith 0 (.iconst 0) 1 1 := ⟨by decide +kernel, rfl⟩
theorem dX1_joyWith_1 : DD cX1_joyWith 1 (.istore 4) 2 3 := ⟨by decide +kernel, rfl⟩
theorem dX1_joyWith_3 : DD cX1_joyWith 3 (.iconst 0) 1 4 := ⟨by decide +kernel, rfl⟩
theorem dX1_joyWith_4 : DD cX1_joyWith 4 (.istore 5) 2 6 := ⟨by decide +kernel, rfl⟩
theorem dX1_joyWith_6 : DD cX1_joyWith 6 (.iload 5) 2 8 := ⟨by decide +kernel, rfl⟩
theorem dX1_joyWith_8 : DD cX1_joyWith 8 (.aload_n 0) 1 9 := ⟨by decide +kernel, rfl⟩
theorem dX1_joyWith_9 : DD cX1_joyWith 9 (.getfield 46) 3 12 := ⟨by decide +kernel, rfl⟩
theorem dX1_joyWith_12 : DD cX1_joyWith 12 (.if_icmp .ge 43) 3 15 := ⟨by decide +kernel, rfl⟩
theorem dX1_joyWith_15 : DD cX1_joyWith 15 (.iload 5) 2 17 := ⟨by decide +kernel, rfl⟩
theorem dX1_joyWith_17 : DD cX1_joyWith 17 (.iload_n 1) 1 18 := ⟨by decide +kernel, rfl⟩
theorem dX1_joyWith_18 : DD cX1_joyWith 18 (.if_icmp .eq 31) 3 21 := ⟨by decide +kernel, rfl⟩
theorem dX1_joyWith_21 : DD cX1_joyWith 21 (.iload 4) 2 23 := ⟨by decide +kernel, rfl⟩
theorem dX1_joyWith_23 : DD cX1_joyWith 23 (.aload_n 0) 1 24 := ⟨by decide +kernel, rfl⟩
theorem dX1_joyWith_24 : DD cX1_joyWith 24 (.getfield 19) 3 27 := ⟨by decide +kernel, rfl⟩
theorem dX1_joyWith_27 : DD cX1_joyWith 27 (.iload_n 1) 1 28 := ⟨by decide +kernel, rfl⟩
theorem dX1_joyWith_28 : DD cX1_joyWith 28 (.iload_n 2) 1 29 := ⟨by decide +kernel, rfl⟩
theorem dX1_joyWith_29 : DD cX1_joyWith 29 (.invokestatic 104) 3 32 := ⟨by decide +kernel, rfl⟩
theorem dX1_joyWith_32 : DD cX1_joyWith 32 (.bipush 21) 2 34 := ⟨by decide +kernel, rfl⟩
theorem dX1_joyWith_34 : DD cX1_joyWith 34 (.imul) 1 35 := ⟨by decide +kernel, rfl⟩
theorem dX1_joyWith_35 : DD cX1_joyWith 35 (.iload 5) 2 37 := ⟨by decide +kernel, rfl⟩
theorem dX1_joyWith_37 : DD cX1_joyWith 37 (.aload_n 3) 1 38 := ⟨by decide +kernel, rfl⟩
theorem dX1_joyWith_38 : DD cX1_joyWith 38 (.iload 5) 2 40 := ⟨by decide +kernel, rfl⟩
theorem dX1_joyWith_40 : DD cX1_joyWith 40 (.iaload) 1 41 := ⟨by decide +kernel, rfl⟩
theorem dX1_joyWith_41 : DD cX1_joyWith 41 (.invokestatic 104) 3 44 := ⟨by decide +kernel, rfl⟩
theorem dX1_joyWith_44 : DD cX1_joyWith 44 (.iadd) 1 45 := ⟨by decide +kernel, rfl⟩
theorem dX1_joyWith_45 : DD cX1_joyWith 45 (.iaload) 1 46 := ⟨by decide +kernel, rfl⟩
theorem dX1_joyWith_46 : DD cX1_joyWith 46 (.iadd) 1 47 := ⟨by decide +kernel, rfl⟩
theorem dX1_joyWith_47 : DD cX1_joyWith 47 (.istore 4) 2 49 := ⟨by decide +kernel, rfl⟩
theorem dX1_joyWith_49 : DD cX1_joyWith 49 (.iinc 5 1) 3 52 := ⟨by decide +kernel, rfl⟩
theorem dX1_joyWith_52 : DD cX1_joyWith 52 (.goto (-46)) 3 55 := ⟨by decide +kernel, rfl⟩
theorem dX1_joyWith_55 : DD cX1_joyWith 55 (.iload 4) 2 57 := ⟨by decide +kernel, rfl⟩
theorem dX1_joyWith_57 : DD cX1_joyWith 57 (.ireturn) 1 58 := ⟨by decide +kernel, rfl⟩
def gX1_joyWith (m : Mem) : Nat → Int32 → Int32 → Int32 → Int32 → Option Int32
  | 0, _, _, _, _ => none
  | f + 1, x1, x2, x4, x5 => (if (m.1 58 0) ≤ x5 then (some x4) else (if x5 = x1 then (gX1_joyWith m f x1 x2 x4 (x5 + (1 : Int32))) else (cP (fX1_placeOf x1 x2) fun r3 => (rd (m.1 73) 7 x5 fun v5 => (cP (fX1_placeOf x5 v5) fun r6 => (rd (m.1 60) 441 ((r3 * (21 : Int32)) + r6) fun v8 => (nm (x4 + v8) fun v9 => (gX1_joyWith m f x1 x2 v9 (x5 + (1 : Int32))))))))))
def fX1_joyWith (m : Mem) (x1 : Int32) (x2 : Int32) : Option Int32 := (gX1_joyWith m 5000 x1 x2 (0 : Int32) (0 : Int32))
set_option maxHeartbeats 4000000 in
set_option maxRecDepth 100000 in
theorem wX1_joyWith {X : Cx} {G : Gt} (h : OkX (X, G, wC, nC) cX1_joyWith RX1 6 (some .int) 2) (m : Mem) : ∀ f : Nat, (∀ (x1 : Int32) (x2 : Int32) (x4 : Int32) (x5 : Int32), JR (X, G, wC, nC) (cvP m) m 6 [some (.ref (G.2.2 58)), some (.int x1), some (.int x2), some (.ref (G.2.2 73)), some (.int x4), some (.int x5)] [] (gX1_joyWith m f x1 x2 x4 x5)) := by
  intro f
  induction f with
  | zero => exact (fun _ _ _ _ => j_none)
  | succ f ih =>
    intro x1 x2 x4 x5
    rw [gX1_joyWith]
    refine j_iload h dX1_joyWith_6 rfl ?_
    refine j_aload_n h dX1_joyWith_8 rfl ?_
    refine gC1_46 h dX1_joyWith_9 ?_
    refine j_icmp_ge (tgt := 55) h dX1_joyWith_12 (by decide) (fun c1 => ?_) (fun c1 => ?_)
    · refine j_iload h dX1_joyWith_55 rfl ?_
      exact j_iret h rfl dX1_joyWith_57
    · refine j_iload h dX1_joyWith_15 rfl ?_
      refine j_iload_n h dX1_joyWith_17 rfl ?_
      refine j_icmp_eq (tgt := 49) h dX1_joyWith_18 (by decide) (fun c2 => ?_) (fun c2 => ?_)
      · refine j_iinc (v := (x5 + (1 : Int32))) h dX1_joyWith_49 rfl (by rw [kiconst_1]) rfl ?_
        refine j_goto (tgt := 6) h dX1_joyWith_52 (by decide) ?_
        refine j_wk (ls' := [some (.ref (G.2.2 58)), some (.int x1), some (.int x2), some (.ref (G.2.2 73)), some (.int x4), some (.int (x5 + (1 : Int32)))]) (And.intro rfl (And.intro rfl (And.intro rfl (And.intro rfl (And.intro rfl (And.intro rfl trivial)))))) ?_
        exact ih x1 x2 x4 (x5 + (1 : Int32))
      · refine j_iload h dX1_joyWith_21 rfl ?_
        refine j_aload_n h dX1_joyWith_23 rfl ?_
        refine gC1_19 h dX1_joyWith_24 ?_
        refine j_iload_n h dX1_joyWith_27 rfl ?_
        refine j_iload_n h dX1_joyWith_28 rfl ?_
        refine j_callSP h [.int x1, .int x2] (kX1_placeOf _ G h.2.2.2.2.2.2.2.2.2.2 m x1 x2) okX1_placeOf stX1_placeOf ml1_104 rfl rfl (by decide) (by decide) (Nat.le_of_ble_eq_true rfl) rfl dX1_joyWith_29 (fun r3 hr3 => ?_)
        refine j_bipush (v := (21 : Int32)) h dX1_joyWith_32 kbipush_21 ?_
        refine j_imul h dX1_joyWith_34 ?_
        refine j_iload h dX1_joyWith_35 rfl ?_
        refine j_aload_n h dX1_joyWith_37 rfl ?_
        refine j_iload h dX1_joyWith_38 rfl ?_
        refine aC_73 h dX1_joyWith_40 (fun v5 hv5 => ?_)
        refine j_callSP h [.int x5, .int v5] (kX1_placeOf _ G h.2.2.2.2.2.2.2.2.2.2 m x5 v5) okX1_placeOf stX1_placeOf ml1_104 rfl rfl (by decide) (by decide) (Nat.le_of_ble_eq_true rfl) rfl dX1_joyWith_41 (fun r6 hr6 => ?_)
        refine j_iadd h dX1_joyWith_44 ?_
        refine aC_60 h dX1_joyWith_45 (fun v8 hv8 => ?_)
        refine j_iadd h dX1_joyWith_46 ?_
        refine j_nm (fun v9 hv9 => ?_)
        refine j_istore h dX1_joyWith_47 rfl rfl ?_
        refine j_iinc (v := (x5 + (1 : Int32))) h dX1_joyWith_49 rfl (by rw [kiconst_1]) rfl ?_
        refine j_goto (tgt := 6) h dX1_joyWith_52 (by decide) ?_
        refine j_wk (ls' := [some (.ref (G.2.2 58)), some (.int x1), some (.int x2), some (.ref (G.2.2 73)), some (.int v9), some (.int (x5 + (1 : Int32)))]) (And.intro rfl (And.intro rfl (And.intro rfl (And.intro rfl (And.intro rfl (And.intro rfl trivial)))))) ?_
        exact ih x1 x2 v9 (x5 + (1 : Int32))
set_option maxHeartbeats 4000000 in
set_option maxRecDepth 100000 in
theorem kX1_joyWith (l : Launch) (G : Gt) (hD : ∀ m, va_D (inA G nC) (wC G m)) (m : Mem) (x1 : Int32) (x2 : Int32) : ∀ a, fX1_joyWith m x1 x2 = some a → Ct l G wC nC yX1_joyWith cX1_joyWith 6 (some .int) 2 [.ref (G.2.2 58), .int x1, .int x2, .ref (G.2.2 73)] m ((cvP m) a) := by
  refine ct_of (own := RX1) (ls0 := [some (.ref (G.2.2 58)), some (.int x1), some (.int x2), some (.ref (G.2.2 73)), none, none]) (by decide) rfl rfl rfl (Nat.le_of_ble_eq_true rfl) hD (fun X h => ?_) l
  unfold fX1_joyWith
  refine j_iconst (v := (0 : Int32)) h dX1_joyWith_0 kiconst_0 ?_
  refine j_istore h dX1_joyWith_1 rfl rfl ?_
  refine j_iconst (v := (0 : Int32)) h dX1_joyWith_3 kiconst_0 ?_
  refine j_istore h dX1_joyWith_4 rfl rfl ?_
  refine j_wk (ls' := [some (.ref (G.2.2 58)), some (.int x1), some (.int x2), some (.ref (G.2.2 73)), some (.int (0 : Int32)), some (.int (0 : Int32))]) (And.intro rfl (And.intro rfl (And.intro rfl (And.intro rfl (And.intro rfl (And.intro rfl trivial)))))) ?_
  exact (wX1_joyWith h m 5000) x1 x2 (0 : Int32) (0 : Int32)
theorem dX1_goRound_0 : DD cX1_goRound 0 (.iconst 0) 1 1 := ⟨by decide +kernel, rfl⟩
theorem dX1_goRound_1 : DD cX1_goRound 1 (.istore_n 2) 1 2 := ⟨by decide +kernel, rfl⟩
theorem dX1_goRound_2 : DD cX1_goRound 2 (.iconst 0) 1 3 := ⟨by decide +kernel, rfl⟩
theorem dX1_goRound_3 : DD cX1_goRound 3 (.istore_n 3) 1 4 := ⟨by decide +kernel, rfl⟩
theorem dX1_goRound_4 : DD cX1_goRound 4 (.iload_n 3) 1 5 := ⟨by decide +kernel, rfl⟩
theorem dX1_goRound_5 : DD cX1_goRound 5 (.aload_n 0) 1 6 := ⟨by decide +kernel, rfl⟩
theorem dX1_goRound_6 : DD cX1_goRound 6 (.getfield 46) 3 9 := ⟨by decide +kernel, rfl⟩
theorem dX1_goRound_9 : DD cX1_goRound 9 (.if_icmp .ge 78) 3 12 := ⟨by decide +kernel, rfl⟩
theorem dX1_goRound_12 : DD cX1_goRound 12 (.aload_n 1) 1 13 := ⟨by decide +kernel, rfl⟩
theorem dX1_goRound_13 : DD cX1_goRound 13 (.iload_n 3) 1 14 := ⟨by decide +kernel, rfl⟩
theorem dX1_goRound_14 : DD cX1_goRound 14 (.iaload) 1 15 := ⟨by decide +kernel, rfl⟩
theorem dX1_goRound_15 : DD cX1_goRound 15 (.istore 4) 2 17 := ⟨by decide +kernel, rfl⟩
theorem dX1_goRound_17 : DD cX1_goRound 17 (.iconst 0) 1 18 := ⟨by decide +kernel, rfl⟩
theorem dX1_goRound_18 : DD cX1_goRound 18 (.istore 5) 2 20 := ⟨by decide +kernel, rfl⟩
theorem dX1_goRound_20 : DD cX1_goRound 20 (.iload 5) 2 22 := ⟨by decide +kernel, rfl⟩
theorem dX1_goRound_22 : DD cX1_goRound 22 (.iconst 3) 1 23 := ⟨by decide +kernel, rfl⟩
theorem dX1_goRound_23 : DD cX1_goRound 23 (.if_icmp .ge 37) 3 26 := ⟨by decide +kernel, rfl⟩
theorem dX1_goRound_26 : DD cX1_goRound 26 (.aload_n 0) 1 27 := ⟨by decide +kernel, rfl⟩
theorem dX1_goRound_27 : DD cX1_goRound 27 (.iload_n 3) 1 28 := ⟨by decide +kernel, rfl⟩
theorem dX1_goRound_28 : DD cX1_goRound 28 (.iload 5) 2 30 := ⟨by decide +kernel, rfl⟩
theorem dX1_goRound_30 : DD cX1_goRound 30 (.aload_n 1) 1 31 := ⟨by decide +kernel, rfl⟩
theorem dX1_goRound_31 : DD cX1_goRound 31 (.invokevirtual 137) 3 34 := ⟨by decide +kernel, rfl⟩
theorem dX1_goRound_34 : DD cX1_goRound 34 (.aload_n 0) 1 35 := ⟨by decide +kernel, rfl⟩
theorem dX1_goRound_35 : DD cX1_goRound 35 (.iload_n 3) 1 36 := ⟨by decide +kernel, rfl⟩
theorem dX1_goRound_36 : DD cX1_goRound 36 (.iload 4) 2 38 := ⟨by decide +kernel, rfl⟩
theorem dX1_goRound_38 : DD cX1_goRound 38 (.aload_n 1) 1 39 := ⟨by decide +kernel, rfl⟩
theorem dX1_goRound_39 : DD cX1_goRound 39 (.invokevirtual 137) 3 42 := ⟨by decide +kernel, rfl⟩
theorem dX1_goRound_42 : DD cX1_goRound 42 (.if_icmp .le 8) 3 45 := ⟨by decide +kernel, rfl⟩
theorem dX1_goRound_45 : DD cX1_goRound 45 (.iload 5) 2 47 := ⟨by decide +kernel, rfl⟩
theorem dX1_goRound_47 : DD cX1_goRound 47 (.goto 5) 3 50 := ⟨by decide +kernel, rfl⟩
theorem dX1_goRound_50 : DD cX1_goRound 50 (.iload 4) 2 52 := ⟨by decide +kernel, rfl⟩
theorem dX1_goRound_52 : DD cX1_goRound 52 (.istore 4) 2 54 := ⟨by decide +kernel, rfl⟩
theorem dX1_goRound_54 : DD cX1_goRound 54 (.iinc 5 1) 3 57 := ⟨by decide +kernel, rfl⟩
theorem dX1_goRound_57 : DD cX1_goRound 57 (.goto (-37)) 3 60 := ⟨by decide +kernel, rfl⟩
theorem dX1_goRound_60 : DD cX1_goRound 60 (.iload_n 2) 1 61 := ⟨by decide +kernel, rfl⟩
theorem dX1_goRound_61 : DD cX1_goRound 61 (.iload 4) 2 63 := ⟨by decide +kernel, rfl⟩
theorem dX1_goRound_63 : DD cX1_goRound 63 (.aload_n 1) 1 64 := ⟨by decide +kernel, rfl⟩
theorem dX1_goRound_64 : DD cX1_goRound 64 (.iload_n 3) 1 65 := ⟨by decide +kernel, rfl⟩
theorem dX1_goRound_65 : DD cX1_goRound 65 (.iaload) 1 66 := ⟨by decide +kernel, rfl⟩
theorem dX1_goRound_66 : DD cX1_goRound 66 (.if_icmp .eq 7) 3 69 := ⟨by decide +kernel, rfl⟩
theorem dX1_goRound_69 : DD cX1_goRound 69 (.iconst 1) 1 70 := ⟨by decide +kernel, rfl⟩
theorem dX1_goRound_70 : DD cX1_goRound 70 (.goto 4) 3 73 := ⟨by decide +kernel, rfl⟩
theorem dX1_goRound_73 : DD cX1_goRound 73 (.iconst 0) 1 74 := ⟨by decide +kernel, rfl⟩
theorem dX1_goRound_74 : DD cX1_goRound 74 (.ior) 1 75 := ⟨by decide +kernel, rfl⟩
theorem dX1_goRound_75 : DD cX1_goRound 75 (.istore_n 2) 1 76 := ⟨by decide +kernel, rfl⟩
theorem dX1_goRound_76 : DD cX1_goRound 76 (.aload_n 1) 1 77 := ⟨by decide +kernel, rfl⟩
theorem dX1_goRound_77 : DD cX1_goRound 77 (.iload_n 3) 1 78 := ⟨by decide +kernel, rfl⟩
theorem dX1_goRound_78 : DD cX1_goRound 78 (.iload 4) 2 80 := ⟨by decide +kernel, rfl⟩
theorem dX1_goRound_80 : DD cX1_goRound 80 (.iastore) 1 81 := ⟨by decide +kernel, rfl⟩
theorem dX1_goRound_81 : DD cX1_goRound 81 (.iinc 3 1) 3 84 := ⟨by decide +kernel, rfl⟩
theorem dX1_goRound_84 : DD cX1_goRound 84 (.goto (-80)) 3 87 := ⟨by decide +kernel, rfl⟩
theorem dX1_goRound_87 : DD cX1_goRound 87 (.iload_n 2) 1 88 := ⟨by decide +kernel, rfl⟩
theorem dX1_goRound_88 : DD cX1_goRound 88 (.ireturn) 1 89 := ⟨by decide +kernel, rfl⟩
def gX1_goRound : Nat → Nat → Int32 → Int32 → Int32 → Int32 → Mem → Option (Int32 × Mem)
  | 0, _, _, _, _, _, _ => none
  | f + 1, 0, x2, x3, x4, x5, m => (if (m.1 58 0) ≤ x3 then (tz x2 (some (x2, m))) else (rd (m.1 73) 7 x3 fun v2 => (gX1_goRound f 1 x2 x3 v2 (0 : Int32) m)))
  | f + 1, 1, x2, x3, x4, x5, m => (if (3 : Int32) ≤ x5 then (rd (m.1 73) 7 x3 fun v2 => (if x4 = v2 then (nm (x2 ||| (0 : Int32)) fun v4 => (wr m 73 7 x3 x4 fun m5 => (gX1_goRound f 0 v4 (x3 + (1 : Int32)) 0 0 m5))) else (nm (x2 ||| (1 : Int32)) fun v6 => (wr m 73 7 x3 x4 fun m7 => (gX1_goRound f 0 v6 (x3 + (1 : Int32)) 0 0 m7))))) else (cP (fX1_joyWith m x3 x5) fun r8 => (cP (fX1_joyWith m x3 x4) fun r10 => (if r8 ≤ r10 then (gX1_goRound f 1 x2 x3 x4 (x5 + (1 : Int32)) m) else (gX1_goRound f 1 x2 x3 x5 (x5 + (1 : Int32)) m)))))
  | _ + 1, _ + 2, _, _, _, _, _ => none
def fX1_goRound (m : Mem) : Option (Int32 × Mem) := (gX1_goRound 5000 0 (0 : Int32) (0 : Int32) 0 0 m)
set_option maxHeartbeats 4000000 in
set_option maxRecDepth 100000 in
theorem wX1_goRound {X : Cx} {G : Gt} (h : OkX (X, G, wC, nC) cX1_goRound RX1 6 (some .boolean) 3) : ∀ f : Nat, (∀ (x2 : Int32) (x3 : Int32) (x4 : Int32) (x5 : Int32) (m : Mem), JR (X, G, wC, nC) cvI m 4 [some (.ref (G.2.2 58)), some (.ref (G.2.2 73)), some (.int x2), some (.int x3), none, none] [] (gX1_goRound f 0 x2 x3 x4 x5 m)) ∧ (∀ (x2 : Int32) (x3 : Int32) (x4 : Int32) (x5 : Int32) (m : Mem), JR (X, G, wC, nC) cvI m 20 [some (.ref (G.2.2 58)), some (.ref (G.2.2 73)), some (.int x2), some (.int x3), some (.int x4), some (.int x5)] [] (gX1_goRound f 1 x2 x3 x4 x5 m)) := by
  intro f
  induction f with
  | zero => exact ⟨(fun _ _ _ _ _ => j_none), (fun _ _ _ _ _ => j_none)⟩
  | succ f ih =>
    refine ⟨?_, ?_⟩
    · intro x2 x3 x4 x5 m
      rw [gX1_goRound]
      refine j_iload_n h dX1_goRound_4 rfl ?_
      refine j_aload_n h dX1_goRound_5 rfl ?_
      refine gC1_46 h dX1_goRound_6 ?_
      refine j_icmp_ge (tgt := 87) h dX1_goRound_9 (by decide) (fun c1 => ?_) (fun c1 => ?_)
      · refine j_iload_n h dX1_goRound_87 rfl ?_
        exact j_zret h rfl dX1_goRound_88
      · refine j_aload_n h dX1_goRound_12 rfl ?_
        refine j_iload_n h dX1_goRound_13 rfl ?_
        refine aC_73 h dX1_goRound_14 (fun v2 hv2 => ?_)
        refine j_istore h dX1_goRound_15 rfl rfl ?_
        refine j_iconst (v := (0 : Int32)) h dX1_goRound_17 kiconst_0 ?_
        refine j_istore h dX1_goRound_18 rfl rfl ?_
        refine j_wk (ls' := [some (.ref (G.2.2 58)), some (.ref (G.2.2 73)), some (.int x2), some (.int x3), some (.int v2), some (.int (0 : Int32))]) (And.intro rfl (And.intro rfl (And.intro rfl (And.intro rfl (And.intro rfl (And.intro rfl trivial)))))) ?_
        exact ih.2 x2 x3 v2 (0 : Int32) m
    · intro x2 x3 x4 x5 m
      rw [gX1_goRound]
      refine j_iload h dX1_goRound_20 rfl ?_
      refine j_iconst (v := (3 : Int32)) h dX1_goRound_22 kiconst_3 ?_
      refine j_icmp_ge (tgt := 60) h dX1_goRound_23 (by decide) (fun c1 => ?_) (fun c1 => ?_)
      · refine j_iload_n h dX1_goRound_60 rfl ?_
        refine j_iload h dX1_goRound_61 rfl ?_
        refine j_aload_n h dX1_goRound_63 rfl ?_
        refine j_iload_n h dX1_goRound_64 rfl ?_
        refine aC_73 h dX1_goRound_65 (fun v2 hv2 => ?_)
        refine j_icmp_eq (tgt := 73) h dX1_goRound_66 (by decide) (fun c3 => ?_) (fun c3 => ?_)
        · refine j_iconst (v := (0 : Int32)) h dX1_goRound_73 kiconst_0 ?_
          refine j_ior h dX1_goRound_74 ?_
          refine j_nm (fun v4 hv4 => ?_)
          refine j_istore_n h dX1_goRound_75 rfl rfl ?_
          refine j_aload_n h dX1_goRound_76 rfl ?_
          refine j_iload_n h dX1_goRound_77 rfl ?_
          refine j_iload h dX1_goRound_78 rfl ?_
          refine bC_73 h dX1_goRound_80 (fun m5 hm5 => ?_)
          refine j_iinc (v := (x3 + (1 : Int32))) h dX1_goRound_81 rfl (by rw [kiconst_1]) rfl ?_
          refine j_goto (tgt := 4) h dX1_goRound_84 (by decide) ?_
          refine j_wk (ls' := [some (.ref (G.2.2 58)), some (.ref (G.2.2 73)), some (.int v4), some (.int (x3 + (1 : Int32))), none, none]) (And.intro rfl (And.intro rfl (And.intro rfl (And.intro rfl trivial)))) ?_
          exact ih.1 v4 (x3 + (1 : Int32)) 0 0 m5
        · refine j_iconst (v := (1 : Int32)) h dX1_goRound_69 kiconst_1 ?_
          refine j_goto (tgt := 74) h dX1_goRound_70 (by decide) ?_
          refine j_ior h dX1_goRound_74 ?_
          refine j_nm (fun v6 hv6 => ?_)
          refine j_istore_n h dX1_goRound_75 rfl rfl ?_
          refine j_aload_n h dX1_goRound_76 rfl ?_
          refine j_iload_n h dX1_goRound_77 rfl ?_
          refine j_iload h dX1_goRound_78 rfl ?_
          refine bC_73 h dX1_goRound_80 (fun m7 hm7 => ?_)
          refine j_iinc (v := (x3 + (1 : Int32))) h dX1_goRound_81 rfl (by rw [kiconst_1]) rfl ?_
          refine j_goto (tgt := 4) h dX1_goRound_84 (by decide) ?_
          refine j_wk (ls' := [some (.ref (G.2.2 58)), some (.ref (G.2.2 73)), some (.int v6), some (.int (x3 + (1 : Int32))), none, none]) (And.intro rfl (And.intro rfl (And.intro rfl (And.intro rfl trivial)))) ?_
          exact ih.1 v6 (x3 + (1 : Int32)) 0 0 m7
      · refine j_aload_n h dX1_goRound_26 rfl ?_
        refine j_iload_n h dX1_goRound_27 rfl ?_
        refine j_iload h dX1_goRound_28 rfl ?_
        refine j_aload_n h dX1_goRound_30 rfl ?_
        refine j_callVP (q0 := 58) (ci := 1) h [.int x3, .int x5, .ref (G.2.2 73)] (kX1_joyWith _ G h.2.2.2.2.2.2.2.2.2.2 m x3 x5) okX1_joyWith inX1_joyWith ml1_137 rfl rfl rfl rfl (by decide) (by decide) (Nat.le_of_ble_eq_true rfl) rfl dX1_goRound_31 (fun r8 hr8 => ?_)
        refine j_aload_n h dX1_goRound_34 rfl ?_
        refine j_iload_n h dX1_goRound_35 rfl ?_
        refine j_iload h dX1_goRound_36 rfl ?_
        refine j_aload_n h dX1_goRound_38 rfl ?_
        refine j_callVP (q0 := 58) (ci := 1) h [.int x3, .int x4, .ref (G.2.2 73)] (kX1_joyWith _ G h.2.2.2.2.2.2.2.2.2.2 m x3 x4) okX1_joyWith inX1_joyWith ml1_137 rfl rfl rfl rfl (by decide) (by decide) (Nat.le_of_ble_eq_true rfl) rfl dX1_goRound_39 (fun r10 hr10 => ?_)
        refine j_icmp_le (tgt := 50) h dX1_goRound_42 (by decide) (fun c12 => ?_) (fun c12 => ?_)
        · refine j_iload h dX1_goRound_50 rfl ?_
          refine j_istore h dX1_goRound_52 rfl rfl ?_
          refine j_iinc (v := (x5 + (1 : Int32))) h dX1_goRound_54 rfl (by rw [kiconst_1]) rfl ?_
          refine j_goto (tgt := 20) h dX1_goRound_57 (by decide) ?_
          refine j_wk (ls' := [some (.ref (G.2.2 58)), some (.ref (G.2.2 73)), some (.int x2), some (.int x3), some (.int x4), some (.int (x5 + (1 : Int32)))]) (And.intro rfl (And.intro rfl (And.intro rfl (And.intro rfl (And.intro rfl (And.intro rfl trivial)))))) ?_
          exact ih.2 x2 x3 x4 (x5 + (1 : Int32)) m
        · refine j_iload h dX1_goRound_45 rfl ?_
          refine j_goto (tgt := 52) h dX1_goRound_47 (by decide) ?_
          refine j_istore h dX1_goRound_52 rfl rfl ?_
          refine j_iinc (v := (x5 + (1 : Int32))) h dX1_goRound_54 rfl (by rw [kiconst_1]) rfl ?_
          refine j_goto (tgt := 20) h dX1_goRound_57 (by decide) ?_
          refine j_wk (ls' := [some (.ref (G.2.2 58)), some (.ref (G.2.2 73)), some (.int x2), some (.int x3), some (.int x5), some (.int (x5 + (1 : Int32)))]) (And.intro rfl (And.intro rfl (And.intro rfl (And.intro rfl (And.intro rfl (And.intro rfl trivial)))))) ?_
          exact ih.2 x2 x3 x5 (x5 + (1 : Int32)) m
set_option maxHeartbeats 4000000 in
set_option maxRecDepth 100000 in
theorem kX1_goRound (l : Launch) (G : Gt) (hD : ∀ m, va_D (inA G nC) (wC G m)) (m : Mem) : ∀ a, fX1_goRound m = some a → Ct l G wC nC yX1_goRound cX1_goRound 6 (some .boolean) 3 [.ref (G.2.2 58), .ref (G.2.2 73)] m (cvI a) := by
  refine ct_of (own := RX1) (ls0 := [some (.ref (G.2.2 58)), some (.ref (G.2.2 73)), none, none, none, none]) (by decide) rfl rfl rfl (Nat.le_of_ble_eq_true rfl) hD (fun X h => ?_) l
  unfold fX1_goRound
  refine j_iconst (v := (0 : Int32)) h dX1_goRound_0 kiconst_0 ?_
  refine j_istore_n h dX1_goRound_1 rfl rfl ?_
  refine j_iconst (v := (0 : Int32)) h dX1_goRound_2 kiconst_0 ?_
  refine j_istore_n h dX1_goRound_3 rfl rfl ?_
  refine j_wk (ls' := [some (.ref (G.2.2 58)), some (.ref (G.2.2 73)), some (.int (0 : Int32)), some (.int (0 : Int32)), none, none]) (And.intro rfl (And.intro rfl (And.intro rfl (And.intro rfl trivial)))) ?_
  exact (wX1_goRound h 5000).1 (0 : Int32) (0 : Int32) 0 0 m
theorem dX1_comeToRest_0 : DD cX1_comeToRest 0 (.aload_n 0) 1 1 := ⟨by decide +kernel, rfl⟩
theorem dX1_comeToRest_1 : DD cX1_comeToRest 1 (.getfield 13) 3 4 := ⟨by decide +kernel, rfl⟩
theorem dX1_comeToRest_4 : DD cX1_comeToRest 4 (.iconst 0) 1 5 := ⟨by decide +kernel, rfl⟩
theorem dX1_comeToRest_5 : DD cX1_comeToRest 5 (.aload_n 1) 1 6 := ⟨by decide +kernel, rfl⟩
theorem dX1_comeToRest_6 : DD cX1_comeToRest 6 (.iconst 0) 1 7 := ⟨by decide +kernel, rfl⟩
theorem dX1_comeToRest_7 : DD cX1_comeToRest 7 (.aload_n 0) 1 8 := ⟨by decide +kernel, rfl⟩
theorem dX1_comeToRest_8 : DD cX1_comeToRest 8 (.getfield 46) 3 11 := ⟨by decide +kernel, rfl⟩
theorem dX1_comeToRest_11 : DD cX1_comeToRest 11 (.invokestatic 56) 3 14 := ⟨by decide +kernel, rfl⟩
theorem dX1_comeToRest_14 : DD cX1_comeToRest 14 (.iconst 0) 1 15 := ⟨by decide +kernel, rfl⟩
theorem dX1_comeToRest_15 : DD cX1_comeToRest 15 (.istore_n 2) 1 16 := ⟨by decide +kernel, rfl⟩
theorem dX1_comeToRest_16 : DD cX1_comeToRest 16 (.iload_n 2) 1 17 := ⟨by decide +kernel, rfl⟩
theorem dX1_comeToRest_17 : DD cX1_comeToRest 17 (.bipush 20) 2 19 := ⟨by decide +kernel, rfl⟩
theorem dX1_comeToRest_19 : DD cX1_comeToRest 19 (.if_icmp .gt 19) 3 22 := ⟨by decide +kernel, rfl⟩
theorem dX1_comeToRest_22 : DD cX1_comeToRest 22 (.aload_n 0) 1 23 := ⟨by decide +kernel, rfl⟩
theorem dX1_comeToRest_23 : DD cX1_comeToRest 23 (.aload_n 1) 1 24 := ⟨by decide +kernel, rfl⟩
theorem dX1_comeToRest_24 : DD cX1_comeToRest 24 (.invokevirtual 133) 3 27 := ⟨by decide +kernel, rfl⟩
theorem dX1_comeToRest_27 : DD cX1_comeToRest 27 (.ifCond .ne 5) 3 30 := ⟨by decide +kernel, rfl⟩
theorem dX1_comeToRest_30 : DD cX1_comeToRest 30 (.iload_n 2) 1 31 := ⟨by decide +kernel, rfl⟩
theorem dX1_comeToRest_31 : DD cX1_comeToRest 31 (.ireturn) 1 32 := ⟨by decide +kernel, rfl⟩
theorem dX1_comeToRest_32 : DD cX1_comeToRest 32 (.iinc 2 1) 3 35 := ⟨by decide +kernel, rfl⟩
theorem dX1_comeToRest_35 : DD cX1_comeToRest 35 (.goto (-19)) 3 38 := ⟨by decide +kernel, rfl⟩
theorem dX1_comeToRest_38 : DD cX1_comeToRest 38 (.iconst (-1)) 1 39 := ⟨by decide +kernel, rfl⟩
theorem dX1_comeToRest_39 : DD cX1_comeToRest 39 (.ireturn) 1 40 := ⟨by decide +kernel, rfl⟩
def gX1_comeToRest : Nat → Int32 → Mem → Option (Int32 × Mem)
  | 0, _, _ => none
  | f + 1, x2, m => (if (20 : Int32) < x2 then (some ((-1 : Int32), m)) else (cI (fX1_goRound m) fun r2 m3 => (if r2 = 0 then (some (x2, m3)) else (gX1_comeToRest f (x2 + (1 : Int32)) m3))))
def fX1_comeToRest (m : Mem) : Option (Int32 × Mem) := (cpy m 59 7 73 7 (0 : Int32) (0 : Int32) (m.1 58 0) fun m1 => (gX1_comeToRest 5000 (0 : Int32) m1))
set_option maxHeartbeats 4000000 in
set_option maxRecDepth 100000 in
theorem wX1_comeToRest {X : Cx} {G : Gt} (h : OkX (X, G, wC, nC) cX1_comeToRest RX1 3 (some .int) 4) : ∀ f : Nat, (∀ (x2 : Int32) (m : Mem), JR (X, G, wC, nC) cvI m 16 [some (.ref (G.2.2 58)), some (.ref (G.2.2 73)), some (.int x2)] [] (gX1_comeToRest f x2 m)) := by
  intro f
  induction f with
  | zero => exact (fun _ _ => j_none)
  | succ f ih =>
    intro x2 m
    rw [gX1_comeToRest]
    refine j_iload_n h dX1_comeToRest_16 rfl ?_
    refine j_bipush (v := (20 : Int32)) h dX1_comeToRest_17 kbipush_20 ?_
    refine j_icmp_gt (tgt := 38) h dX1_comeToRest_19 (by decide) (fun c1 => ?_) (fun c1 => ?_)
    · refine j_iconst (v := (-1 : Int32)) h dX1_comeToRest_38 kiconst_m1 ?_
      exact j_iret h rfl dX1_comeToRest_39
    · refine j_aload_n h dX1_comeToRest_22 rfl ?_
      refine j_aload_n h dX1_comeToRest_23 rfl ?_
      refine j_callVI (q0 := 58) (ci := 1) h [.ref (G.2.2 73)] (kX1_goRound _ G h.2.2.2.2.2.2.2.2.2.2 m) okX1_goRound inX1_goRound ml1_133 rfl rfl rfl rfl (by decide) (by decide) (Nat.le_of_ble_eq_true rfl) rfl dX1_comeToRest_24 (fun r2 m3 hr2 => ?_)
      refine j_if_ne (tgt := 32) h dX1_comeToRest_27 (by decide) (fun c4 => ?_) (fun c4 => ?_)
      · refine j_iinc (v := (x2 + (1 : Int32))) h dX1_comeToRest_32 rfl (by rw [kiconst_1]) rfl ?_
        refine j_goto (tgt := 16) h dX1_comeToRest_35 (by decide) ?_
        refine j_wk (ls' := [some (.ref (G.2.2 58)), some (.ref (G.2.2 73)), some (.int (x2 + (1 : Int32)))]) (And.intro rfl (And.intro rfl (And.intro rfl trivial))) ?_
        exact ih (x2 + (1 : Int32)) m3
      · refine j_iload_n h dX1_comeToRest_30 rfl ?_
        exact j_iret h rfl dX1_comeToRest_31
set_option maxHeartbeats 4000000 in
set_option maxRecDepth 100000 in
theorem kX1_comeToRest (l : Launch) (G : Gt) (hD : ∀ m, va_D (inA G nC) (wC G m)) (m : Mem) : ∀ a, fX1_comeToRest m = some a → Ct l G wC nC yX1_comeToRest cX1_comeToRest 3 (some .int) 4 [.ref (G.2.2 58), .ref (G.2.2 73)] m (cvI a) := by
  refine ct_of (own := RX1) (ls0 := [some (.ref (G.2.2 58)), some (.ref (G.2.2 73)), none]) (by decide) rfl rfl rfl (Nat.le_of_ble_eq_true rfl) hD (fun X h => ?_) l
  unfold fX1_comeToRest
  refine j_aload_n h dX1_comeToRest_0 rfl ?_
  refine gC1_13 h dX1_comeToRest_1 ?_
  refine j_iconst (v := (0 : Int32)) h dX1_comeToRest_4 kiconst_0 ?_
  refine j_aload_n h dX1_comeToRest_5 rfl ?_
  refine j_iconst (v := (0 : Int32)) h dX1_comeToRest_6 kiconst_0 ?_
  refine j_aload_n h dX1_comeToRest_7 rfl ?_
  refine gC1_46 h dX1_comeToRest_8 ?_
  refine j_copy (q0 := 59) (q1 := 73) h ml1_56 (at_59) (at_73) (se_73) (Nat.le_of_ble_eq_true rfl) rfl (by decide) dX1_comeToRest_11 (fun m1 hm1 => ?_)
  refine j_iconst (v := (0 : Int32)) h dX1_comeToRest_14 kiconst_0 ?_
  refine j_istore_n h dX1_comeToRest_15 rfl rfl ?_
  refine j_wk (ls' := [some (.ref (G.2.2 58)), some (.ref (G.2.2 73)), some (.int (0 : Int32))]) (And.intro rfl (And.intro rfl (And.intro rfl trivial))) ?_
  exact (wX1_comeToRest h 5000) (0 : Int32) m1
theorem dX3_clear_0 : DD cX3_clear 0 (.aload_n 0) 1 1 := ⟨by decide +kernel, rfl⟩
theorem dX3_clear_1 : DD cX3_clear 1 (.iconst 0) 1 2 := ⟨by decide +kernel, rfl⟩
theorem dX3_clear_2 : DD cX3_clear 2 (.putfield 16) 3 5 := ⟨by decide +kernel, rfl⟩
theorem dX3_clear_5 : DD cX3_clear 5 (.aload_n 0) 1 6 := ⟨by decide +kernel, rfl⟩
theorem dX3_clear_6 : DD cX3_clear 6 (.iconst 0) 1 7 := ⟨by decide +kernel, rfl⟩
theorem dX3_clear_7 : DD cX3_clear 7 (.putfield 20) 3 10 := ⟨by decide +kernel, rfl⟩
theorem dX3_clear_10 : DD cX3_clear 10 (.return_) 1 11 := ⟨by decide +kernel, rfl⟩
def fX3_clear (m : Mem) (x0 : Nat) : Option Mem := (gFm x0 (pt (sI m x0 2 (0 : Int32)) fun m1 => (pt (sI m1 x0 3 (0 : Int32)) fun m3 => (some m3))))
set_option maxHeartbeats 4000000 in
set_option maxRecDepth 100000 in
theorem kX3_clear (l : Launch) (G : Gt) (hD : ∀ m, va_D (inA G nC) (wC G m)) (m : Mem) (x0 : Nat) : ∀ a, fX3_clear m x0 = some a → Ct l G wC nC yX3_clear cX3_clear 1 none 1 [.ref (G.2.2 x0)] m (cvV a) := by
  refine ct_of (own := RX3) (ls0 := [some (.ref (G.2.2 x0))]) (by decide) rfl rfl rfl (Nat.le_of_ble_eq_true rfl) hD (fun X h => ?_) l
  unfold fX3_clear
  refine j_aload_n h dX3_clear_0 rfl ?_
  refine j_iconst (v := (0 : Int32)) h dX3_clear_1 kiconst_0 ?_
  refine j_gFm (fun hg2 => ?_)
  refine pC3_16 h hg2 dX3_clear_2 (fun m1 hm1 => ?_)
  refine j_aload_n h dX3_clear_5 rfl ?_
  refine j_iconst (v := (0 : Int32)) h dX3_clear_6 kiconst_0 ?_
  refine pC3_20 h hg2 rfl rfl dX3_clear_7 (fun m3 hm3 => ?_)
  exact j_vret h rfl dX3_clear_10
theorem dX9_isAwake_0 : DD cX9_isAwake 0 (.aload_n 2) 1 1 := ⟨by decide +kernel, rfl⟩
theorem dX9_isAwake_1 : DD cX9_isAwake 1 (.aload_n 0) 1 2 := ⟨by decide +kernel, rfl⟩
theorem dX9_isAwake_2 : DD cX9_isAwake 2 (.getfield 14) 3 5 := ⟨by decide +kernel, rfl⟩
theorem dX9_isAwake_5 : DD cX9_isAwake 5 (.getfield 105) 3 8 := ⟨by decide +kernel, rfl⟩
theorem dX9_isAwake_8 : DD cX9_isAwake 8 (.iload_n 1) 1 9 := ⟨by decide +kernel, rfl⟩
theorem dX9_isAwake_9 : DD cX9_isAwake 9 (.iaload) 1 10 := ⟨by decide +kernel, rfl⟩
theorem dX9_isAwake_10 : DD cX9_isAwake 10 (.iload_n 3) 1 11 := ⟨by decide +kernel, rfl⟩
theorem dX9_isAwake_11 : DD cX9_isAwake 11 (.invokevirtual 108) 3 14 := ⟨by decide +kernel, rfl⟩
theorem dX9_isAwake_14 : DD cX9_isAwake 14 (.ireturn) 1 15 := ⟨by decide +kernel, rfl⟩
def fX9_isAwake (m : Mem) (x1 : Int32) (x3 : Int32) : Option Int32 := (rd (m.1 28) 7 x1 fun v1 => (cP (fX2_wakes m v1 x3) fun r2 => (tz r2 (some r2))))
set_option maxHeartbeats 4000000 in
set_option maxRecDepth 100000 in
theorem kX9_isAwake (l : Launch) (G : Gt) (hD : ∀ m, va_D (inA G nC) (wC G m)) (m : Mem) (x1 : Int32) (x3 : Int32) : ∀ a, fX9_isAwake m x1 x3 = some a → Ct l G wC nC yX9_isAwake cX9_isAwake 4 (some .boolean) 2 [.ref (G.2.2 26), .int x1, .ref (G.2.2 53), .int x3] m ((cvP m) a) := by
  refine ct_of (own := RX9) (ls0 := [some (.ref (G.2.2 26)), some (.int x1), some (.ref (G.2.2 53)), some (.int x3)]) (by decide) rfl rfl rfl (Nat.le_of_ble_eq_true rfl) hD (fun X h => ?_) l
  unfold fX9_isAwake
  refine j_aload_n h dX9_isAwake_0 rfl ?_
  refine j_aload_n h dX9_isAwake_1 rfl ?_
  refine gC9_14 h dX9_isAwake_2 ?_
  refine gC9_105 h dX9_isAwake_5 ?_
  refine j_iload_n h dX9_isAwake_8 rfl ?_
  refine aC_28 h dX9_isAwake_9 (fun v1 hv1 => ?_)
  refine j_iload_n h dX9_isAwake_10 rfl ?_
  refine j_callVP (q0 := 53) (ci := 2) h [.int v1, .int x3] (kX2_wakes _ G h.2.2.2.2.2.2.2.2.2.2 m v1 x3) okX2_wakes inX2_wakes ml9_108 rfl rfl rfl rfl (by decide) (by decide) (Nat.le_of_ble_eq_true rfl) rfl dX9_isAwake_11 (fun r2 hr2 => ?_)
  exact j_zret h rfl dX9_isAwake_14
theorem dX9_whoIsAwake_0 : DD cX9_whoIsAwake 0 (.iconst 0) 1 1 := ⟨by decide +kernel, rfl⟩
theorem dX9_whoIsAwake_1 : DD cX9_whoIsAwake 1 (.istore_n 3) 1 2 := ⟨by decide +kernel, rfl⟩
theorem dX9_whoIsAwake_2 : DD cX9_whoIsAwake 2 (.iconst 0) 1 3 := ⟨by decide +kernel, rfl⟩
theorem dX9_whoIsAwake_3 : DD cX9_whoIsAwake 3 (.istore 4) 2 5 := ⟨by decide +kernel, rfl⟩
theorem dX9_whoIsAwake_5 : DD cX9_whoIsAwake 5 (.iload 4) 2 7 := ⟨by decide +kernel, rfl⟩
theorem dX9_whoIsAwake_7 : DD cX9_whoIsAwake 7 (.aload_n 0) 1 8 := ⟨by decide +kernel, rfl⟩
theorem dX9_whoIsAwake_8 : DD cX9_whoIsAwake 8 (.getfield 21) 3 11 := ⟨by decide +kernel, rfl⟩
theorem dX9_whoIsAwake_11 : DD cX9_whoIsAwake 11 (.getfield 50) 3 14 := ⟨by decide +kernel, rfl⟩
theorem dX9_whoIsAwake_14 : DD cX9_whoIsAwake 14 (.if_icmp .ge 31) 3 17 := ⟨by decide +kernel, rfl⟩
theorem dX9_whoIsAwake_17 : DD cX9_whoIsAwake 17 (.iload_n 3) 1 18 := ⟨by decide +kernel, rfl⟩
theorem dX9_whoIsAwake_18 : DD cX9_whoIsAwake 18 (.aload_n 0) 1 19 := ⟨by decide +kernel, rfl⟩
theorem dX9_whoIsAwake_19 : DD cX9_whoIsAwake 19 (.iload 4) 2 21 := ⟨by decide +kernel, rfl⟩
theorem dX9_whoIsAwake_21 : DD cX9_whoIsAwake 21 (.aload_n 1) 1 22 := ⟨by decide +kernel, rfl⟩
theorem dX9_whoIsAwake_22 : DD cX9_whoIsAwake 22 (.iload_n 2) 1 23 := ⟨by decide +kernel, rfl⟩
theorem dX9_whoIsAwake_23 : DD cX9_whoIsAwake 23 (.invokevirtual 112) 3 26 := ⟨by decide +kernel, rfl⟩
theorem dX9_whoIsAwake_26 : DD cX9_whoIsAwake 26 (.ifCond .eq 10) 3 29 := ⟨by decide +kernel, rfl⟩
theorem dX9_whoIsAwake_29 : DD cX9_whoIsAwake 29 (.iconst 1) 1 30 := ⟨by decide +kernel, rfl⟩
theorem dX9_whoIsAwake_30 : DD cX9_whoIsAwake 30 (.iload 4) 2 32 := ⟨by decide +kernel, rfl⟩
theorem dX9_whoIsAwake_32 : DD cX9_whoIsAwake 32 (.ishl) 1 33 := ⟨by decide +kernel, rfl⟩
theorem dX9_whoIsAwake_33 : DD cX9_whoIsAwake 33 (.goto 4) 3 36 := ⟨by decide +kernel, rfl⟩
theorem dX9_whoIsAwake_36 : DD cX9_whoIsAwake 36 (.iconst 0) 1 37 := ⟨by decide +kernel, rfl⟩
theorem dX9_whoIsAwake_37 : DD cX9_whoIsAwake 37 (.ior) 1 38 := ⟨by decide +kernel, rfl⟩
theorem dX9_whoIsAwake_38 : DD cX9_whoIsAwake 38 (.istore_n 3) 1 39 := ⟨by decide +kernel, rfl⟩
theorem dX9_whoIsAwake_39 : DD cX9_whoIsAwake 39 (.iinc 4 1) 3 42 := ⟨by decide +kernel, rfl⟩
theorem dX9_whoIsAwake_42 : DD cX9_whoIsAwake 42 (.goto (-37)) 3 45 := ⟨by decide +kernel, rfl⟩
theorem dX9_whoIsAwake_45 : DD cX9_whoIsAwake 45 (.iload_n 3) 1 46 := ⟨by decide +kernel, rfl⟩
theorem dX9_whoIsAwake_46 : DD cX9_whoIsAwake 46 (.ireturn) 1 47 := ⟨by decide +kernel, rfl⟩
def gX9_whoIsAwake (m : Mem) : Nat → Int32 → Int32 → Int32 → Option Int32
  | 0, _, _, _ => none
  | f + 1, x2, x3, x4 => (gPl (m.2.2 26 1) (if (m.1 (m.2.2 26 1) 0) ≤ x4 then (some x3) else (cP (fX9_isAwake m x4 x2) fun r3 => (if r3 = 0 then (nm (x3 ||| (0 : Int32)) fun v6 => (gX9_whoIsAwake m f x2 v6 (x4 + (1 : Int32)))) else (nm (x3 ||| ((1 : Int32) <<< (x4 &&& 31))) fun v7 => (gX9_whoIsAwake m f x2 v7 (x4 + (1 : Int32))))))))
def fX9_whoIsAwake (m : Mem) (x2 : Int32) : Option Int32 := (gX9_whoIsAwake m 5000 x2 (0 : Int32) (0 : Int32))
set_option maxHeartbeats 4000000 in
set_option maxRecDepth 100000 in
theorem wX9_whoIsAwake {X : Cx} {G : Gt} (h : OkX (X, G, wC, nC) cX9_whoIsAwake RX9 5 (some .int) 3) (m : Mem) : ∀ f : Nat, (∀ (x2 : Int32) (x3 : Int32) (x4 : Int32), JR (X, G, wC, nC) (cvP m) m 5 [some (.ref (G.2.2 26)), some (.ref (G.2.2 53)), some (.int x2), some (.int x3), some (.int x4)] [] (gX9_whoIsAwake m f x2 x3 x4)) := by
  intro f
  induction f with
  | zero => exact (fun _ _ _ => j_none)
  | succ f ih =>
    intro x2 x3 x4
    rw [gX9_whoIsAwake]
    refine j_iload h dX9_whoIsAwake_5 rfl ?_
    refine j_aload_n h dX9_whoIsAwake_7 rfl ?_
    refine gC9_21 h dX9_whoIsAwake_8 ?_
    refine j_gPl (fun hg1 => ?_)
    refine gC9_50 h hg1 dX9_whoIsAwake_11 ?_
    refine j_icmp_ge (tgt := 45) h dX9_whoIsAwake_14 (by decide) (fun c2 => ?_) (fun c2 => ?_)
    · refine j_iload_n h dX9_whoIsAwake_45 rfl ?_
      exact j_iret h rfl dX9_whoIsAwake_46
    · refine j_iload_n h dX9_whoIsAwake_17 rfl ?_
      refine j_aload_n h dX9_whoIsAwake_18 rfl ?_
      refine j_iload h dX9_whoIsAwake_19 rfl ?_
      refine j_aload_n h dX9_whoIsAwake_21 rfl ?_
      refine j_iload_n h dX9_whoIsAwake_22 rfl ?_
      refine j_callVP (q0 := 26) (ci := 9) h [.int x4, .ref (G.2.2 53), .int x2] (kX9_isAwake _ G h.2.2.2.2.2.2.2.2.2.2 m x4 x2) okX9_isAwake inX9_isAwake ml9_112 rfl rfl rfl rfl (by decide) (by decide) (Nat.le_of_ble_eq_true rfl) rfl dX9_whoIsAwake_23 (fun r3 hr3 => ?_)
      refine j_if_eq (tgt := 36) h dX9_whoIsAwake_26 (by decide) (fun c5 => ?_) (fun c5 => ?_)
      · refine j_iconst (v := (0 : Int32)) h dX9_whoIsAwake_36 kiconst_0 ?_
        refine j_ior h dX9_whoIsAwake_37 ?_
        refine j_nm (fun v6 hv6 => ?_)
        refine j_istore_n h dX9_whoIsAwake_38 rfl rfl ?_
        refine j_iinc (v := (x4 + (1 : Int32))) h dX9_whoIsAwake_39 rfl (by rw [kiconst_1]) rfl ?_
        refine j_goto (tgt := 5) h dX9_whoIsAwake_42 (by decide) ?_
        refine j_wk (ls' := [some (.ref (G.2.2 26)), some (.ref (G.2.2 53)), some (.int x2), some (.int v6), some (.int (x4 + (1 : Int32)))]) (And.intro rfl (And.intro rfl (And.intro rfl (And.intro rfl (And.intro rfl trivial))))) ?_
        exact ih x2 v6 (x4 + (1 : Int32))
      · refine j_iconst (v := (1 : Int32)) h dX9_whoIsAwake_29 kiconst_1 ?_
        refine j_iload h dX9_whoIsAwake_30 rfl ?_
        refine j_ishl h dX9_whoIsAwake_32 ?_
        refine j_goto (tgt := 37) h dX9_whoIsAwake_33 (by decide) ?_
        refine j_ior h dX9_whoIsAwake_37 ?_
        refine j_nm (fun v7 hv7 => ?_)
        refine j_istore_n h dX9_whoIsAwake_38 rfl rfl ?_
        refine j_iinc (v := (x4 + (1 : Int32))) h dX9_whoIsAwake_39 rfl (by rw [kiconst_1]) rfl ?_
        refine j_goto (tgt := 5) h dX9_whoIsAwake_42 (by decide) ?_
        refine j_wk (ls' := [some (.ref (G.2.2 26)), some (.ref (G.2.2 53)), some (.int x2), some (.int v7), some (.int (x4 + (1 : Int32)))]) (And.intro rfl (And.intro rfl (And.intro rfl (And.intro rfl (And.intro rfl trivial))))) ?_
        exact ih x2 v7 (x4 + (1 : Int32))
set_option maxHeartbeats 4000000 in
set_option maxRecDepth 100000 in
theorem kX9_whoIsAwake (l : Launch) (G : Gt) (hD : ∀ m, va_D (inA G nC) (wC G m)) (m : Mem) (x2 : Int32) : ∀ a, fX9_whoIsAwake m x2 = some a → Ct l G wC nC yX9_whoIsAwake cX9_whoIsAwake 5 (some .int) 3 [.ref (G.2.2 26), .ref (G.2.2 53), .int x2] m ((cvP m) a) := by
  refine ct_of (own := RX9) (ls0 := [some (.ref (G.2.2 26)), some (.ref (G.2.2 53)), some (.int x2), none, none]) (by decide) rfl rfl rfl (Nat.le_of_ble_eq_true rfl) hD (fun X h => ?_) l
  unfold fX9_whoIsAwake
  refine j_iconst (v := (0 : Int32)) h dX9_whoIsAwake_0 kiconst_0 ?_
  refine j_istore_n h dX9_whoIsAwake_1 rfl rfl ?_
  refine j_iconst (v := (0 : Int32)) h dX9_whoIsAwake_2 kiconst_0 ?_
  refine j_istore h dX9_whoIsAwake_3 rfl rfl ?_
  refine j_wk (ls' := [some (.ref (G.2.2 26)), some (.ref (G.2.2 53)), some (.int x2), some (.int (0 : Int32)), some (.int (0 : Int32))]) (And.intro rfl (And.intro rfl (And.intro rfl (And.intro rfl (And.intro rfl trivial))))) ?_
  exact (wX9_whoIsAwake h m 5000) x2 (0 : Int32) (0 : Int32)
theorem dX4_whoIsAwakeBehind_0 : DD cX4_whoIsAwakeBehind 0 (.aload_n 0) 1 1 := ⟨by decide +kernel, rfl⟩
theorem dX4_whoIsAwakeBehind_1 : DD cX4_whoIsAwakeBehind 1 (.getfield 35) 3 4 := ⟨by decide +kernel, rfl⟩
theorem dX4_whoIsAwakeBehind_4 : DD cX4_whoIsAwakeBehind 4 (.getfield 39) 3 7 := ⟨by decide +kernel, rfl⟩
theorem dX4_whoIsAwakeBehind_7 : DD cX4_whoIsAwakeBehind 7 (.iload_n 1) 1 8 := ⟨by decide +kernel, rfl⟩
theorem dX4_whoIsAwakeBehind_8 : DD cX4_whoIsAwakeBehind 8 (.iadd) 1 9 := ⟨by decide +kernel, rfl⟩
theorem dX4_whoIsAwakeBehind_9 : DD cX4_whoIsAwakeBehind 9 (.istore_n 2) 1 10 := ⟨by decide +kernel, rfl⟩
theorem dX4_whoIsAwakeBehind_10 : DD cX4_whoIsAwakeBehind 10 (.aload_n 0) 1 11 := ⟨by decide +kernel, rfl⟩
theorem dX4_whoIsAwakeBehind_11 : DD cX4_whoIsAwakeBehind 11 (.getfield 35) 3 14 := ⟨by decide +kernel, rfl⟩
theorem dX4_whoIsAwakeBehind_14 : DD cX4_whoIsAwakeBehind 14 (.getfield 45) 3 17 := ⟨by decide +kernel, rfl⟩
theorem dX4_whoIsAwakeBehind_17 : DD cX4_whoIsAwakeBehind 17 (.iload_n 2) 1 18 := ⟨by decide +kernel, rfl⟩
theorem dX4_whoIsAwakeBehind_18 : DD cX4_whoIsAwakeBehind 18 (.bipush 24) 2 20 := ⟨by decide +kernel, rfl⟩
theorem dX4_whoIsAwakeBehind_20 : DD cX4_whoIsAwakeBehind 20 (.idiv) 1 21 := ⟨by decide +kernel, rfl⟩
theorem dX4_whoIsAwakeBehind_21 : DD cX4_whoIsAwakeBehind 21 (.iadd) 1 22 := ⟨by decide +kernel, rfl⟩
theorem dX4_whoIsAwakeBehind_22 : DD cX4_whoIsAwakeBehind 22 (.sipush 365) 3 25 := ⟨by decide +kernel, rfl⟩
theorem dX4_whoIsAwakeBehind_25 : DD cX4_whoIsAwakeBehind 25 (.irem) 1 26 := ⟨by decide +kernel, rfl⟩
theorem dX4_whoIsAwakeBehind_26 : DD cX4_whoIsAwakeBehind 26 (.istore_n 3) 1 27 := ⟨by decide +kernel, rfl⟩
theorem dX4_whoIsAwakeBehind_27 : DD cX4_whoIsAwakeBehind 27 (.aload_n 0) 1 28 := ⟨by decide +kernel, rfl⟩
theorem dX4_whoIsAwakeBehind_28 : DD cX4_whoIsAwakeBehind 28 (.aload_n 0) 1 29 := ⟨by decide +kernel, rfl⟩
theorem dX4_whoIsAwakeBehind_29 : DD cX4_whoIsAwakeBehind 29 (.iload_n 3) 1 30 := ⟨by decide +kernel, rfl⟩
theorem dX4_whoIsAwakeBehind_30 : DD cX4_whoIsAwakeBehind 30 (.invokevirtual 48) 3 33 := ⟨by decide +kernel, rfl⟩
theorem dX4_whoIsAwakeBehind_33 : DD cX4_whoIsAwakeBehind 33 (.iload_n 2) 1 34 := ⟨by decide +kernel, rfl⟩
theorem dX4_whoIsAwakeBehind_34 : DD cX4_whoIsAwakeBehind 34 (.bipush 24) 2 36 := ⟨by decide +kernel, rfl⟩
theorem dX4_whoIsAwakeBehind_36 : DD cX4_whoIsAwakeBehind 36 (.irem) 1 37 := ⟨by decide +kernel, rfl⟩
theorem dX4_whoIsAwakeBehind_37 : DD cX4_whoIsAwakeBehind 37 (.invokevirtual 52) 3 40 := ⟨by decide +kernel, rfl⟩
theorem dX4_whoIsAwakeBehind_40 : DD cX4_whoIsAwakeBehind 40 (.ireturn) 1 41 := ⟨by decide +kernel, rfl⟩
def fX4_whoIsAwakeBehind (m : Mem) (x1 : Int32) : Option (Int32 × Mem) := (nm ((m.1 27 5) + x1) fun v1 => (nm (((m.1 27 6) + (v1 / (24 : Int32))) - ((m.1 27 6) + (v1 / (24 : Int32))) / (365 : Int32) * (365 : Int32)) fun v2 => (cR (fX9_dayOf m v2) fun r3 m4 => (gEq r3 53 (cP (fX9_whoIsAwake m4 (v1 - v1 / (24 : Int32) * (24 : Int32))) fun r6 => (some (r6, m4)))))))
set_option maxHeartbeats 4000000 in
set_option maxRecDepth 100000 in
theorem kX4_whoIsAwakeBehind (l : Launch) (G : Gt) (hD : ∀ m, va_D (inA G nC) (wC G m)) (m : Mem) (x1 : Int32) : ∀ a, fX4_whoIsAwakeBehind m x1 = some a → Ct l G wC nC yX4_whoIsAwakeBehind cX4_whoIsAwakeBehind 4 (some .int) 5 [.ref (G.2.2 26), .int x1] m (cvI a) := by
  refine ct_of (own := RX4) (ls0 := [some (.ref (G.2.2 26)), some (.int x1), none, none]) (by decide) rfl rfl rfl (Nat.le_of_ble_eq_true rfl) hD (fun X h => ?_) l
  unfold fX4_whoIsAwakeBehind
  refine j_aload_n h dX4_whoIsAwakeBehind_0 rfl ?_
  refine gC4_35 h dX4_whoIsAwakeBehind_1 ?_
  refine gC4_39 h dX4_whoIsAwakeBehind_4 ?_
  refine j_iload_n h dX4_whoIsAwakeBehind_7 rfl ?_
  refine j_iadd h dX4_whoIsAwakeBehind_8 ?_
  refine j_nm (fun v1 hv1 => ?_)
  refine j_istore_n h dX4_whoIsAwakeBehind_9 rfl rfl ?_
  refine j_aload_n h dX4_whoIsAwakeBehind_10 rfl ?_
  refine gC4_35 h dX4_whoIsAwakeBehind_11 ?_
  refine gC4_45 h dX4_whoIsAwakeBehind_14 ?_
  refine j_iload_n h dX4_whoIsAwakeBehind_17 rfl ?_
  refine j_bipush (v := (24 : Int32)) h dX4_whoIsAwakeBehind_18 kbipush_24 ?_
  refine j_idivB h dX4_whoIsAwakeBehind_20 (by decide) ?_
  refine j_iadd h dX4_whoIsAwakeBehind_21 ?_
  refine j_sipush (v := (365 : Int32)) h dX4_whoIsAwakeBehind_22 ksipush_365 ?_
  refine j_iremB h dX4_whoIsAwakeBehind_25 (by decide) ?_
  refine j_nm (fun v2 hv2 => ?_)
  refine j_istore_n h dX4_whoIsAwakeBehind_26 rfl rfl ?_
  refine j_aload_n h dX4_whoIsAwakeBehind_27 rfl ?_
  refine j_aload_n h dX4_whoIsAwakeBehind_28 rfl ?_
  refine j_iload_n h dX4_whoIsAwakeBehind_29 rfl ?_
  refine j_callVR (q0 := 26) (ci := 9) h [.int v2] (kX9_dayOf _ G h.2.2.2.2.2.2.2.2.2.2 m v2) okX9_dayOf inX9_dayOf ml4_48 rfl rfl rfl rfl (by decide) (by decide) (Nat.le_of_ble_eq_true rfl) rfl dX4_whoIsAwakeBehind_30 (fun r3 m4 hr3 => ?_)
  refine j_gEq (fun hg5 => ?_)
  subst hg5
  refine j_iload_n h dX4_whoIsAwakeBehind_33 rfl ?_
  refine j_bipush (v := (24 : Int32)) h dX4_whoIsAwakeBehind_34 kbipush_24 ?_
  refine j_iremB h dX4_whoIsAwakeBehind_36 (by decide) ?_
  refine j_callVP (q0 := 26) (ci := 9) h [.ref (G.2.2 53), .int (v1 - v1 / (24 : Int32) * (24 : Int32))] (kX9_whoIsAwake _ G h.2.2.2.2.2.2.2.2.2.2 m4 (v1 - v1 / (24 : Int32) * (24 : Int32))) okX9_whoIsAwake inX9_whoIsAwake ml4_52 rfl rfl rfl rfl (by decide) (by decide) (Nat.le_of_ble_eq_true rfl) rfl dX4_whoIsAwakeBehind_37 (fun r6 hr6 => ?_)
  exact j_iret h rfl dX4_whoIsAwakeBehind_40
theorem dX6_bothOf_0 : DD cX6_bothOf 0 (.iconst 1) 1 1 := ⟨by decide +kernel, rfl⟩
theorem dX6_bothOf_1 : DD cX6_bothOf 1 (.aload_n 0) 1 2 := ⟨by decide +kernel, rfl⟩
theorem dX6_bothOf_2 : DD cX6_bothOf 2 (.getfield 25) 3 5 := ⟨by decide +kernel, rfl⟩
theorem dX6_bothOf_5 : DD cX6_bothOf 5 (.iload_n 1) 1 6 := ⟨by decide +kernel, rfl⟩
theorem dX6_bothOf_6 : DD cX6_bothOf 6 (.iaload) 1 7 := ⟨by decide +kernel, rfl⟩
theorem dX6_bothOf_7 : DD cX6_bothOf 7 (.ishl) 1 8 := ⟨by decide +kernel, rfl⟩
theorem dX6_bothOf_8 : DD cX6_bothOf 8 (.iconst 1) 1 9 := ⟨by decide +kernel, rfl⟩
theorem dX6_bothOf_9 : DD cX6_bothOf 9 (.aload_n 0) 1 10 := ⟨by decide +kernel, rfl⟩
theorem dX6_bothOf_10 : DD cX6_bothOf 10 (.getfield 28) 3 13 := ⟨by decide +kernel, rfl⟩
theorem dX6_bothOf_13 : DD cX6_bothOf 13 (.iload_n 1) 1 14 := ⟨by decide +kernel, rfl⟩
theorem dX6_bothOf_14 : DD cX6_bothOf 14 (.iaload) 1 15 := ⟨by decide +kernel, rfl⟩
theorem dX6_bothOf_15 : DD cX6_bothOf 15 (.ishl) 1 16 := ⟨by decide +kernel, rfl⟩
theorem dX6_bothOf_16 : DD cX6_bothOf 16 (.ior) 1 17 := ⟨by decide +kernel, rfl⟩
theorem dX6_bothOf_17 : DD cX6_bothOf 17 (.ireturn) 1 18 := ⟨by decide +kernel, rfl⟩
def fX6_bothOf (m : Mem) (x0 : Nat) (x1 : Int32) : Option Int32 := (gPl x0 (rd (m.1 (x0 + 5)) 10 x1 fun v2 => (rd (m.1 (x0 + 6)) 10 x1 fun v3 => (some (((1 : Int32) <<< (v2 &&& 31)) ||| ((1 : Int32) <<< (v3 &&& 31)))))))
set_option maxHeartbeats 4000000 in
set_option maxRecDepth 100000 in
theorem kX6_bothOf (l : Launch) (G : Gt) (hD : ∀ m, va_D (inA G nC) (wC G m)) (m : Mem) (x0 : Nat) (x1 : Int32) : ∀ a, fX6_bothOf m x0 x1 = some a → Ct l G wC nC yX6_bothOf cX6_bothOf 2 (some .int) 1 [.ref (G.2.2 x0), .int x1] m ((cvP m) a) := by
  refine ct_of (own := RX6) (ls0 := [some (.ref (G.2.2 x0)), some (.int x1)]) (by decide) rfl rfl rfl (Nat.le_of_ble_eq_true rfl) hD (fun X h => ?_) l
  unfold fX6_bothOf
  refine j_iconst (v := (1 : Int32)) h dX6_bothOf_0 kiconst_1 ?_
  refine j_aload_n h dX6_bothOf_1 rfl ?_
  refine j_gPl (fun hg1 => ?_)
  refine gC6_25 h hg1 dX6_bothOf_2 ?_
  refine j_iload_n h dX6_bothOf_5 rfl ?_
  refine aC_Pl5 h hg1 dX6_bothOf_6 (fun v2 hv2 => ?_)
  refine j_ishl h dX6_bothOf_7 ?_
  refine j_iconst (v := (1 : Int32)) h dX6_bothOf_8 kiconst_1 ?_
  refine j_aload_n h dX6_bothOf_9 rfl ?_
  refine gC6_28 h hg1 dX6_bothOf_10 ?_
  refine j_iload_n h dX6_bothOf_13 rfl ?_
  refine aC_Pl6 h hg1 dX6_bothOf_14 (fun v3 hv3 => ?_)
  refine j_ishl h dX6_bothOf_15 ?_
  refine j_ior h dX6_bothOf_16 ?_
  exact j_iret h rfl dX6_bothOf_17
theorem dX4_handOn_0 : DD cX4_handOn 0 (.iload_n 1) 1 1 := ⟨by decide +kernel, rfl⟩
theorem dX4_handOn_1 : DD cX4_handOn 1 (.istore_n 3) 1 2 := ⟨by decide +kernel, rfl⟩
theorem dX4_handOn_2 : DD cX4_handOn 2 (.iconst 0) 1 3 := ⟨by decide +kernel, rfl⟩
theorem dX4_handOn_3 : DD cX4_handOn 3 (.istore 4) 2 5 := ⟨by decide +kernel, rfl⟩
theorem dX4_handOn_5 : DD cX4_handOn 5 (.iload 4) 2 7 := ⟨by decide +kernel, rfl⟩
theorem dX4_handOn_7 : DD cX4_handOn 7 (.aload_n 0) 1 8 := ⟨by decide +kernel, rfl⟩
theorem dX4_handOn_8 : DD cX4_handOn 8 (.getfield 56) 3 11 := ⟨by decide +kernel, rfl⟩
theorem dX4_handOn_11 : DD cX4_handOn 11 (.if_icmp .ge 71) 3 14 := ⟨by decide +kernel, rfl⟩
theorem dX4_handOn_14 : DD cX4_handOn 14 (.iload_n 3) 1 15 := ⟨by decide +kernel, rfl⟩
theorem dX4_handOn_15 : DD cX4_handOn 15 (.istore 5) 2 17 := ⟨by decide +kernel, rfl⟩
theorem dX4_handOn_17 : DD cX4_handOn 17 (.iconst 0) 1 18 := ⟨by decide +kernel, rfl⟩
theorem dX4_handOn_18 : DD cX4_handOn 18 (.istore 6) 2 20 := ⟨by decide +kernel, rfl⟩
theorem dX4_handOn_20 : DD cX4_handOn 20 (.iload 6) 2 22 := ⟨by decide +kernel, rfl⟩
theorem dX4_handOn_22 : DD cX4_handOn 22 (.aload_n 0) 1 23 := ⟨by decide +kernel, rfl⟩
theorem dX4_handOn_23 : DD cX4_handOn 23 (.getfield 61) 3 26 := ⟨by decide +kernel, rfl⟩
theorem dX4_handOn_26 : DD cX4_handOn 26 (.if_icmp .ge 42) 3 29 := ⟨by decide +kernel, rfl⟩
theorem dX4_handOn_29 : DD cX4_handOn 29 (.aload_n 0) 1 30 := ⟨by decide +kernel, rfl⟩
theorem dX4_handOn_30 : DD cX4_handOn 30 (.iload 6) 2 32 := ⟨by decide +kernel, rfl⟩
theorem dX4_handOn_32 : DD cX4_handOn 32 (.invokevirtual 64) 3 35 := ⟨by decide +kernel, rfl⟩
theorem dX4_handOn_35 : DD cX4_handOn 35 (.istore 7) 2 37 := ⟨by decide +kernel, rfl⟩
theorem dX4_handOn_37 : DD cX4_handOn 37 (.iload_n 3) 1 38 := ⟨by decide +kernel, rfl⟩
theorem dX4_handOn_38 : DD cX4_handOn 38 (.iload 7) 2 40 := ⟨by decide +kernel, rfl⟩
theorem dX4_handOn_40 : DD cX4_handOn 40 (.iload_n 2) 1 41 := ⟨by decide +kernel, rfl⟩
theorem dX4_handOn_41 : DD cX4_handOn 41 (.iconst (-1)) 1 42 := ⟨by decide +kernel, rfl⟩
theorem dX4_handOn_42 : DD cX4_handOn 42 (.ixor) 1 43 := ⟨by decide +kernel, rfl⟩
theorem dX4_handOn_43 : DD cX4_handOn 43 (.iand) 1 44 := ⟨by decide +kernel, rfl⟩
theorem dX4_handOn_44 : DD cX4_handOn 44 (.ifCond .ne 15) 3 47 := ⟨by decide +kernel, rfl⟩
theorem dX4_handOn_47 : DD cX4_handOn 47 (.iload 7) 2 49 := ⟨by decide +kernel, rfl⟩
theorem dX4_handOn_49 : DD cX4_handOn 49 (.iload_n 3) 1 50 := ⟨by decide +kernel, rfl⟩
theorem dX4_handOn_50 : DD cX4_handOn 50 (.iand) 1 51 := ⟨by decide +kernel, rfl⟩
theorem dX4_handOn_51 : DD cX4_handOn 51 (.ifCond .eq 8) 3 54 := ⟨by decide +kernel, rfl⟩
theorem dX4_handOn_54 : DD cX4_handOn 54 (.iload 7) 2 56 := ⟨by decide +kernel, rfl⟩
theorem dX4_handOn_56 : DD cX4_handOn 56 (.goto 4) 3 59 := ⟨by decide +kernel, rfl⟩
theorem dX4_handOn_59 : DD cX4_handOn 59 (.iconst 0) 1 60 := ⟨by decide +kernel, rfl⟩
theorem dX4_handOn_60 : DD cX4_handOn 60 (.ior) 1 61 := ⟨by decide +kernel, rfl⟩
theorem dX4_handOn_61 : DD cX4_handOn 61 (.istore_n 3) 1 62 := ⟨by decide +kernel, rfl⟩
theorem dX4_handOn_62 : DD cX4_handOn 62 (.iinc 6 1) 3 65 := ⟨by decide +kernel, rfl⟩
theorem dX4_handOn_65 : DD cX4_handOn 65 (.goto (-45)) 3 68 := ⟨by decide +kernel, rfl⟩
theorem dX4_handOn_68 : DD cX4_handOn 68 (.iload_n 3) 1 69 := ⟨by decide +kernel, rfl⟩
theorem dX4_handOn_69 : DD cX4_handOn 69 (.iload 5) 2 71 := ⟨by decide +kernel, rfl⟩
theorem dX4_handOn_71 : DD cX4_handOn 71 (.if_icmp .ne 5) 3 74 := ⟨by decide +kernel, rfl⟩
theorem dX4_handOn_74 : DD cX4_handOn 74 (.iload_n 3) 1 75 := ⟨by decide +kernel, rfl⟩
theorem dX4_handOn_75 : DD cX4_handOn 75 (.ireturn) 1 76 := ⟨by decide +kernel, rfl⟩
theorem dX4_handOn_76 : DD cX4_handOn 76 (.iinc 4 1) 3 79 := ⟨by decide +kernel, rfl⟩
theorem dX4_handOn_79 : DD cX4_handOn 79 (.goto (-74)) 3 82 := ⟨by decide +kernel, rfl⟩
theorem dX4_handOn_82 : DD cX4_handOn 82 (.iload_n 3) 1 83 := ⟨by decide +kernel, rfl⟩
theorem dX4_handOn_83 : DD cX4_handOn 83 (.ireturn) 1 84 := ⟨by decide +kernel, rfl⟩
def gX4_handOn (m : Mem) : Nat → Nat → Nat → Int32 → Int32 → Int32 → Int32 → Int32 → Option Int32
  | 0, _, _, _, _, _, _, _ => none
  | f + 1, 0, x0, x2, x3, x4, x5, x6 => (gPl x0 (if (m.1 x0 0) ≤ x4 then (some x3) else (gX4_handOn m f 1 x0 x2 x3 x4 x3 (0 : Int32))))
  | f + 1, 1, x0, x2, x3, x4, x5, x6 => (gPl x0 (if (m.1 x0 5) ≤ x6 then (if x3 = x5 then (some x3) else (gX4_handOn m f 0 x0 x2 x3 (x4 + (1 : Int32)) 0 0)) else (cP (fX6_bothOf m x0 x6) fun r4 => (if (r4 &&& (x2 ^^^ (-1 : Int32))) = 0 then (if (r4 &&& x3) = 0 then (nm (x3 ||| (0 : Int32)) fun v9 => (gX4_handOn m f 1 x0 x2 v9 x4 x5 (x6 + (1 : Int32)))) else (nm (x3 ||| r4) fun v10 => (gX4_handOn m f 1 x0 x2 v10 x4 x5 (x6 + (1 : Int32))))) else (nm (x3 ||| (0 : Int32)) fun v7 => (gX4_handOn m f 1 x0 x2 v7 x4 x5 (x6 + (1 : Int32))))))))
  | _ + 1, _ + 2, _, _, _, _, _, _ => none
def fX4_handOn (m : Mem) (x0 : Nat) (x1 : Int32) (x2 : Int32) : Option Int32 := (gX4_handOn m 5000 0 x0 x2 x1 (0 : Int32) 0 0)
set_option maxHeartbeats 4000000 in
set_option maxRecDepth 100000 in
theorem wX4_handOn {X : Cx} {G : Gt} (h : OkX (X, G, wC, nC) cX4_handOn RX4 8 (some .int) 2) (m : Mem) : ∀ f : Nat, (∀ (x0 : Nat) (x2 : Int32) (x3 : Int32) (x4 : Int32) (x5 : Int32) (x6 : Int32), JR (X, G, wC, nC) (cvP m) m 5 [some (.ref (G.2.2 x0)), none, some (.int x2), some (.int x3), some (.int x4), none, none, none] [] (gX4_handOn m f 0 x0 x2 x3 x4 x5 x6)) ∧ (∀ (x0 : Nat) (x2 : Int32) (x3 : Int32) (x4 : Int32) (x5 : Int32) (x6 : Int32), JR (X, G, wC, nC) (cvP m) m 20 [some (.ref (G.2.2 x0)), none, some (.int x2), some (.int x3), some (.int x4), some (.int x5), some (.int x6), none] [] (gX4_handOn m f 1 x0 x2 x3 x4 x5 x6)) := by
  intro f
  induction f with
  | zero => exact ⟨(fun _ _ _ _ _ _ => j_none), (fun _ _ _ _ _ _ => j_none)⟩
  | succ f ih =>
    refine ⟨?_, ?_⟩
    · intro x0 x2 x3 x4 x5 x6
      rw [gX4_handOn]
      refine j_iload h dX4_handOn_5 rfl ?_
      refine j_aload_n h dX4_handOn_7 rfl ?_
      refine j_gPl (fun hg1 => ?_)
      refine gC4_56 h hg1 dX4_handOn_8 ?_
      refine j_icmp_ge (tgt := 82) h dX4_handOn_11 (by decide) (fun c2 => ?_) (fun c2 => ?_)
      · refine j_iload_n h dX4_handOn_82 rfl ?_
        exact j_iret h rfl dX4_handOn_83
      · refine j_iload_n h dX4_handOn_14 rfl ?_
        refine j_istore h dX4_handOn_15 rfl rfl ?_
        refine j_iconst (v := (0 : Int32)) h dX4_handOn_17 kiconst_0 ?_
        refine j_istore h dX4_handOn_18 rfl rfl ?_
        refine j_wk (ls' := [some (.ref (G.2.2 x0)), none, some (.int x2), some (.int x3), some (.int x4), some (.int x3), some (.int (0 : Int32)), none]) (And.intro rfl (And.intro rfl (And.intro rfl (And.intro rfl (And.intro rfl (And.intro rfl trivial)))))) ?_
        exact ih.2 x0 x2 x3 x4 x3 (0 : Int32)
    · intro x0 x2 x3 x4 x5 x6
      rw [gX4_handOn]
      refine j_iload h dX4_handOn_20 rfl ?_
      refine j_aload_n h dX4_handOn_22 rfl ?_
      refine j_gPl (fun hg1 => ?_)
      refine gC4_61 h hg1 dX4_handOn_23 ?_
      refine j_icmp_ge (tgt := 68) h dX4_handOn_26 (by decide) (fun c2 => ?_) (fun c2 => ?_)
      · refine j_iload_n h dX4_handOn_68 rfl ?_
        refine j_iload h dX4_handOn_69 rfl ?_
        refine j_icmp_ne (tgt := 76) h dX4_handOn_71 (by decide) (fun c3 => ?_) (fun c3 => ?_)
        · refine j_iinc (v := (x4 + (1 : Int32))) h dX4_handOn_76 rfl (by rw [kiconst_1]) rfl ?_
          refine j_goto (tgt := 5) h dX4_handOn_79 (by decide) ?_
          refine j_wk (ls' := [some (.ref (G.2.2 x0)), none, some (.int x2), some (.int x3), some (.int (x4 + (1 : Int32))), none, none, none]) (And.intro rfl (And.intro rfl (And.intro rfl (And.intro rfl trivial)))) ?_
          exact ih.1 x0 x2 x3 (x4 + (1 : Int32)) 0 0
        · refine j_iload_n h dX4_handOn_74 rfl ?_
          exact j_iret h rfl dX4_handOn_75
      · refine j_aload_n h dX4_handOn_29 rfl ?_
        refine j_iload h dX4_handOn_30 rfl ?_
        refine j_callVP (q0 := x0) (ci := 6) h [.int x6] (kX6_bothOf _ G h.2.2.2.2.2.2.2.2.2.2 m x0 x6) okX6_bothOf inX6_bothOf ml4_64 rfl (at_Pl hg1) rfl rfl (by decide) (by decide) (Nat.le_of_ble_eq_true rfl) rfl dX4_handOn_32 (fun r4 hr4 => ?_)
        refine j_istore h dX4_handOn_35 rfl rfl ?_
        refine j_iload_n h dX4_handOn_37 rfl ?_
        refine j_iload h dX4_handOn_38 rfl ?_
        refine j_iload_n h dX4_handOn_40 rfl ?_
        refine j_iconst (v := (-1 : Int32)) h dX4_handOn_41 kiconst_m1 ?_
        refine j_ixor h dX4_handOn_42 ?_
        refine j_iand h dX4_handOn_43 ?_
        refine j_if_ne (tgt := 59) h dX4_handOn_44 (by decide) (fun c6 => ?_) (fun c6 => ?_)
        · refine j_iconst (v := (0 : Int32)) h dX4_handOn_59 kiconst_0 ?_
          refine j_ior h dX4_handOn_60 ?_
          refine j_nm (fun v7 hv7 => ?_)
          refine j_istore_n h dX4_handOn_61 rfl rfl ?_
          refine j_iinc (v := (x6 + (1 : Int32))) h dX4_handOn_62 rfl (by rw [kiconst_1]) rfl ?_
          refine j_goto (tgt := 20) h dX4_handOn_65 (by decide) ?_
          refine j_wk (ls' := [some (.ref (G.2.2 x0)), none, some (.int x2), some (.int v7), some (.int x4), some (.int x5), some (.int (x6 + (1 : Int32))), none]) (And.intro rfl (And.intro rfl (And.intro rfl (And.intro rfl (And.intro rfl (And.intro rfl trivial)))))) ?_
          exact ih.2 x0 x2 v7 x4 x5 (x6 + (1 : Int32))
        · refine j_iload h dX4_handOn_47 rfl ?_
          refine j_iload_n h dX4_handOn_49 rfl ?_
          refine j_iand h dX4_handOn_50 ?_
          refine j_if_eq (tgt := 59) h dX4_handOn_51 (by decide) (fun c8 => ?_) (fun c8 => ?_)
          · refine j_iconst (v := (0 : Int32)) h dX4_handOn_59 kiconst_0 ?_
            refine j_ior h dX4_handOn_60 ?_
            refine j_nm (fun v9 hv9 => ?_)
            refine j_istore_n h dX4_handOn_61 rfl rfl ?_
            refine j_iinc (v := (x6 + (1 : Int32))) h dX4_handOn_62 rfl (by rw [kiconst_1]) rfl ?_
            refine j_goto (tgt := 20) h dX4_handOn_65 (by decide) ?_
            refine j_wk (ls' := [some (.ref (G.2.2 x0)), none, some (.int x2), some (.int v9), some (.int x4), some (.int x5), some (.int (x6 + (1 : Int32))), none]) (And.intro rfl (And.intro rfl (And.intro rfl (And.intro rfl (And.intro rfl (And.intro rfl trivial)))))) ?_
            exact ih.2 x0 x2 v9 x4 x5 (x6 + (1 : Int32))
          · refine j_iload h dX4_handOn_54 rfl ?_
            refine j_goto (tgt := 60) h dX4_handOn_56 (by decide) ?_
            refine j_ior h dX4_handOn_60 ?_
            refine j_nm (fun v10 hv10 => ?_)
            refine j_istore_n h dX4_handOn_61 rfl rfl ?_
            refine j_iinc (v := (x6 + (1 : Int32))) h dX4_handOn_62 rfl (by rw [kiconst_1]) rfl ?_
            refine j_goto (tgt := 20) h dX4_handOn_65 (by decide) ?_
            refine j_wk (ls' := [some (.ref (G.2.2 x0)), none, some (.int x2), some (.int v10), some (.int x4), some (.int x5), some (.int (x6 + (1 : Int32))), none]) (And.intro rfl (And.intro rfl (And.intro rfl (And.intro rfl (And.intro rfl (And.intro rfl trivial)))))) ?_
            exact ih.2 x0 x2 v10 x4 x5 (x6 + (1 : Int32))
set_option maxHeartbeats 4000000 in
set_option maxRecDepth 100000 in
theorem kX4_handOn (l : Launch) (G : Gt) (hD : ∀ m, va_D (inA G nC) (wC G m)) (m : Mem) (x0 : Nat) (x1 : Int32) (x2 : Int32) : ∀ a, fX4_handOn m x0 x1 x2 = some a → Ct l G wC nC yX4_handOn cX4_handOn 8 (some .int) 2 [.ref (G.2.2 x0), .int x1, .int x2] m ((cvP m) a) := by
  refine ct_of (own := RX4) (ls0 := [some (.ref (G.2.2 x0)), some (.int x1), some (.int x2), none, none, none, none, none]) (by decide) rfl rfl rfl (Nat.le_of_ble_eq_true rfl) hD (fun X h => ?_) l
  unfold fX4_handOn
  refine j_iload_n h dX4_handOn_0 rfl ?_
  refine j_istore_n h dX4_handOn_1 rfl rfl ?_
  refine j_iconst (v := (0 : Int32)) h dX4_handOn_2 kiconst_0 ?_
  refine j_istore h dX4_handOn_3 rfl rfl ?_
  refine j_wk (ls' := [some (.ref (G.2.2 x0)), none, some (.int x2), some (.int x1), some (.int (0 : Int32)), none, none, none]) (And.intro rfl (And.intro rfl (And.intro rfl (And.intro rfl trivial)))) ?_
  exact (wX4_handOn h m 5000).1 x0 x2 x1 (0 : Int32) 0 0
theorem dX4_hoursTo_0 : DD cX4_hoursTo 0 (.iconst 1) 1 1 := ⟨by decide +kernel, rfl⟩
theorem dX4_hoursTo_1 : DD cX4_hoursTo 1 (.iload_n 1) 1 2 := ⟨by decide +kernel, rfl⟩
theorem dX4_hoursTo_2 : DD cX4_hoursTo 2 (.ishl) 1 3 := ⟨by decide +kernel, rfl⟩
theorem dX4_hoursTo_3 : DD cX4_hoursTo 3 (.istore_n 3) 1 4 := ⟨by decide +kernel, rfl⟩
theorem dX4_hoursTo_4 : DD cX4_hoursTo 4 (.iconst 0) 1 5 := ⟨by decide +kernel, rfl⟩
theorem dX4_hoursTo_5 : DD cX4_hoursTo 5 (.istore 4) 2 7 := ⟨by decide +kernel, rfl⟩
theorem dX4_hoursTo_7 : DD cX4_hoursTo 7 (.iload 4) 2 9 := ⟨by decide +kernel, rfl⟩
theorem dX4_hoursTo_9 : DD cX4_hoursTo 9 (.sipush 240) 3 12 := ⟨by decide +kernel, rfl⟩
theorem dX4_hoursTo_12 : DD cX4_hoursTo 12 (.if_icmp .gt 36) 3 15 := ⟨by decide +kernel, rfl⟩
theorem dX4_hoursTo_15 : DD cX4_hoursTo 15 (.iload_n 3) 1 16 := ⟨by decide +kernel, rfl⟩
theorem dX4_hoursTo_16 : DD cX4_hoursTo 16 (.iload_n 2) 1 17 := ⟨by decide +kernel, rfl⟩
theorem dX4_hoursTo_17 : DD cX4_hoursTo 17 (.ishr) 1 18 := ⟨by decide +kernel, rfl⟩
theorem dX4_hoursTo_18 : DD cX4_hoursTo 18 (.iconst 1) 1 19 := ⟨by decide +kernel, rfl⟩
theorem dX4_hoursTo_19 : DD cX4_hoursTo 19 (.iand) 1 20 := ⟨by decide +kernel, rfl⟩
theorem dX4_hoursTo_20 : DD cX4_hoursTo 20 (.iconst 1) 1 21 := ⟨by decide +kernel, rfl⟩
theorem dX4_hoursTo_21 : DD cX4_hoursTo 21 (.if_icmp .ne 6) 3 24 := ⟨by decide +kernel, rfl⟩
theorem dX4_hoursTo_24 : DD cX4_hoursTo 24 (.iload 4) 2 26 := ⟨by decide +kernel, rfl⟩
theorem dX4_hoursTo_26 : DD cX4_hoursTo 26 (.ireturn) 1 27 := ⟨by decide +kernel, rfl⟩
theorem dX4_hoursTo_27 : DD cX4_hoursTo 27 (.aload_n 0) 1 28 := ⟨by decide +kernel, rfl⟩
theorem dX4_hoursTo_28 : DD cX4_hoursTo 28 (.getfield 11) 3 31 := ⟨by decide +kernel, rfl⟩
theorem dX4_hoursTo_31 : DD cX4_hoursTo 31 (.iload_n 3) 1 32 := ⟨by decide +kernel, rfl⟩
theorem dX4_hoursTo_32 : DD cX4_hoursTo 32 (.aload_n 0) 1 33 := ⟨by decide +kernel, rfl⟩
theorem dX4_hoursTo_33 : DD cX4_hoursTo 33 (.iload 4) 2 35 := ⟨by decide +kernel, rfl⟩
theorem dX4_hoursTo_35 : DD cX4_hoursTo 35 (.invokestatic 17) 3 38 := ⟨by decide +kernel, rfl⟩
theorem dX4_hoursTo_38 : DD cX4_hoursTo 38 (.invokestatic 21) 3 41 := ⟨by decide +kernel, rfl⟩
theorem dX4_hoursTo_41 : DD cX4_hoursTo 41 (.istore_n 3) 1 42 := ⟨by decide +kernel, rfl⟩
theorem dX4_hoursTo_42 : DD cX4_hoursTo 42 (.iinc 4 1) 3 45 := ⟨by decide +kernel, rfl⟩
theorem dX4_hoursTo_45 : DD cX4_hoursTo 45 (.goto (-38)) 3 48 := ⟨by decide +kernel, rfl⟩
theorem dX4_hoursTo_48 : DD cX4_hoursTo 48 (.iconst (-1)) 1 49 := ⟨by decide +kernel, rfl⟩
theorem dX4_hoursTo_49 : DD cX4_hoursTo 49 (.ireturn) 1 50 := ⟨by decide +kernel, rfl⟩
def gX4_hoursTo : Nat → Int32 → Int32 → Int32 → Mem → Option (Int32 × Mem)
  | 0, _, _, _, _ => none
  | f + 1, x2, x3, x4, m => (if (240 : Int32) < x4 then (some ((-1 : Int32), m)) else (if ((x3 >>> (x2 &&& 31)) &&& (1 : Int32)) = (1 : Int32) then (some (x4, m)) else (cI (fX4_whoIsAwakeBehind m x4) fun r3 m4 => (cP (fX4_handOn m4 (m.2.2 26 1) x3 r3) fun r5 => (gX4_hoursTo f x2 r5 (x4 + (1 : Int32)) m4)))))
def fX4_hoursTo (m : Mem) (x1 : Int32) (x2 : Int32) : Option (Int32 × Mem) := (nm ((1 : Int32) <<< (x1 &&& 31)) fun v1 => (gX4_hoursTo 5000 x2 v1 (0 : Int32) m))
set_option maxHeartbeats 4000000 in
set_option maxRecDepth 100000 in
theorem wX4_hoursTo {X : Cx} {G : Gt} (h : OkX (X, G, wC, nC) cX4_hoursTo RX4 5 (some .int) 6) : ∀ f : Nat, (∀ (x2 : Int32) (x3 : Int32) (x4 : Int32) (m : Mem), JR (X, G, wC, nC) cvI m 7 [some (.ref (G.2.2 26)), none, some (.int x2), some (.int x3), some (.int x4)] [] (gX4_hoursTo f x2 x3 x4 m)) := by
  intro f
  induction f with
  | zero => exact (fun _ _ _ _ => j_none)
  | succ f ih =>
    intro x2 x3 x4 m
    rw [gX4_hoursTo]
    refine j_iload h dX4_hoursTo_7 rfl ?_
    refine j_sipush (v := (240 : Int32)) h dX4_hoursTo_9 ksipush_240 ?_
    refine j_icmp_gt (tgt := 48) h dX4_hoursTo_12 (by decide) (fun c1 => ?_) (fun c1 => ?_)
    · refine j_iconst (v := (-1 : Int32)) h dX4_hoursTo_48 kiconst_m1 ?_
      exact j_iret h rfl dX4_hoursTo_49
    · refine j_iload_n h dX4_hoursTo_15 rfl ?_
      refine j_iload_n h dX4_hoursTo_16 rfl ?_
      refine j_ishr h dX4_hoursTo_17 ?_
      refine j_iconst (v := (1 : Int32)) h dX4_hoursTo_18 kiconst_1 ?_
      refine j_iand h dX4_hoursTo_19 ?_
      refine j_iconst (v := (1 : Int32)) h dX4_hoursTo_20 kiconst_1 ?_
      refine j_icmp_ne (tgt := 27) h dX4_hoursTo_21 (by decide) (fun c2 => ?_) (fun c2 => ?_)
      · refine j_aload_n h dX4_hoursTo_27 rfl ?_
        refine gC4_11 h dX4_hoursTo_28 ?_
        refine j_iload_n h dX4_hoursTo_31 rfl ?_
        refine j_aload_n h dX4_hoursTo_32 rfl ?_
        refine j_iload h dX4_hoursTo_33 rfl ?_
        refine j_callSI h [.ref (G.2.2 26), .int x4] (kX4_whoIsAwakeBehind _ G h.2.2.2.2.2.2.2.2.2.2 m x4) okX4_whoIsAwakeBehind stX4_whoIsAwakeBehind ml4_17 rfl rfl (by decide) (by decide) (Nat.le_of_ble_eq_true rfl) rfl dX4_hoursTo_35 (fun r3 m4 hr3 => ?_)
        refine j_callSP h [.ref (G.2.2 (m.2.2 26 1)), .int x3, .int r3] (kX4_handOn _ G h.2.2.2.2.2.2.2.2.2.2 m4 (m.2.2 26 1) x3 r3) okX4_handOn stX4_handOn ml4_21 rfl rfl (by decide) (by decide) (Nat.le_of_ble_eq_true rfl) rfl dX4_hoursTo_38 (fun r5 hr5 => ?_)
        refine j_istore_n h dX4_hoursTo_41 rfl rfl ?_
        refine j_iinc (v := (x4 + (1 : Int32))) h dX4_hoursTo_42 rfl (by rw [kiconst_1]) rfl ?_
        refine j_goto (tgt := 7) h dX4_hoursTo_45 (by decide) ?_
        refine j_wk (ls' := [some (.ref (G.2.2 26)), none, some (.int x2), some (.int r5), some (.int (x4 + (1 : Int32)))]) (And.intro rfl (And.intro rfl (And.intro rfl (And.intro rfl trivial)))) ?_
        exact ih x2 r5 (x4 + (1 : Int32)) m4
      · refine j_iload h dX4_hoursTo_24 rfl ?_
        exact j_iret h rfl dX4_hoursTo_26
set_option maxHeartbeats 4000000 in
set_option maxRecDepth 100000 in
theorem kX4_hoursTo (l : Launch) (G : Gt) (hD : ∀ m, va_D (inA G nC) (wC G m)) (m : Mem) (x1 : Int32) (x2 : Int32) : ∀ a, fX4_hoursTo m x1 x2 = some a → Ct l G wC nC yX4_hoursTo cX4_hoursTo 5 (some .int) 6 [.ref (G.2.2 26), .int x1, .int x2] m (cvI a) := by
  refine ct_of (own := RX4) (ls0 := [some (.ref (G.2.2 26)), some (.int x1), some (.int x2), none, none]) (by decide) rfl rfl rfl (Nat.le_of_ble_eq_true rfl) hD (fun X h => ?_) l
  unfold fX4_hoursTo
  refine j_iconst (v := (1 : Int32)) h dX4_hoursTo_0 kiconst_1 ?_
  refine j_iload_n h dX4_hoursTo_1 rfl ?_
  refine j_ishl h dX4_hoursTo_2 ?_
  refine j_nm (fun v1 hv1 => ?_)
  refine j_istore_n h dX4_hoursTo_3 rfl rfl ?_
  refine j_iconst (v := (0 : Int32)) h dX4_hoursTo_4 kiconst_0 ?_
  refine j_istore h dX4_hoursTo_5 rfl rfl ?_
  refine j_wk (ls' := [some (.ref (G.2.2 26)), none, some (.int x2), some (.int v1), some (.int (0 : Int32))]) (And.intro rfl (And.intro rfl (And.intro rfl (And.intro rfl trivial)))) ?_
  exact (wX4_hoursTo h 5000) x2 v1 (0 : Int32) m
theorem dX4_whoHasIt_0 : DD cX4_whoHasIt 0 (.iconst 1) 1 1 := ⟨by decide +kernel, rfl⟩
theorem dX4_whoHasIt_1 : DD cX4_whoHasIt 1 (.iload_n 1) 1 2 := ⟨by decide +kernel, rfl⟩
theorem dX4_whoHasIt_2 : DD cX4_whoHasIt 2 (.ishl) 1 3 := ⟨by decide +kernel, rfl⟩
theorem dX4_whoHasIt_3 : DD cX4_whoHasIt 3 (.istore_n 3) 1 4 := ⟨by decide +kernel, rfl⟩
theorem dX4_whoHasIt_4 : DD cX4_whoHasIt 4 (.iconst 0) 1 5 := ⟨by decide +kernel, rfl⟩
theorem dX4_whoHasIt_5 : DD cX4_whoHasIt 5 (.istore 4) 2 7 := ⟨by decide +kernel, rfl⟩
theorem dX4_whoHasIt_7 : DD cX4_whoHasIt 7 (.iload 4) 2 9 := ⟨by decide +kernel, rfl⟩
theorem dX4_whoHasIt_9 : DD cX4_whoHasIt 9 (.iload_n 2) 1 10 := ⟨by decide +kernel, rfl⟩
theorem dX4_whoHasIt_10 : DD cX4_whoHasIt 10 (.if_icmp .ge 24) 3 13 := ⟨by decide +kernel, rfl⟩
theorem dX4_whoHasIt_13 : DD cX4_whoHasIt 13 (.aload_n 0) 1 14 := ⟨by decide +kernel, rfl⟩
theorem dX4_whoHasIt_14 : DD cX4_whoHasIt 14 (.getfield 11) 3 17 := ⟨by decide +kernel, rfl⟩
theorem dX4_whoHasIt_17 : DD cX4_whoHasIt 17 (.iload_n 3) 1 18 := ⟨by decide +kernel, rfl⟩
theorem dX4_whoHasIt_18 : DD cX4_whoHasIt 18 (.aload_n 0) 1 19 := ⟨by decide +kernel, rfl⟩
theorem dX4_whoHasIt_19 : DD cX4_whoHasIt 19 (.iload 4) 2 21 := ⟨by decide +kernel, rfl⟩
theorem dX4_whoHasIt_21 : DD cX4_whoHasIt 21 (.invokestatic 17) 3 24 := ⟨by decide +kernel, rfl⟩
theorem dX4_whoHasIt_24 : DD cX4_whoHasIt 24 (.invokestatic 21) 3 27 := ⟨by decide +kernel, rfl⟩
theorem dX4_whoHasIt_27 : DD cX4_whoHasIt 27 (.istore_n 3) 1 28 := ⟨by decide +kernel, rfl⟩
theorem dX4_whoHasIt_28 : DD cX4_whoHasIt 28 (.iinc 4 1) 3 31 := ⟨by decide +kernel, rfl⟩
theorem dX4_whoHasIt_31 : DD cX4_whoHasIt 31 (.goto (-24)) 3 34 := ⟨by decide +kernel, rfl⟩
theorem dX4_whoHasIt_34 : DD cX4_whoHasIt 34 (.iload_n 3) 1 35 := ⟨by decide +kernel, rfl⟩
theorem dX4_whoHasIt_35 : DD cX4_whoHasIt 35 (.ireturn) 1 36 := ⟨by decide +kernel, rfl⟩
def gX4_whoHasIt : Nat → Int32 → Int32 → Int32 → Mem → Option (Int32 × Mem)
  | 0, _, _, _, _ => none
  | f + 1, x2, x3, x4, m => (if x2 ≤ x4 then (some (x3, m)) else (cI (fX4_whoIsAwakeBehind m x4) fun r2 m3 => (cP (fX4_handOn m3 (m.2.2 26 1) x3 r2) fun r4 => (gX4_whoHasIt f x2 r4 (x4 + (1 : Int32)) m3))))
def fX4_whoHasIt (m : Mem) (x1 : Int32) (x2 : Int32) : Option (Int32 × Mem) := (nm ((1 : Int32) <<< (x1 &&& 31)) fun v1 => (gX4_whoHasIt 5000 x2 v1 (0 : Int32) m))
set_option maxHeartbeats 4000000 in
set_option maxRecDepth 100000 in
theorem wX4_whoHasIt {X : Cx} {G : Gt} (h : OkX (X, G, wC, nC) cX4_whoHasIt RX4 5 (some .int) 6) : ∀ f : Nat, (∀ (x2 : Int32) (x3 : Int32) (x4 : Int32) (m : Mem), JR (X, G, wC, nC) cvI m 7 [some (.ref (G.2.2 26)), none, some (.int x2), some (.int x3), some (.int x4)] [] (gX4_whoHasIt f x2 x3 x4 m)) := by
  intro f
  induction f with
  | zero => exact (fun _ _ _ _ => j_none)
  | succ f ih =>
    intro x2 x3 x4 m
    rw [gX4_whoHasIt]
    refine j_iload h dX4_whoHasIt_7 rfl ?_
    refine j_iload_n h dX4_whoHasIt_9 rfl ?_
    refine j_icmp_ge (tgt := 34) h dX4_whoHasIt_10 (by decide) (fun c1 => ?_) (fun c1 => ?_)
    · refine j_iload_n h dX4_whoHasIt_34 rfl ?_
      exact j_iret h rfl dX4_whoHasIt_35
    · refine j_aload_n h dX4_whoHasIt_13 rfl ?_
      refine gC4_11 h dX4_whoHasIt_14 ?_
      refine j_iload_n h dX4_whoHasIt_17 rfl ?_
      refine j_aload_n h dX4_whoHasIt_18 rfl ?_
      refine j_iload h dX4_whoHasIt_19 rfl ?_
      refine j_callSI h [.ref (G.2.2 26), .int x4] (kX4_whoIsAwakeBehind _ G h.2.2.2.2.2.2.2.2.2.2 m x4) okX4_whoIsAwakeBehind stX4_whoIsAwakeBehind ml4_17 rfl rfl (by decide) (by decide) (Nat.le_of_ble_eq_true rfl) rfl dX4_whoHasIt_21 (fun r2 m3 hr2 => ?_)
      refine j_callSP h [.ref (G.2.2 (m.2.2 26 1)), .int x3, .int r2] (kX4_handOn _ G h.2.2.2.2.2.2.2.2.2.2 m3 (m.2.2 26 1) x3 r2) okX4_handOn stX4_handOn ml4_21 rfl rfl (by decide) (by decide) (Nat.le_of_ble_eq_true rfl) rfl dX4_whoHasIt_24 (fun r4 hr4 => ?_)
      refine j_istore_n h dX4_whoHasIt_27 rfl rfl ?_
      refine j_iinc (v := (x4 + (1 : Int32))) h dX4_whoHasIt_28 rfl (by rw [kiconst_1]) rfl ?_
      refine j_goto (tgt := 7) h dX4_whoHasIt_31 (by decide) ?_
      refine j_wk (ls' := [some (.ref (G.2.2 26)), none, some (.int x2), some (.int r4), some (.int (x4 + (1 : Int32)))]) (And.intro rfl (And.intro rfl (And.intro rfl (And.intro rfl trivial)))) ?_
      exact ih x2 r4 (x4 + (1 : Int32)) m3
set_option maxHeartbeats 4000000 in
set_option maxRecDepth 100000 in
theorem kX4_whoHasIt (l : Launch) (G : Gt) (hD : ∀ m, va_D (inA G nC) (wC G m)) (m : Mem) (x1 : Int32) (x2 : Int32) : ∀ a, fX4_whoHasIt m x1 x2 = some a → Ct l G wC nC yX4_whoHasIt cX4_whoHasIt 5 (some .int) 6 [.ref (G.2.2 26), .int x1, .int x2] m (cvI a) := by
  refine ct_of (own := RX4) (ls0 := [some (.ref (G.2.2 26)), some (.int x1), some (.int x2), none, none]) (by decide) rfl rfl rfl (Nat.le_of_ble_eq_true rfl) hD (fun X h => ?_) l
  unfold fX4_whoHasIt
  refine j_iconst (v := (1 : Int32)) h dX4_whoHasIt_0 kiconst_1 ?_
  refine j_iload_n h dX4_whoHasIt_1 rfl ?_
  refine j_ishl h dX4_whoHasIt_2 ?_
  refine j_nm (fun v1 hv1 => ?_)
  refine j_istore_n h dX4_whoHasIt_3 rfl rfl ?_
  refine j_iconst (v := (0 : Int32)) h dX4_whoHasIt_4 kiconst_0 ?_
  refine j_istore h dX4_whoHasIt_5 rfl rfl ?_
  refine j_wk (ls' := [some (.ref (G.2.2 26)), none, some (.int x2), some (.int v1), some (.int (0 : Int32))]) (And.intro rfl (And.intro rfl (And.intro rfl (And.intro rfl trivial)))) ?_
  exact (wX4_whoHasIt h 5000) x2 v1 (0 : Int32) m
theorem dX9_everybody_0 : DD cX9_everybody 0 (.iconst 1) 1 1 := ⟨by decide +kernel, rfl⟩
theorem dX9_everybody_1 : DD cX9_everybody 1 (.aload_n 0) 1 2 := ⟨by decide +kernel, rfl⟩
theorem dX9_everybody_2 : DD cX9_everybody 2 (.getfield 21) 3 5 := ⟨by decide +kernel, rfl⟩
theorem dX9_everybody_5 : DD cX9_everybody 5 (.getfield 50) 3 8 := ⟨by decide +kernel, rfl⟩
theorem dX9_everybody_8 : DD cX9_everybody 8 (.ishl) 1 9 := ⟨by decide +kernel, rfl⟩
theorem dX9_everybody_9 : DD cX9_everybody 9 (.iconst 1) 1 10 := ⟨by decide +kernel, rfl⟩
theorem dX9_everybody_10 : DD cX9_everybody 10 (.isub) 1 11 := ⟨by decide +kernel, rfl⟩
theorem dX9_everybody_11 : DD cX9_everybody 11 (.ireturn) 1 12 := ⟨by decide +kernel, rfl⟩
def fX9_everybody (m : Mem) : Option Int32 := (gPl (m.2.2 26 1) (some (((1 : Int32) <<< ((m.1 (m.2.2 26 1) 0) &&& 31)) - (1 : Int32))))
set_option maxHeartbeats 4000000 in
set_option maxRecDepth 100000 in
theorem kX9_everybody (l : Launch) (G : Gt) (hD : ∀ m, va_D (inA G nC) (wC G m)) (m : Mem) : ∀ a, fX9_everybody m = some a → Ct l G wC nC yX9_everybody cX9_everybody 1 (some .int) 1 [.ref (G.2.2 26)] m ((cvP m) a) := by
  refine ct_of (own := RX9) (ls0 := [some (.ref (G.2.2 26))]) (by decide) rfl rfl rfl (Nat.le_of_ble_eq_true rfl) hD (fun X h => ?_) l
  unfold fX9_everybody
  refine j_iconst (v := (1 : Int32)) h dX9_everybody_0 kiconst_1 ?_
  refine j_aload_n h dX9_everybody_1 rfl ?_
  refine gC9_21 h dX9_everybody_2 ?_
  refine j_gPl (fun hg1 => ?_)
  refine gC9_50 h hg1 dX9_everybody_5 ?_
  refine j_ishl h dX9_everybody_8 ?_
  refine j_iconst (v := (1 : Int32)) h dX9_everybody_9 kiconst_1 ?_
  refine j_isub h dX9_everybody_10 ?_
  exact j_iret h rfl dX9_everybody_11
theorem dX4_fewestWoken_0 : DD cX4_fewestWoken 0 (.aload_n 0) 1 1 := ⟨by decide +kernel, rfl⟩
theorem dX4_fewestWoken_1 : DD cX4_fewestWoken 1 (.iconst 0) 1 2 := ⟨by decide +kernel, rfl⟩
theorem dX4_fewestWoken_2 : DD cX4_fewestWoken 2 (.invokestatic 17) 3 5 := ⟨by decide +kernel, rfl⟩
theorem dX4_fewestWoken_5 : DD cX4_fewestWoken 5 (.istore_n 3) 1 6 := ⟨by decide +kernel, rfl⟩
theorem dX4_fewestWoken_6 : DD cX4_fewestWoken 6 (.iconst (-1)) 1 7 := ⟨by decide +kernel, rfl⟩
theorem dX4_fewestWoken_7 : DD cX4_fewestWoken 7 (.istore 4) 2 9 := ⟨by decide +kernel, rfl⟩
theorem dX4_fewestWoken_9 : DD cX4_fewestWoken 9 (.iconst 0) 1 10 := ⟨by decide +kernel, rfl⟩
theorem dX4_fewestWoken_10 : DD cX4_fewestWoken 10 (.istore 5) 2 12 := ⟨by decide +kernel, rfl⟩
theorem dX4_fewestWoken_12 : DD cX4_fewestWoken 12 (.iload 5) 2 14 := ⟨by decide +kernel, rfl⟩
theorem dX4_fewestWoken_14 : DD cX4_fewestWoken 14 (.aload_n 0) 1 15 := ⟨by decide +kernel, rfl⟩
theorem dX4_fewestWoken_15 : DD cX4_fewestWoken 15 (.invokevirtual 25) 3 18 := ⟨by decide +kernel, rfl⟩
theorem dX4_fewestWoken_18 : DD cX4_fewestWoken 18 (.if_icmp .gt 82) 3 21 := ⟨by decide +kernel, rfl⟩
theorem dX4_fewestWoken_21 : DD cX4_fewestWoken 21 (.iload 4) 2 23 := ⟨by decide +kernel, rfl⟩
theorem dX4_fewestWoken_23 : DD cX4_fewestWoken 23 (.iconst (-1)) 1 24 := ⟨by decide +kernel, rfl⟩
theorem dX4_fewestWoken_24 : DD cX4_fewestWoken 24 (.if_icmp .eq 16) 3 27 := ⟨by decide +kernel, rfl⟩
theorem dX4_fewestWoken_27 : DD cX4_fewestWoken 27 (.iload 5) 2 29 := ⟨by decide +kernel, rfl⟩
theorem dX4_fewestWoken_29 : DD cX4_fewestWoken 29 (.invokestatic 29) 3 32 := ⟨by decide +kernel, rfl⟩
theorem dX4_fewestWoken_32 : DD cX4_fewestWoken 32 (.iload 4) 2 34 := ⟨by decide +kernel, rfl⟩
theorem dX4_fewestWoken_34 : DD cX4_fewestWoken 34 (.invokestatic 29) 3 37 := ⟨by decide +kernel, rfl⟩
theorem dX4_fewestWoken_37 : DD cX4_fewestWoken 37 (.if_icmp .ge 7) 3 40 := ⟨by decide +kernel, rfl⟩
theorem dX4_fewestWoken_40 : DD cX4_fewestWoken 40 (.iconst 1) 1 41 := ⟨by decide +kernel, rfl⟩
theorem dX4_fewestWoken_41 : DD cX4_fewestWoken 41 (.goto 4) 3 44 := ⟨by decide +kernel, rfl⟩
theorem dX4_fewestWoken_44 : DD cX4_fewestWoken 44 (.iconst 0) 1 45 := ⟨by decide +kernel, rfl⟩
theorem dX4_fewestWoken_45 : DD cX4_fewestWoken 45 (.istore 6) 2 47 := ⟨by decide +kernel, rfl⟩
theorem dX4_fewestWoken_47 : DD cX4_fewestWoken 47 (.iload 6) 2 49 := ⟨by decide +kernel, rfl⟩
theorem dX4_fewestWoken_49 : DD cX4_fewestWoken 49 (.ifCond .eq 45) 3 52 := ⟨by decide +kernel, rfl⟩
theorem dX4_fewestWoken_52 : DD cX4_fewestWoken 52 (.iload 5) 2 54 := ⟨by decide +kernel, rfl⟩
theorem dX4_fewestWoken_54 : DD cX4_fewestWoken 54 (.iload_n 3) 1 55 := ⟨by decide +kernel, rfl⟩
theorem dX4_fewestWoken_55 : DD cX4_fewestWoken 55 (.iand) 1 56 := ⟨by decide +kernel, rfl⟩
theorem dX4_fewestWoken_56 : DD cX4_fewestWoken 56 (.ifCond .ne 38) 3 59 := ⟨by decide +kernel, rfl⟩
theorem dX4_fewestWoken_59 : DD cX4_fewestWoken 59 (.aload_n 0) 1 60 := ⟨by decide +kernel, rfl⟩
theorem dX4_fewestWoken_60 : DD cX4_fewestWoken 60 (.getfield 11) 3 63 := ⟨by decide +kernel, rfl⟩
theorem dX4_fewestWoken_63 : DD cX4_fewestWoken 63 (.iconst 1) 1 64 := ⟨by decide +kernel, rfl⟩
theorem dX4_fewestWoken_64 : DD cX4_fewestWoken 64 (.iload_n 1) 1 65 := ⟨by decide +kernel, rfl⟩
theorem dX4_fewestWoken_65 : DD cX4_fewestWoken 65 (.ishl) 1 66 := ⟨by decide +kernel, rfl⟩
theorem dX4_fewestWoken_66 : DD cX4_fewestWoken 66 (.iload_n 3) 1 67 := ⟨by decide +kernel, rfl⟩
theorem dX4_fewestWoken_67 : DD cX4_fewestWoken 67 (.iload 5) 2 69 := ⟨by decide +kernel, rfl⟩
theorem dX4_fewestWoken_69 : DD cX4_fewestWoken 69 (.ior) 1 70 := ⟨by decide +kernel, rfl⟩
theorem dX4_fewestWoken_70 : DD cX4_fewestWoken 70 (.invokestatic 21) 3 73 := ⟨by decide +kernel, rfl⟩
theorem dX4_fewestWoken_73 : DD cX4_fewestWoken 73 (.istore 7) 2 75 := ⟨by decide +kernel, rfl⟩
theorem dX4_fewestWoken_75 : DD cX4_fewestWoken 75 (.iload 7) 2 77 := ⟨by decide +kernel, rfl⟩
theorem dX4_fewestWoken_77 : DD cX4_fewestWoken 77 (.iload_n 2) 1 78 := ⟨by decide +kernel, rfl⟩
theorem dX4_fewestWoken_78 : DD cX4_fewestWoken 78 (.ishr) 1 79 := ⟨by decide +kernel, rfl⟩
theorem dX4_fewestWoken_79 : DD cX4_fewestWoken 79 (.iconst 1) 1 80 := ⟨by decide +kernel, rfl⟩
theorem dX4_fewestWoken_80 : DD cX4_fewestWoken 80 (.iand) 1 81 := ⟨by decide +kernel, rfl⟩
theorem dX4_fewestWoken_81 : DD cX4_fewestWoken 81 (.iconst 1) 1 82 := ⟨by decide +kernel, rfl⟩
theorem dX4_fewestWoken_82 : DD cX4_fewestWoken 82 (.if_icmp .ne 8) 3 85 := ⟨by decide +kernel, rfl⟩
theorem dX4_fewestWoken_85 : DD cX4_fewestWoken 85 (.iload 5) 2 87 := ⟨by decide +kernel, rfl⟩
theorem dX4_fewestWoken_87 : DD cX4_fewestWoken 87 (.goto 5) 3 90 := ⟨by decide +kernel, rfl⟩
theorem dX4_fewestWoken_90 : DD cX4_fewestWoken 90 (.iload 4) 2 92 := ⟨by decide +kernel, rfl⟩
theorem dX4_fewestWoken_92 : DD cX4_fewestWoken 92 (.istore 4) 2 94 := ⟨by decide +kernel, rfl⟩
theorem dX4_fewestWoken_94 : DD cX4_fewestWoken 94 (.iinc 5 1) 3 97 := ⟨by decide +kernel, rfl⟩
theorem dX4_fewestWoken_97 : DD cX4_fewestWoken 97 (.goto (-85)) 3 100 := ⟨by decide +kernel, rfl⟩
theorem dX4_fewestWoken_100 : DD cX4_fewestWoken 100 (.iload 4) 2 102 := ⟨by decide +kernel, rfl⟩
theorem dX4_fewestWoken_102 : DD cX4_fewestWoken 102 (.ireturn) 1 103 := ⟨by decide +kernel, rfl⟩
def gX4_fewestWoken : Nat → Int32 → Int32 → Int32 → Int32 → Int32 → Mem → Option (Int32 × Mem)
  | 0, _, _, _, _, _, _ => none
  | f + 1, x1, x2, x3, x4, x5, m => (cP (fX9_everybody m) fun r1 => (if r1 < x5 then (some (x4, m)) else (if x4 = (-1 : Int32) then (if (x5 &&& x3) = 0 then (cP (fX4_handOn m (m.2.2 26 1) ((1 : Int32) <<< (x1 &&& 31)) (x3 ||| x5)) fun r6 => (if ((r6 >>> (x2 &&& 31)) &&& (1 : Int32)) = (1 : Int32) then (gX4_fewestWoken f x1 x2 x3 x5 (x5 + (1 : Int32)) m) else (gX4_fewestWoken f x1 x2 x3 x4 (x5 + (1 : Int32)) m))) else (gX4_fewestWoken f x1 x2 x3 x4 (x5 + (1 : Int32)) m)) else (cP (fJ6_bitCount_0f7a4 x5) fun r9 => (cP (fJ6_bitCount_0f7a4 x4) fun r11 => (if r11 ≤ r9 then (gX4_fewestWoken f x1 x2 x3 x4 (x5 + (1 : Int32)) m) else (if (x5 &&& x3) = 0 then (cP (fX4_handOn m (m.2.2 26 1) ((1 : Int32) <<< (x1 &&& 31)) (x3 ||| x5)) fun r15 => (if ((r15 >>> (x2 &&& 31)) &&& (1 : Int32)) = (1 : Int32) then (gX4_fewestWoken f x1 x2 x3 x5 (x5 + (1 : Int32)) m) else (gX4_fewestWoken f x1 x2 x3 x4 (x5 + (1 : Int32)) m))) else (gX4_fewestWoken f x1 x2 x3 x4 (x5 + (1 : Int32)) m))))))))
def fX4_fewestWoken (m : Mem) (x1 : Int32) (x2 : Int32) : Option (Int32 × Mem) := (cI (fX4_whoIsAwakeBehind m (0 : Int32)) fun r1 m2 => (gX4_fewestWoken 5000 x1 x2 r1 (-1 : Int32) (0 : Int32) m2))
set_option maxHeartbeats 4000000 in
set_option maxRecDepth 100000 in
theorem wX4_fewestWoken {X : Cx} {G : Gt} (h : OkX (X, G, wC, nC) cX4_fewestWoken RX4 8 (some .int) 6) : ∀ f : Nat, (∀ (x1 : Int32) (x2 : Int32) (x3 : Int32) (x4 : Int32) (x5 : Int32) (m : Mem), JR (X, G, wC, nC) cvI m 12 [some (.ref (G.2.2 26)), some (.int x1), some (.int x2), some (.int x3), some (.int x4), some (.int x5), none, none] [] (gX4_fewestWoken f x1 x2 x3 x4 x5 m)) := by
  intro f
  induction f with
  | zero => exact (fun _ _ _ _ _ _ => j_none)
  | succ f ih =>
    intro x1 x2 x3 x4 x5 m
    rw [gX4_fewestWoken]
    refine j_iload h dX4_fewestWoken_12 rfl ?_
    refine j_aload_n h dX4_fewestWoken_14 rfl ?_
    refine j_callVP (q0 := 26) (ci := 9) h [] (kX9_everybody _ G h.2.2.2.2.2.2.2.2.2.2 m) okX9_everybody inX9_everybody ml4_25 rfl rfl rfl rfl (by decide) (by decide) (Nat.le_of_ble_eq_true rfl) rfl dX4_fewestWoken_15 (fun r1 hr1 => ?_)
    refine j_icmp_gt (tgt := 100) h dX4_fewestWoken_18 (by decide) (fun c3 => ?_) (fun c3 => ?_)
    · refine j_iload h dX4_fewestWoken_100 rfl ?_
      exact j_iret h rfl dX4_fewestWoken_102
    · refine j_iload h dX4_fewestWoken_21 rfl ?_
      refine j_iconst (v := (-1 : Int32)) h dX4_fewestWoken_23 kiconst_m1 ?_
      refine j_icmp_eq (tgt := 40) h dX4_fewestWoken_24 (by decide) (fun c4 => ?_) (fun c4 => ?_)
      · refine j_iconst (v := (1 : Int32)) h dX4_fewestWoken_40 kiconst_1 ?_
        refine j_goto (tgt := 45) h dX4_fewestWoken_41 (by decide) ?_
        refine j_istore h dX4_fewestWoken_45 rfl rfl ?_
        refine j_iload h dX4_fewestWoken_47 rfl ?_
        refine j_if_eqB (tgt := 94) h dX4_fewestWoken_49 (by decide) (fun cc => absurd cc (by decide)) (fun _ => ?_)
        refine j_iload h dX4_fewestWoken_52 rfl ?_
        refine j_iload_n h dX4_fewestWoken_54 rfl ?_
        refine j_iand h dX4_fewestWoken_55 ?_
        refine j_if_ne (tgt := 94) h dX4_fewestWoken_56 (by decide) (fun c5 => ?_) (fun c5 => ?_)
        · refine j_iinc (v := (x5 + (1 : Int32))) h dX4_fewestWoken_94 rfl (by rw [kiconst_1]) rfl ?_
          refine j_goto (tgt := 12) h dX4_fewestWoken_97 (by decide) ?_
          refine j_wk (ls' := [some (.ref (G.2.2 26)), some (.int x1), some (.int x2), some (.int x3), some (.int x4), some (.int (x5 + (1 : Int32))), none, none]) (And.intro rfl (And.intro rfl (And.intro rfl (And.intro rfl (And.intro rfl (And.intro rfl trivial)))))) ?_
          exact ih x1 x2 x3 x4 (x5 + (1 : Int32)) m
        · refine j_aload_n h dX4_fewestWoken_59 rfl ?_
          refine gC4_11 h dX4_fewestWoken_60 ?_
          refine j_iconst (v := (1 : Int32)) h dX4_fewestWoken_63 kiconst_1 ?_
          refine j_iload_n h dX4_fewestWoken_64 rfl ?_
          refine j_ishl h dX4_fewestWoken_65 ?_
          refine j_iload_n h dX4_fewestWoken_66 rfl ?_
          refine j_iload h dX4_fewestWoken_67 rfl ?_
          refine j_ior h dX4_fewestWoken_69 ?_
          refine j_callSP h [.ref (G.2.2 (m.2.2 26 1)), .int ((1 : Int32) <<< (x1 &&& 31)), .int (x3 ||| x5)] (kX4_handOn _ G h.2.2.2.2.2.2.2.2.2.2 m (m.2.2 26 1) ((1 : Int32) <<< (x1 &&& 31)) (x3 ||| x5)) okX4_handOn stX4_handOn ml4_21 rfl rfl (by decide) (by decide) (Nat.le_of_ble_eq_true rfl) rfl dX4_fewestWoken_70 (fun r6 hr6 => ?_)
          refine j_istore h dX4_fewestWoken_73 rfl rfl ?_
          refine j_iload h dX4_fewestWoken_75 rfl ?_
          refine j_iload_n h dX4_fewestWoken_77 rfl ?_
          refine j_ishr h dX4_fewestWoken_78 ?_
          refine j_iconst (v := (1 : Int32)) h dX4_fewestWoken_79 kiconst_1 ?_
          refine j_iand h dX4_fewestWoken_80 ?_
          refine j_iconst (v := (1 : Int32)) h dX4_fewestWoken_81 kiconst_1 ?_
          refine j_icmp_ne (tgt := 90) h dX4_fewestWoken_82 (by decide) (fun c8 => ?_) (fun c8 => ?_)
          · refine j_iload h dX4_fewestWoken_90 rfl ?_
            refine j_istore h dX4_fewestWoken_92 rfl rfl ?_
            refine j_iinc (v := (x5 + (1 : Int32))) h dX4_fewestWoken_94 rfl (by rw [kiconst_1]) rfl ?_
            refine j_goto (tgt := 12) h dX4_fewestWoken_97 (by decide) ?_
            refine j_wk (ls' := [some (.ref (G.2.2 26)), some (.int x1), some (.int x2), some (.int x3), some (.int x4), some (.int (x5 + (1 : Int32))), none, none]) (And.intro rfl (And.intro rfl (And.intro rfl (And.intro rfl (And.intro rfl (And.intro rfl trivial)))))) ?_
            exact ih x1 x2 x3 x4 (x5 + (1 : Int32)) m
          · refine j_iload h dX4_fewestWoken_85 rfl ?_
            refine j_goto (tgt := 92) h dX4_fewestWoken_87 (by decide) ?_
            refine j_istore h dX4_fewestWoken_92 rfl rfl ?_
            refine j_iinc (v := (x5 + (1 : Int32))) h dX4_fewestWoken_94 rfl (by rw [kiconst_1]) rfl ?_
            refine j_goto (tgt := 12) h dX4_fewestWoken_97 (by decide) ?_
            refine j_wk (ls' := [some (.ref (G.2.2 26)), some (.int x1), some (.int x2), some (.int x3), some (.int x5), some (.int (x5 + (1 : Int32))), none, none]) (And.intro rfl (And.intro rfl (And.intro rfl (And.intro rfl (And.intro rfl (And.intro rfl trivial)))))) ?_
            exact ih x1 x2 x3 x5 (x5 + (1 : Int32)) m
      · refine j_iload h dX4_fewestWoken_27 rfl ?_
        refine j_callSP h [.int x5] (kJ6_bitCount_0f7a4 _ G h.2.2.2.2.2.2.2.2.2.2 m x5) okJ6_bitCount_0f7a4 stJ6_bitCount_0f7a4 ml4_29 rfl rfl (by decide) (by decide) (Nat.le_of_ble_eq_true rfl) rfl dX4_fewestWoken_29 (fun r9 hr9 => ?_)
        refine j_iload h dX4_fewestWoken_32 rfl ?_
        refine j_callSP h [.int x4] (kJ6_bitCount_0f7a4 _ G h.2.2.2.2.2.2.2.2.2.2 m x4) okJ6_bitCount_0f7a4 stJ6_bitCount_0f7a4 ml4_29 rfl rfl (by decide) (by decide) (Nat.le_of_ble_eq_true rfl) rfl dX4_fewestWoken_34 (fun r11 hr11 => ?_)
        refine j_icmp_ge (tgt := 44) h dX4_fewestWoken_37 (by decide) (fun c13 => ?_) (fun c13 => ?_)
        · refine j_iconst (v := (0 : Int32)) h dX4_fewestWoken_44 kiconst_0 ?_
          refine j_istore h dX4_fewestWoken_45 rfl rfl ?_
          refine j_iload h dX4_fewestWoken_47 rfl ?_
          refine j_if_eqB (tgt := 94) h dX4_fewestWoken_49 (by decide) (fun _ => ?_) (fun cc => absurd (by decide) cc)
          refine j_iinc (v := (x5 + (1 : Int32))) h dX4_fewestWoken_94 rfl (by rw [kiconst_1]) rfl ?_
          refine j_goto (tgt := 12) h dX4_fewestWoken_97 (by decide) ?_
          refine j_wk (ls' := [some (.ref (G.2.2 26)), some (.int x1), some (.int x2), some (.int x3), some (.int x4), some (.int (x5 + (1 : Int32))), none, none]) (And.intro rfl (And.intro rfl (And.intro rfl (And.intro rfl (And.intro rfl (And.intro rfl trivial)))))) ?_
          exact ih x1 x2 x3 x4 (x5 + (1 : Int32)) m
        · refine j_iconst (v := (1 : Int32)) h dX4_fewestWoken_40 kiconst_1 ?_
          refine j_goto (tgt := 45) h dX4_fewestWoken_41 (by decide) ?_
          refine j_istore h dX4_fewestWoken_45 rfl rfl ?_
          refine j_iload h dX4_fewestWoken_47 rfl ?_
          refine j_if_eqB (tgt := 94) h dX4_fewestWoken_49 (by decide) (fun cc => absurd cc (by decide)) (fun _ => ?_)
          refine j_iload h dX4_fewestWoken_52 rfl ?_
          refine j_iload_n h dX4_fewestWoken_54 rfl ?_
          refine j_iand h dX4_fewestWoken_55 ?_
          refine j_if_ne (tgt := 94) h dX4_fewestWoken_56 (by decide) (fun c14 => ?_) (fun c14 => ?_)
          · refine j_iinc (v := (x5 + (1 : Int32))) h dX4_fewestWoken_94 rfl (by rw [kiconst_1]) rfl ?_
            refine j_goto (tgt := 12) h dX4_fewestWoken_97 (by decide) ?_
            refine j_wk (ls' := [some (.ref (G.2.2 26)), some (.int x1), some (.int x2), some (.int x3), some (.int x4), some (.int (x5 + (1 : Int32))), none, none]) (And.intro rfl (And.intro rfl (And.intro rfl (And.intro rfl (And.intro rfl (And.intro rfl trivial)))))) ?_
            exact ih x1 x2 x3 x4 (x5 + (1 : Int32)) m
          · refine j_aload_n h dX4_fewestWoken_59 rfl ?_
            refine gC4_11 h dX4_fewestWoken_60 ?_
            refine j_iconst (v := (1 : Int32)) h dX4_fewestWoken_63 kiconst_1 ?_
            refine j_iload_n h dX4_fewestWoken_64 rfl ?_
            refine j_ishl h dX4_fewestWoken_65 ?_
            refine j_iload_n h dX4_fewestWoken_66 rfl ?_
            refine j_iload h dX4_fewestWoken_67 rfl ?_
            refine j_ior h dX4_fewestWoken_69 ?_
            refine j_callSP h [.ref (G.2.2 (m.2.2 26 1)), .int ((1 : Int32) <<< (x1 &&& 31)), .int (x3 ||| x5)] (kX4_handOn _ G h.2.2.2.2.2.2.2.2.2.2 m (m.2.2 26 1) ((1 : Int32) <<< (x1 &&& 31)) (x3 ||| x5)) okX4_handOn stX4_handOn ml4_21 rfl rfl (by decide) (by decide) (Nat.le_of_ble_eq_true rfl) rfl dX4_fewestWoken_70 (fun r15 hr15 => ?_)
            refine j_istore h dX4_fewestWoken_73 rfl rfl ?_
            refine j_iload h dX4_fewestWoken_75 rfl ?_
            refine j_iload_n h dX4_fewestWoken_77 rfl ?_
            refine j_ishr h dX4_fewestWoken_78 ?_
            refine j_iconst (v := (1 : Int32)) h dX4_fewestWoken_79 kiconst_1 ?_
            refine j_iand h dX4_fewestWoken_80 ?_
            refine j_iconst (v := (1 : Int32)) h dX4_fewestWoken_81 kiconst_1 ?_
            refine j_icmp_ne (tgt := 90) h dX4_fewestWoken_82 (by decide) (fun c17 => ?_) (fun c17 => ?_)
            · refine j_iload h dX4_fewestWoken_90 rfl ?_
              refine j_istore h dX4_fewestWoken_92 rfl rfl ?_
              refine j_iinc (v := (x5 + (1 : Int32))) h dX4_fewestWoken_94 rfl (by rw [kiconst_1]) rfl ?_
              refine j_goto (tgt := 12) h dX4_fewestWoken_97 (by decide) ?_
              refine j_wk (ls' := [some (.ref (G.2.2 26)), some (.int x1), some (.int x2), some (.int x3), some (.int x4), some (.int (x5 + (1 : Int32))), none, none]) (And.intro rfl (And.intro rfl (And.intro rfl (And.intro rfl (And.intro rfl (And.intro rfl trivial)))))) ?_
              exact ih x1 x2 x3 x4 (x5 + (1 : Int32)) m
            · refine j_iload h dX4_fewestWoken_85 rfl ?_
              refine j_goto (tgt := 92) h dX4_fewestWoken_87 (by decide) ?_
              refine j_istore h dX4_fewestWoken_92 rfl rfl ?_
              refine j_iinc (v := (x5 + (1 : Int32))) h dX4_fewestWoken_94 rfl (by rw [kiconst_1]) rfl ?_
              refine j_goto (tgt := 12) h dX4_fewestWoken_97 (by decide) ?_
              refine j_wk (ls' := [some (.ref (G.2.2 26)), some (.int x1), some (.int x2), some (.int x3), some (.int x5), some (.int (x5 + (1 : Int32))), none, none]) (And.intro rfl (And.intro rfl (And.intro rfl (And.intro rfl (And.intro rfl (And.intro rfl trivial)))))) ?_
              exact ih x1 x2 x3 x5 (x5 + (1 : Int32)) m
set_option maxHeartbeats 4000000 in
set_option maxRecDepth 100000 in
theorem kX4_fewestWoken (l : Launch) (G : Gt) (hD : ∀ m, va_D (inA G nC) (wC G m)) (m : Mem) (x1 : Int32) (x2 : Int32) : ∀ a, fX4_fewestWoken m x1 x2 = some a → Ct l G wC nC yX4_fewestWoken cX4_fewestWoken 8 (some .int) 6 [.ref (G.2.2 26), .int x1, .int x2] m (cvI a) := by
  refine ct_of (own := RX4) (ls0 := [some (.ref (G.2.2 26)), some (.int x1), some (.int x2), none, none, none, none, none]) (by decide) rfl rfl rfl (Nat.le_of_ble_eq_true rfl) hD (fun X h => ?_) l
  unfold fX4_fewestWoken
  refine j_aload_n h dX4_fewestWoken_0 rfl ?_
  refine j_iconst (v := (0 : Int32)) h dX4_fewestWoken_1 kiconst_0 ?_
  refine j_callSI h [.ref (G.2.2 26), .int (0 : Int32)] (kX4_whoIsAwakeBehind _ G h.2.2.2.2.2.2.2.2.2.2 m (0 : Int32)) okX4_whoIsAwakeBehind stX4_whoIsAwakeBehind ml4_17 rfl rfl (by decide) (by decide) (Nat.le_of_ble_eq_true rfl) rfl dX4_fewestWoken_2 (fun r1 m2 hr1 => ?_)
  refine j_istore_n h dX4_fewestWoken_5 rfl rfl ?_
  refine j_iconst (v := (-1 : Int32)) h dX4_fewestWoken_6 kiconst_m1 ?_
  refine j_istore h dX4_fewestWoken_7 rfl rfl ?_
  refine j_iconst (v := (0 : Int32)) h dX4_fewestWoken_9 kiconst_0 ?_
  refine j_istore h dX4_fewestWoken_10 rfl rfl ?_
  refine j_wk (ls' := [some (.ref (G.2.2 26)), some (.int x1), some (.int x2), some (.int r1), some (.int (-1 : Int32)), some (.int (0 : Int32)), none, none]) (And.intro rfl (And.intro rfl (And.intro rfl (And.intro rfl (And.intro rfl (And.intro rfl trivial)))))) ?_
  exact (wX4_fewestWoken h 5000) x1 x2 r1 (-1 : Int32) (0 : Int32) m2
theorem dX5_forgetAll_0 : DD cX5_forgetAll 0 (.aload_n 0) 1 1 := ⟨by decide +kernel, rfl⟩
theorem dX5_forgetAll_1 : DD cX5_forgetAll 1 (.iconst 0) 1 2 := ⟨by decide +kernel, rfl⟩
theorem dX5_forgetAll_2 : DD cX5_forgetAll 2 (.putfield 31) 3 5 := ⟨by decide +kernel, rfl⟩
theorem dX5_forgetAll_5 : DD cX5_forgetAll 5 (.return_) 1 6 := ⟨by decide +kernel, rfl⟩
def fX5_forgetAll (m : Mem) : Option Mem := (pt (sI m 65 0 (0 : Int32)) fun m1 => (some m1))
set_option maxHeartbeats 4000000 in
set_option maxRecDepth 100000 in
theorem kX5_forgetAll (l : Launch) (G : Gt) (hD : ∀ m, va_D (inA G nC) (wC G m)) (m : Mem) : ∀ a, fX5_forgetAll m = some a → Ct l G wC nC yX5_forgetAll cX5_forgetAll 1 none 1 [.ref (G.2.2 65)] m (cvV a) := by
  refine ct_of (own := RX5) (ls0 := [some (.ref (G.2.2 65))]) (by decide) rfl rfl rfl (Nat.le_of_ble_eq_true rfl) hD (fun X h => ?_) l
  unfold fX5_forgetAll
  refine j_aload_n h dX5_forgetAll_0 rfl ?_
  refine j_iconst (v := (0 : Int32)) h dX5_forgetAll_1 kiconst_0 ?_
  refine pC5_31 h dX5_forgetAll_2 (fun m1 hm1 => ?_)
  exact j_vret h rfl dX5_forgetAll_5
theorem dX5_tell_0 : DD cX5_tell 0 (.aload_n 0) 1 1 := ⟨by decide +kernel, rfl⟩
theorem dX5_tell_1 : DD cX5_tell 1 (.getfield 31) 3 4 := ⟨by decide +kernel, rfl⟩
theorem dX5_tell_4 : DD cX5_tell 4 (.bipush 30) 2 6 := ⟨by decide +kernel, rfl⟩
theorem dX5_tell_6 : DD cX5_tell 6 (.if_icmp .lt 5) 3 9 := ⟨by decide +kernel, rfl⟩
theorem dX5_tell_9 : DD cX5_tell 9 (.iconst (-1)) 1 10 := ⟨by decide +kernel, rfl⟩
theorem dX5_tell_10 : DD cX5_tell 10 (.ireturn) 1 11 := ⟨by decide +kernel, rfl⟩
theorem dX5_tell_11 : DD cX5_tell 11 (.aload_n 0) 1 12 := ⟨by decide +kernel, rfl⟩
theorem dX5_tell_12 : DD cX5_tell 12 (.getfield 11) 3 15 := ⟨by decide +kernel, rfl⟩
theorem dX5_tell_15 : DD cX5_tell 15 (.aload_n 0) 1 16 := ⟨by decide +kernel, rfl⟩
theorem dX5_tell_16 : DD cX5_tell 16 (.getfield 31) 3 19 := ⟨by decide +kernel, rfl⟩
theorem dX5_tell_19 : DD cX5_tell 19 (.iload_n 1) 1 20 := ⟨by decide +kernel, rfl⟩
theorem dX5_tell_20 : DD cX5_tell 20 (.iastore) 1 21 := ⟨by decide +kernel, rfl⟩
theorem dX5_tell_21 : DD cX5_tell 21 (.aload_n 0) 1 22 := ⟨by decide +kernel, rfl⟩
theorem dX5_tell_22 : DD cX5_tell 22 (.getfield 15) 3 25 := ⟨by decide +kernel, rfl⟩
theorem dX5_tell_25 : DD cX5_tell 25 (.aload_n 0) 1 26 := ⟨by decide +kernel, rfl⟩
theorem dX5_tell_26 : DD cX5_tell 26 (.getfield 31) 3 29 := ⟨by decide +kernel, rfl⟩
theorem dX5_tell_29 : DD cX5_tell 29 (.iload_n 2) 1 30 := ⟨by decide +kernel, rfl⟩
theorem dX5_tell_30 : DD cX5_tell 30 (.iastore) 1 31 := ⟨by decide +kernel, rfl⟩
theorem dX5_tell_31 : DD cX5_tell 31 (.aload_n 0) 1 32 := ⟨by decide +kernel, rfl⟩
theorem dX5_tell_32 : DD cX5_tell 32 (.getfield 18) 3 35 := ⟨by decide +kernel, rfl⟩
theorem dX5_tell_35 : DD cX5_tell 35 (.aload_n 0) 1 36 := ⟨by decide +kernel, rfl⟩
theorem dX5_tell_36 : DD cX5_tell 36 (.getfield 31) 3 39 := ⟨by decide +kernel, rfl⟩
theorem dX5_tell_39 : DD cX5_tell 39 (.iload_n 3) 1 40 := ⟨by decide +kernel, rfl⟩
theorem dX5_tell_40 : DD cX5_tell 40 (.bastore) 1 41 := ⟨by decide +kernel, rfl⟩
theorem dX5_tell_41 : DD cX5_tell 41 (.aload_n 0) 1 42 := ⟨by decide +kernel, rfl⟩
theorem dX5_tell_42 : DD cX5_tell 42 (.getfield 22) 3 45 := ⟨by decide +kernel, rfl⟩
theorem dX5_tell_45 : DD cX5_tell 45 (.aload_n 0) 1 46 := ⟨by decide +kernel, rfl⟩
theorem dX5_tell_46 : DD cX5_tell 46 (.getfield 31) 3 49 := ⟨by decide +kernel, rfl⟩
theorem dX5_tell_49 : DD cX5_tell 49 (.aload_n 0) 1 50 := ⟨by decide +kernel, rfl⟩
theorem dX5_tell_50 : DD cX5_tell 50 (.getfield 35) 3 53 := ⟨by decide +kernel, rfl⟩
theorem dX5_tell_53 : DD cX5_tell 53 (.iastore) 1 54 := ⟨by decide +kernel, rfl⟩
theorem dX5_tell_54 : DD cX5_tell 54 (.aload_n 0) 1 55 := ⟨by decide +kernel, rfl⟩
theorem dX5_tell_55 : DD cX5_tell 55 (.getfield 25) 3 58 := ⟨by decide +kernel, rfl⟩
theorem dX5_tell_58 : DD cX5_tell 58 (.aload_n 0) 1 59 := ⟨by decide +kernel, rfl⟩
theorem dX5_tell_59 : DD cX5_tell 59 (.getfield 31) 3 62 := ⟨by decide +kernel, rfl⟩
theorem dX5_tell_62 : DD cX5_tell 62 (.iconst (-1)) 1 63 := ⟨by decide +kernel, rfl⟩
theorem dX5_tell_63 : DD cX5_tell 63 (.iastore) 1 64 := ⟨by decide +kernel, rfl⟩
theorem dX5_tell_64 : DD cX5_tell 64 (.aload_n 0) 1 65 := ⟨by decide +kernel, rfl⟩
theorem dX5_tell_65 : DD cX5_tell 65 (.dup) 1 66 := ⟨by decide +kernel, rfl⟩
theorem dX5_tell_66 : DD cX5_tell 66 (.getfield 31) 3 69 := ⟨by decide +kernel, rfl⟩
theorem dX5_tell_69 : DD cX5_tell 69 (.iconst 1) 1 70 := ⟨by decide +kernel, rfl⟩
theorem dX5_tell_70 : DD cX5_tell 70 (.iadd) 1 71 := ⟨by decide +kernel, rfl⟩
theorem dX5_tell_71 : DD cX5_tell 71 (.putfield 31) 3 74 := ⟨by decide +kernel, rfl⟩
theorem dX5_tell_74 : DD cX5_tell 74 (.aload_n 0) 1 75 := ⟨by decide +kernel, rfl⟩
theorem dX5_tell_75 : DD cX5_tell 75 (.getfield 31) 3 78 := ⟨by decide +kernel, rfl⟩
theorem dX5_tell_78 : DD cX5_tell 78 (.iconst 1) 1 79 := ⟨by decide +kernel, rfl⟩
theorem dX5_tell_79 : DD cX5_tell 79 (.isub) 1 80 := ⟨by decide +kernel, rfl⟩
theorem dX5_tell_80 : DD cX5_tell 80 (.ireturn) 1 81 := ⟨by decide +kernel, rfl⟩
def fX5_tell (m : Mem) (x1 : Int32) (x2 : Int32) (x3 : Int32) : Option (Int32 × Mem) := (if (m.1 65 0) < (30 : Int32) then (wr m 66 30 (m.1 65 0) x1 fun m2 => (wr m2 67 30 (m2.1 65 0) x2 fun m3 => (wr m3 68 30 (m3.1 65 0) (vp_nar .boolean x3) fun m4 => (wr m4 69 30 (m4.1 65 0) (m4.1 65 1) fun m5 => (wr m5 70 30 (m5.1 65 0) (-1 : Int32) fun m6 => (pt (sI m6 65 0 ((m6.1 65 0) + (1 : Int32))) fun m7 => (some (((m7.1 65 0) - (1 : Int32)), m7)))))))) else (some ((-1 : Int32), m)))
set_option maxHeartbeats 4000000 in
set_option maxRecDepth 100000 in
theorem kX5_tell (l : Launch) (G : Gt) (hD : ∀ m, va_D (inA G nC) (wC G m)) (m : Mem) (x1 : Int32) (x2 : Int32) (x3 : Int32) : ∀ a, fX5_tell m x1 x2 x3 = some a → Ct l G wC nC yX5_tell cX5_tell 4 (some .int) 1 [.ref (G.2.2 65), .int x1, .int x2, .int x3] m (cvI a) := by
  refine ct_of (own := RX5) (ls0 := [some (.ref (G.2.2 65)), some (.int x1), some (.int x2), some (.int x3)]) (by decide) rfl rfl rfl (Nat.le_of_ble_eq_true rfl) hD (fun X h => ?_) l
  unfold fX5_tell
  refine j_aload_n h dX5_tell_0 rfl ?_
  refine gC5_31 h dX5_tell_1 ?_
  refine j_bipush (v := (30 : Int32)) h dX5_tell_4 kbipush_30 ?_
  refine j_icmp_lt (tgt := 11) h dX5_tell_6 (by decide) (fun c1 => ?_) (fun c1 => ?_)
  · refine j_aload_n h dX5_tell_11 rfl ?_
    refine gC5_11 h dX5_tell_12 ?_
    refine j_aload_n h dX5_tell_15 rfl ?_
    refine gC5_31 h dX5_tell_16 ?_
    refine j_iload_n h dX5_tell_19 rfl ?_
    refine bC_66 h dX5_tell_20 (fun m2 hm2 => ?_)
    refine j_aload_n h dX5_tell_21 rfl ?_
    refine gC5_15 h dX5_tell_22 ?_
    refine j_aload_n h dX5_tell_25 rfl ?_
    refine gC5_31 h dX5_tell_26 ?_
    refine j_iload_n h dX5_tell_29 rfl ?_
    refine bC_67 h dX5_tell_30 (fun m3 hm3 => ?_)
    refine j_aload_n h dX5_tell_31 rfl ?_
    refine gC5_18 h dX5_tell_32 ?_
    refine j_aload_n h dX5_tell_35 rfl ?_
    refine gC5_31 h dX5_tell_36 ?_
    refine j_iload_n h dX5_tell_39 rfl ?_
    refine bC_68 h dX5_tell_40 (fun m4 hm4 => ?_)
    refine j_aload_n h dX5_tell_41 rfl ?_
    refine gC5_22 h dX5_tell_42 ?_
    refine j_aload_n h dX5_tell_45 rfl ?_
    refine gC5_31 h dX5_tell_46 ?_
    refine j_aload_n h dX5_tell_49 rfl ?_
    refine gC5_35 h dX5_tell_50 ?_
    refine bC_69 h dX5_tell_53 (fun m5 hm5 => ?_)
    refine j_aload_n h dX5_tell_54 rfl ?_
    refine gC5_25 h dX5_tell_55 ?_
    refine j_aload_n h dX5_tell_58 rfl ?_
    refine gC5_31 h dX5_tell_59 ?_
    refine j_iconst (v := (-1 : Int32)) h dX5_tell_62 kiconst_m1 ?_
    refine bC_70 h dX5_tell_63 (fun m6 hm6 => ?_)
    refine j_aload_n h dX5_tell_64 rfl ?_
    refine j_dup h dX5_tell_65 rfl ?_
    refine gC5_31 h dX5_tell_66 ?_
    refine j_iconst (v := (1 : Int32)) h dX5_tell_69 kiconst_1 ?_
    refine j_iadd h dX5_tell_70 ?_
    refine pC5_31 h dX5_tell_71 (fun m7 hm7 => ?_)
    refine j_aload_n h dX5_tell_74 rfl ?_
    refine gC5_31 h dX5_tell_75 ?_
    refine j_iconst (v := (1 : Int32)) h dX5_tell_78 kiconst_1 ?_
    refine j_isub h dX5_tell_79 ?_
    exact j_iret h rfl dX5_tell_80
  · refine j_iconst (v := (-1 : Int32)) h dX5_tell_9 kiconst_m1 ?_
    exact j_iret h rfl dX5_tell_10
theorem dX5_takeBack_0 : DD cX5_takeBack 0 (.iload_n 1) 1 1 := ⟨by decide +kernel, rfl⟩
theorem dX5_takeBack_1 : DD cX5_takeBack 1 (.ifCond .lt 21) 3 4 := ⟨by decide +kernel, rfl⟩
theorem dX5_takeBack_4 : DD cX5_takeBack 4 (.iload_n 1) 1 5 := ⟨by decide +kernel, rfl⟩
theorem dX5_takeBack_5 : DD cX5_takeBack 5 (.aload_n 0) 1 6 := ⟨by decide +kernel, rfl⟩
theorem dX5_takeBack_6 : DD cX5_takeBack 6 (.getfield 31) 3 9 := ⟨by decide +kernel, rfl⟩
theorem dX5_takeBack_9 : DD cX5_takeBack 9 (.if_icmp .ge 13) 3 12 := ⟨by decide +kernel, rfl⟩
theorem dX5_takeBack_12 : DD cX5_takeBack 12 (.aload_n 0) 1 13 := ⟨by decide +kernel, rfl⟩
theorem dX5_takeBack_13 : DD cX5_takeBack 13 (.getfield 25) 3 16 := ⟨by decide +kernel, rfl⟩
theorem dX5_takeBack_16 : DD cX5_takeBack 16 (.iload_n 1) 1 17 := ⟨by decide +kernel, rfl⟩
theorem dX5_takeBack_17 : DD cX5_takeBack 17 (.iaload) 1 18 := ⟨by decide +kernel, rfl⟩
theorem dX5_takeBack_18 : DD cX5_takeBack 18 (.iconst (-1)) 1 19 := ⟨by decide +kernel, rfl⟩
theorem dX5_takeBack_19 : DD cX5_takeBack 19 (.if_icmp .eq 5) 3 22 := ⟨by decide +kernel, rfl⟩
theorem dX5_takeBack_22 : DD cX5_takeBack 22 (.iconst 0) 1 23 := ⟨by decide +kernel, rfl⟩
theorem dX5_takeBack_23 : DD cX5_takeBack 23 (.ireturn) 1 24 := ⟨by decide +kernel, rfl⟩
theorem dX5_takeBack_24 : DD cX5_takeBack 24 (.aload_n 0) 1 25 := ⟨by decide +kernel, rfl⟩
theorem dX5_takeBack_25 : DD cX5_takeBack 25 (.getfield 25) 3 28 := ⟨by decide +kernel, rfl⟩
theorem dX5_takeBack_28 : DD cX5_takeBack 28 (.iload_n 1) 1 29 := ⟨by decide +kernel, rfl⟩
theorem dX5_takeBack_29 : DD cX5_takeBack 29 (.aload_n 0) 1 30 := ⟨by decide +kernel, rfl⟩
theorem dX5_takeBack_30 : DD cX5_takeBack 30 (.getfield 35) 3 33 := ⟨by decide +kernel, rfl⟩
theorem dX5_takeBack_33 : DD cX5_takeBack 33 (.iastore) 1 34 := ⟨by decide +kernel, rfl⟩
theorem dX5_takeBack_34 : DD cX5_takeBack 34 (.iconst 1) 1 35 := ⟨by decide +kernel, rfl⟩
theorem dX5_takeBack_35 : DD cX5_takeBack 35 (.ireturn) 1 36 := ⟨by decide +kernel, rfl⟩
def fX5_takeBack (m : Mem) (x1 : Int32) : Option (Int32 × Mem) := (if x1 < 0 then (some ((0 : Int32), m)) else (if (m.1 65 0) ≤ x1 then (some ((0 : Int32), m)) else (rd (m.1 70) 30 x1 fun v3 => (if v3 = (-1 : Int32) then (wr m 70 30 x1 (m.1 65 1) fun m5 => (some ((1 : Int32), m5))) else (some ((0 : Int32), m))))))
set_option maxHeartbeats 4000000 in
set_option maxRecDepth 100000 in
theorem kX5_takeBack (l : Launch) (G : Gt) (hD : ∀ m, va_D (inA G nC) (wC G m)) (m : Mem) (x1 : Int32) : ∀ a, fX5_takeBack m x1 = some a → Ct l G wC nC yX5_takeBack cX5_takeBack 2 (some .boolean) 1 [.ref (G.2.2 65), .int x1] m (cvI a) := by
  refine ct_of (own := RX5) (ls0 := [some (.ref (G.2.2 65)), some (.int x1)]) (by decide) rfl rfl rfl (Nat.le_of_ble_eq_true rfl) hD (fun X h => ?_) l
  unfold fX5_takeBack
  refine j_iload_n h dX5_takeBack_0 rfl ?_
  refine j_if_lt (tgt := 22) h dX5_takeBack_1 (by decide) (fun c1 => ?_) (fun c1 => ?_)
  · refine j_iconst (v := (0 : Int32)) h dX5_takeBack_22 kiconst_0 ?_
    exact j_zretB h rfl rfl dX5_takeBack_23
  · refine j_iload_n h dX5_takeBack_4 rfl ?_
    refine j_aload_n h dX5_takeBack_5 rfl ?_
    refine gC5_31 h dX5_takeBack_6 ?_
    refine j_icmp_ge (tgt := 22) h dX5_takeBack_9 (by decide) (fun c2 => ?_) (fun c2 => ?_)
    · refine j_iconst (v := (0 : Int32)) h dX5_takeBack_22 kiconst_0 ?_
      exact j_zretB h rfl rfl dX5_takeBack_23
    · refine j_aload_n h dX5_takeBack_12 rfl ?_
      refine gC5_25 h dX5_takeBack_13 ?_
      refine j_iload_n h dX5_takeBack_16 rfl ?_
      refine aC_70 h dX5_takeBack_17 (fun v3 hv3 => ?_)
      refine j_iconst (v := (-1 : Int32)) h dX5_takeBack_18 kiconst_m1 ?_
      refine j_icmp_eq (tgt := 24) h dX5_takeBack_19 (by decide) (fun c4 => ?_) (fun c4 => ?_)
      · refine j_aload_n h dX5_takeBack_24 rfl ?_
        refine gC5_25 h dX5_takeBack_25 ?_
        refine j_iload_n h dX5_takeBack_28 rfl ?_
        refine j_aload_n h dX5_takeBack_29 rfl ?_
        refine gC5_35 h dX5_takeBack_30 ?_
        refine bC_70 h dX5_takeBack_33 (fun m5 hm5 => ?_)
        refine j_iconst (v := (1 : Int32)) h dX5_takeBack_34 kiconst_1 ?_
        exact j_zretB h rfl rfl dX5_takeBack_35
      · refine j_iconst (v := (0 : Int32)) h dX5_takeBack_22 kiconst_0 ?_
        exact j_zretB h rfl rfl dX5_takeBack_23
theorem dX5_goOn_0 : DD cX5_goOn 0 (.iload_n 1) 1 1 := ⟨by decide +kernel, rfl⟩
theorem dX5_goOn_1 : DD cX5_goOn 1 (.ifCond .lt 21) 3 4 := ⟨by decide +kernel, rfl⟩
theorem dX5_goOn_4 : DD cX5_goOn 4 (.iload_n 1) 1 5 := ⟨by decide +kernel, rfl⟩
theorem dX5_goOn_5 : DD cX5_goOn 5 (.sipush 1000) 3 8 := ⟨by decide +kernel, rfl⟩
theorem dX5_goOn_8 : DD cX5_goOn 8 (.if_icmp .gt 14) 3 11 := ⟨by decide +kernel, rfl⟩
theorem dX5_goOn_11 : DD cX5_goOn 11 (.aload_n 0) 1 12 := ⟨by decide +kernel, rfl⟩
theorem dX5_goOn_12 : DD cX5_goOn 12 (.getfield 35) 3 15 := ⟨by decide +kernel, rfl⟩
theorem dX5_goOn_15 : DD cX5_goOn 15 (.iload_n 1) 1 16 := ⟨by decide +kernel, rfl⟩
theorem dX5_goOn_16 : DD cX5_goOn 16 (.iadd) 1 17 := ⟨by decide +kernel, rfl⟩
theorem dX5_goOn_17 : DD cX5_goOn 17 (.ldc 38) 2 19 := ⟨by decide +kernel, rfl⟩
theorem dX5_goOn_19 : DD cX5_goOn 19 (.if_icmp .le 5) 3 22 := ⟨by decide +kernel, rfl⟩
theorem dX5_goOn_22 : DD cX5_goOn 22 (.iconst (-1)) 1 23 := ⟨by decide +kernel, rfl⟩
theorem dX5_goOn_23 : DD cX5_goOn 23 (.ireturn) 1 24 := ⟨by decide +kernel, rfl⟩
theorem dX5_goOn_24 : DD cX5_goOn 24 (.aload_n 0) 1 25 := ⟨by decide +kernel, rfl⟩
theorem dX5_goOn_25 : DD cX5_goOn 25 (.dup) 1 26 := ⟨by decide +kernel, rfl⟩
theorem dX5_goOn_26 : DD cX5_goOn 26 (.getfield 35) 3 29 := ⟨by decide +kernel, rfl⟩
theorem dX5_goOn_29 : DD cX5_goOn 29 (.iload_n 1) 1 30 := ⟨by decide +kernel, rfl⟩
theorem dX5_goOn_30 : DD cX5_goOn 30 (.iadd) 1 31 := ⟨by decide +kernel, rfl⟩
theorem dX5_goOn_31 : DD cX5_goOn 31 (.putfield 35) 3 34 := ⟨by decide +kernel, rfl⟩
theorem dX5_goOn_34 : DD cX5_goOn 34 (.aload_n 0) 1 35 := ⟨by decide +kernel, rfl⟩
theorem dX5_goOn_35 : DD cX5_goOn 35 (.getfield 35) 3 38 := ⟨by decide +kernel, rfl⟩
theorem dX5_goOn_38 : DD cX5_goOn 38 (.ireturn) 1 39 := ⟨by decide +kernel, rfl⟩
def fX5_goOn (m : Mem) (x1 : Int32) : Option (Int32 × Mem) := (if x1 < 0 then (some ((-1 : Int32), m)) else (if (1000 : Int32) < x1 then (some ((-1 : Int32), m)) else (if ((m.1 65 1) + x1) ≤ (100000 : Int32) then (pt (sI m 65 1 ((m.1 65 1) + x1)) fun m4 => (some ((m4.1 65 1), m4))) else (some ((-1 : Int32), m)))))
set_option maxHeartbeats 4000000 in
set_option maxRecDepth 100000 in
theorem kX5_goOn (l : Launch) (G : Gt) (hD : ∀ m, va_D (inA G nC) (wC G m)) (m : Mem) (x1 : Int32) : ∀ a, fX5_goOn m x1 = some a → Ct l G wC nC yX5_goOn cX5_goOn 2 (some .int) 1 [.ref (G.2.2 65), .int x1] m (cvI a) := by
  refine ct_of (own := RX5) (ls0 := [some (.ref (G.2.2 65)), some (.int x1)]) (by decide) rfl rfl rfl (Nat.le_of_ble_eq_true rfl) hD (fun X h => ?_) l
  unfold fX5_goOn
  refine j_iload_n h dX5_goOn_0 rfl ?_
  refine j_if_lt (tgt := 22) h dX5_goOn_1 (by decide) (fun c1 => ?_) (fun c1 => ?_)
  · refine j_iconst (v := (-1 : Int32)) h dX5_goOn_22 kiconst_m1 ?_
    exact j_iret h rfl dX5_goOn_23
  · refine j_iload_n h dX5_goOn_4 rfl ?_
    refine j_sipush (v := (1000 : Int32)) h dX5_goOn_5 ksipush_1000 ?_
    refine j_icmp_gt (tgt := 22) h dX5_goOn_8 (by decide) (fun c2 => ?_) (fun c2 => ?_)
    · refine j_iconst (v := (-1 : Int32)) h dX5_goOn_22 kiconst_m1 ?_
      exact j_iret h rfl dX5_goOn_23
    · refine j_aload_n h dX5_goOn_11 rfl ?_
      refine gC5_35 h dX5_goOn_12 ?_
      refine j_iload_n h dX5_goOn_15 rfl ?_
      refine j_iadd h dX5_goOn_16 ?_
      refine j_ldc (v := (100000 : Int32)) h dX5_goOn_17 cn5_38 ?_
      refine j_icmp_le (tgt := 24) h dX5_goOn_19 (by decide) (fun c3 => ?_) (fun c3 => ?_)
      · refine j_aload_n h dX5_goOn_24 rfl ?_
        refine j_dup h dX5_goOn_25 rfl ?_
        refine gC5_35 h dX5_goOn_26 ?_
        refine j_iload_n h dX5_goOn_29 rfl ?_
        refine j_iadd h dX5_goOn_30 ?_
        refine pC5_35 h dX5_goOn_31 (fun m4 hm4 => ?_)
        refine j_aload_n h dX5_goOn_34 rfl ?_
        refine gC5_35 h dX5_goOn_35 ?_
        exact j_iret h rfl dX5_goOn_38
      · refine j_iconst (v := (-1 : Int32)) h dX5_goOn_22 kiconst_m1 ?_
        exact j_iret h rfl dX5_goOn_23
theorem dX6_whoLivesAt_0 : DD cX6_whoLivesAt 0 (.iconst 0) 1 1 := ⟨by decide +kernel, rfl⟩
theorem dX6_whoLivesAt_1 : DD cX6_whoLivesAt 1 (.istore_n 2) 1 2 := ⟨by decide +kernel, rfl⟩
theorem dX6_whoLivesAt_2 : DD cX6_whoLivesAt 2 (.iconst 0) 1 3 := ⟨by decide +kernel, rfl⟩
theorem dX6_whoLivesAt_3 : DD cX6_whoLivesAt 3 (.istore_n 3) 1 4 := ⟨by decide +kernel, rfl⟩
theorem dX6_whoLivesAt_4 : DD cX6_whoLivesAt 4 (.iload_n 3) 1 5 := ⟨by decide +kernel, rfl⟩
theorem dX6_whoLivesAt_5 : DD cX6_whoLivesAt 5 (.aload_n 0) 1 6 := ⟨by decide +kernel, rfl⟩
theorem dX6_whoLivesAt_6 : DD cX6_whoLivesAt 6 (.getfield 63) 3 9 := ⟨by decide +kernel, rfl⟩
theorem dX6_whoLivesAt_9 : DD cX6_whoLivesAt 9 (.if_icmp .ge 29) 3 12 := ⟨by decide +kernel, rfl⟩
theorem dX6_whoLivesAt_12 : DD cX6_whoLivesAt 12 (.iload_n 2) 1 13 := ⟨by decide +kernel, rfl⟩
theorem dX6_whoLivesAt_13 : DD cX6_whoLivesAt 13 (.aload_n 0) 1 14 := ⟨by decide +kernel, rfl⟩
theorem dX6_whoLivesAt_14 : DD cX6_whoLivesAt 14 (.getfield 15) 3 17 := ⟨by decide +kernel, rfl⟩
theorem dX6_whoLivesAt_17 : DD cX6_whoLivesAt 17 (.iload_n 3) 1 18 := ⟨by decide +kernel, rfl⟩
theorem dX6_whoLivesAt_18 : DD cX6_whoLivesAt 18 (.iaload) 1 19 := ⟨by decide +kernel, rfl⟩
theorem dX6_whoLivesAt_19 : DD cX6_whoLivesAt 19 (.iload_n 1) 1 20 := ⟨by decide +kernel, rfl⟩
theorem dX6_whoLivesAt_20 : DD cX6_whoLivesAt 20 (.if_icmp .ne 9) 3 23 := ⟨by decide +kernel, rfl⟩
theorem dX6_whoLivesAt_23 : DD cX6_whoLivesAt 23 (.iconst 1) 1 24 := ⟨by decide +kernel, rfl⟩
theorem dX6_whoLivesAt_24 : DD cX6_whoLivesAt 24 (.iload_n 3) 1 25 := ⟨by decide +kernel, rfl⟩
theorem dX6_whoLivesAt_25 : DD cX6_whoLivesAt 25 (.ishl) 1 26 := ⟨by decide +kernel, rfl⟩
theorem dX6_whoLivesAt_26 : DD cX6_whoLivesAt 26 (.goto 4) 3 29 := ⟨by decide +kernel, rfl⟩
theorem dX6_whoLivesAt_29 : DD cX6_whoLivesAt 29 (.iconst 0) 1 30 := ⟨by decide +kernel, rfl⟩
theorem dX6_whoLivesAt_30 : DD cX6_whoLivesAt 30 (.ior) 1 31 := ⟨by decide +kernel, rfl⟩
theorem dX6_whoLivesAt_31 : DD cX6_whoLivesAt 31 (.istore_n 2) 1 32 := ⟨by decide +kernel, rfl⟩
theorem dX6_whoLivesAt_32 : DD cX6_whoLivesAt 32 (.iinc 3 1) 3 35 := ⟨by decide +kernel, rfl⟩
theorem dX6_whoLivesAt_35 : DD cX6_whoLivesAt 35 (.goto (-31)) 3 38 := ⟨by decide +kernel, rfl⟩
theorem dX6_whoLivesAt_38 : DD cX6_whoLivesAt 38 (.iload_n 2) 1 39 := ⟨by decide +kernel, rfl⟩
theorem dX6_whoLivesAt_39 : DD cX6_whoLivesAt 39 (.ireturn) 1 40 := ⟨by decide +kernel, rfl⟩
def gX6_whoLivesAt (m : Mem) : Nat → Nat → Int32 → Int32 → Int32 → Option Int32
  | 0, _, _, _, _ => none
  | f + 1, x0, x1, x2, x3 => (gPl x0 (if (m.1 x0 0) ≤ x3 then (some x2) else (rd (m.1 (x0 + 2)) 7 x3 fun v3 => (if v3 = x1 then (nm (x2 ||| ((1 : Int32) <<< (x3 &&& 31))) fun v6 => (gX6_whoLivesAt m f x0 x1 v6 (x3 + (1 : Int32)))) else (nm (x2 ||| (0 : Int32)) fun v5 => (gX6_whoLivesAt m f x0 x1 v5 (x3 + (1 : Int32))))))))
def fX6_whoLivesAt (m : Mem) (x0 : Nat) (x1 : Int32) : Option Int32 := (gX6_whoLivesAt m 5000 x0 x1 (0 : Int32) (0 : Int32))
set_option maxHeartbeats 4000000 in
set_option maxRecDepth 100000 in
theorem wX6_whoLivesAt {X : Cx} {G : Gt} (h : OkX (X, G, wC, nC) cX6_whoLivesAt RX6 4 (some .int) 1) (m : Mem) : ∀ f : Nat, (∀ (x0 : Nat) (x1 : Int32) (x2 : Int32) (x3 : Int32), JR (X, G, wC, nC) (cvP m) m 4 [some (.ref (G.2.2 x0)), some (.int x1), some (.int x2), some (.int x3)] [] (gX6_whoLivesAt m f x0 x1 x2 x3)) := by
  intro f
  induction f with
  | zero => exact (fun _ _ _ _ => j_none)
  | succ f ih =>
    intro x0 x1 x2 x3
    rw [gX6_whoLivesAt]
    refine j_iload_n h dX6_whoLivesAt_4 rfl ?_
    refine j_aload_n h dX6_whoLivesAt_5 rfl ?_
    refine j_gPl (fun hg1 => ?_)
    refine gC6_63 h hg1 dX6_whoLivesAt_6 ?_
    refine j_icmp_ge (tgt := 38) h dX6_whoLivesAt_9 (by decide) (fun c2 => ?_) (fun c2 => ?_)
    · refine j_iload_n h dX6_whoLivesAt_38 rfl ?_
      exact j_iret h rfl dX6_whoLivesAt_39
    · refine j_iload_n h dX6_whoLivesAt_12 rfl ?_
      refine j_aload_n h dX6_whoLivesAt_13 rfl ?_
      refine gC6_15 h hg1 dX6_whoLivesAt_14 ?_
      refine j_iload_n h dX6_whoLivesAt_17 rfl ?_
      refine aC_Pl2 h hg1 dX6_whoLivesAt_18 (fun v3 hv3 => ?_)
      refine j_iload_n h dX6_whoLivesAt_19 rfl ?_
      refine j_icmp_ne (tgt := 29) h dX6_whoLivesAt_20 (by decide) (fun c4 => ?_) (fun c4 => ?_)
      · refine j_iconst (v := (0 : Int32)) h dX6_whoLivesAt_29 kiconst_0 ?_
        refine j_ior h dX6_whoLivesAt_30 ?_
        refine j_nm (fun v5 hv5 => ?_)
        refine j_istore_n h dX6_whoLivesAt_31 rfl rfl ?_
        refine j_iinc (v := (x3 + (1 : Int32))) h dX6_whoLivesAt_32 rfl (by rw [kiconst_1]) rfl ?_
        refine j_goto (tgt := 4) h dX6_whoLivesAt_35 (by decide) ?_
        refine j_wk (ls' := [some (.ref (G.2.2 x0)), some (.int x1), some (.int v5), some (.int (x3 + (1 : Int32)))]) (And.intro rfl (And.intro rfl (And.intro rfl (And.intro rfl trivial)))) ?_
        exact ih x0 x1 v5 (x3 + (1 : Int32))
      · refine j_iconst (v := (1 : Int32)) h dX6_whoLivesAt_23 kiconst_1 ?_
        refine j_iload_n h dX6_whoLivesAt_24 rfl ?_
        refine j_ishl h dX6_whoLivesAt_25 ?_
        refine j_goto (tgt := 30) h dX6_whoLivesAt_26 (by decide) ?_
        refine j_ior h dX6_whoLivesAt_30 ?_
        refine j_nm (fun v6 hv6 => ?_)
        refine j_istore_n h dX6_whoLivesAt_31 rfl rfl ?_
        refine j_iinc (v := (x3 + (1 : Int32))) h dX6_whoLivesAt_32 rfl (by rw [kiconst_1]) rfl ?_
        refine j_goto (tgt := 4) h dX6_whoLivesAt_35 (by decide) ?_
        refine j_wk (ls' := [some (.ref (G.2.2 x0)), some (.int x1), some (.int v6), some (.int (x3 + (1 : Int32)))]) (And.intro rfl (And.intro rfl (And.intro rfl (And.intro rfl trivial)))) ?_
        exact ih x0 x1 v6 (x3 + (1 : Int32))
set_option maxHeartbeats 4000000 in
set_option maxRecDepth 100000 in
theorem kX6_whoLivesAt (l : Launch) (G : Gt) (hD : ∀ m, va_D (inA G nC) (wC G m)) (m : Mem) (x0 : Nat) (x1 : Int32) : ∀ a, fX6_whoLivesAt m x0 x1 = some a → Ct l G wC nC yX6_whoLivesAt cX6_whoLivesAt 4 (some .int) 1 [.ref (G.2.2 x0), .int x1] m ((cvP m) a) := by
  refine ct_of (own := RX6) (ls0 := [some (.ref (G.2.2 x0)), some (.int x1), none, none]) (by decide) rfl rfl rfl (Nat.le_of_ble_eq_true rfl) hD (fun X h => ?_) l
  unfold fX6_whoLivesAt
  refine j_iconst (v := (0 : Int32)) h dX6_whoLivesAt_0 kiconst_0 ?_
  refine j_istore_n h dX6_whoLivesAt_1 rfl rfl ?_
  refine j_iconst (v := (0 : Int32)) h dX6_whoLivesAt_2 kiconst_0 ?_
  refine j_istore_n h dX6_whoLivesAt_3 rfl rfl ?_
  refine j_wk (ls' := [some (.ref (G.2.2 x0)), some (.int x1), some (.int (0 : Int32)), some (.int (0 : Int32))]) (And.intro rfl (And.intro rfl (And.intro rfl (And.intro rfl trivial)))) ?_
  exact (wX6_whoLivesAt h m 5000) x0 x1 (0 : Int32) (0 : Int32)
theorem dX5_isLit_0 : DD cX5_isLit 0 (.iload_n 1) 1 1 := ⟨by decide +kernel, rfl⟩
theorem dX5_isLit_1 : DD cX5_isLit 1 (.iload_n 2) 1 2 := ⟨by decide +kernel, rfl⟩
theorem dX5_isLit_2 : DD cX5_isLit 2 (.ifCond .eq 9) 3 5 := ⟨by decide +kernel, rfl⟩
theorem dX5_isLit_5 : DD cX5_isLit 5 (.iload_n 0) 1 6 := ⟨by decide +kernel, rfl⟩
theorem dX5_isLit_6 : DD cX5_isLit 6 (.iconst (-1)) 1 7 := ⟨by decide +kernel, rfl⟩
theorem dX5_isLit_7 : DD cX5_isLit 7 (.ixor) 1 8 := ⟨by decide +kernel, rfl⟩
theorem dX5_isLit_8 : DD cX5_isLit 8 (.goto 4) 3 11 := ⟨by decide +kernel, rfl⟩
theorem dX5_isLit_11 : DD cX5_isLit 11 (.iload_n 0) 1 12 := ⟨by decide +kernel, rfl⟩
theorem dX5_isLit_12 : DD cX5_isLit 12 (.iand) 1 13 := ⟨by decide +kernel, rfl⟩
theorem dX5_isLit_13 : DD cX5_isLit 13 (.ifCond .eq 7) 3 16 := ⟨by decide +kernel, rfl⟩
theorem dX5_isLit_16 : DD cX5_isLit 16 (.iconst 1) 1 17 := ⟨by decide +kernel, rfl⟩
theorem dX5_isLit_17 : DD cX5_isLit 17 (.goto 4) 3 20 := ⟨by decide +kernel, rfl⟩
theorem dX5_isLit_20 : DD cX5_isLit 20 (.iconst 0) 1 21 := ⟨by decide +kernel, rfl⟩
theorem dX5_isLit_21 : DD cX5_isLit 21 (.ireturn) 1 22 := ⟨by decide +kernel, rfl⟩
def fX5_isLit (x0 : Int32) (x1 : Int32) (x2 : Int32) : Option Int32 := (if x2 = 0 then (if (x1 &&& x0) = 0 then (some (0 : Int32)) else (some (1 : Int32))) else (if (x1 &&& (x0 ^^^ (-1 : Int32))) = 0 then (some (0 : Int32)) else (some (1 : Int32))))
set_option maxHeartbeats 4000000 in
set_option maxRecDepth 100000 in
theorem kX5_isLit (l : Launch) (G : Gt) (hD : ∀ m, va_D (inA G nC) (wC G m)) (m : Mem) (x0 : Int32) (x1 : Int32) (x2 : Int32) : ∀ a, fX5_isLit x0 x1 x2 = some a → Ct l G wC nC yX5_isLit cX5_isLit 3 (some .boolean) 1 [.int x0, .int x1, .int x2] m ((cvP m) a) := by
  refine ct_of (own := RX5) (ls0 := [some (.int x0), some (.int x1), some (.int x2)]) (by decide) rfl rfl rfl (Nat.le_of_ble_eq_true rfl) hD (fun X h => ?_) l
  unfold fX5_isLit
  refine j_iload_n h dX5_isLit_0 rfl ?_
  refine j_iload_n h dX5_isLit_1 rfl ?_
  refine j_if_eq (tgt := 11) h dX5_isLit_2 (by decide) (fun c1 => ?_) (fun c1 => ?_)
  · refine j_iload_n h dX5_isLit_11 rfl ?_
    refine j_iand h dX5_isLit_12 ?_
    refine j_if_eq (tgt := 20) h dX5_isLit_13 (by decide) (fun c2 => ?_) (fun c2 => ?_)
    · refine j_iconst (v := (0 : Int32)) h dX5_isLit_20 kiconst_0 ?_
      exact j_zretB h rfl rfl dX5_isLit_21
    · refine j_iconst (v := (1 : Int32)) h dX5_isLit_16 kiconst_1 ?_
      refine j_goto (tgt := 21) h dX5_isLit_17 (by decide) ?_
      exact j_zretB h rfl rfl dX5_isLit_21
  · refine j_iload_n h dX5_isLit_5 rfl ?_
    refine j_iconst (v := (-1 : Int32)) h dX5_isLit_6 kiconst_m1 ?_
    refine j_ixor h dX5_isLit_7 ?_
    refine j_goto (tgt := 12) h dX5_isLit_8 (by decide) ?_
    refine j_iand h dX5_isLit_12 ?_
    refine j_if_eq (tgt := 20) h dX5_isLit_13 (by decide) (fun c3 => ?_) (fun c3 => ?_)
    · refine j_iconst (v := (0 : Int32)) h dX5_isLit_20 kiconst_0 ?_
      exact j_zretB h rfl rfl dX5_isLit_21
    · refine j_iconst (v := (1 : Int32)) h dX5_isLit_16 kiconst_1 ?_
      refine j_goto (tgt := 21) h dX5_isLit_17 (by decide) ?_
      exact j_zretB h rfl rfl dX5_isLit_21
theorem dX5_dropAgainst_0 : DD cX5_dropAgainst 0 (.aload_n 2) 1 1 := ⟨by decide +kernel, rfl⟩
theorem dX5_dropAgainst_1 : DD cX5_dropAgainst 1 (.aload_n 0) 1 2 := ⟨by decide +kernel, rfl⟩
theorem dX5_dropAgainst_2 : DD cX5_dropAgainst 2 (.getfield 11) 3 5 := ⟨by decide +kernel, rfl⟩
theorem dX5_dropAgainst_5 : DD cX5_dropAgainst 5 (.iload_n 1) 1 6 := ⟨by decide +kernel, rfl⟩
theorem dX5_dropAgainst_6 : DD cX5_dropAgainst 6 (.iaload) 1 7 := ⟨by decide +kernel, rfl⟩
theorem dX5_dropAgainst_7 : DD cX5_dropAgainst 7 (.invokevirtual 67) 3 10 := ⟨by decide +kernel, rfl⟩
theorem dX5_dropAgainst_10 : DD cX5_dropAgainst 10 (.istore 4) 2 12 := ⟨by decide +kernel, rfl⟩
theorem dX5_dropAgainst_12 : DD cX5_dropAgainst 12 (.aload_n 3) 1 13 := ⟨by decide +kernel, rfl⟩
theorem dX5_dropAgainst_13 : DD cX5_dropAgainst 13 (.iconst 0) 1 14 := ⟨by decide +kernel, rfl⟩
theorem dX5_dropAgainst_14 : DD cX5_dropAgainst 14 (.aload_n 0) 1 15 := ⟨by decide +kernel, rfl⟩
theorem dX5_dropAgainst_15 : DD cX5_dropAgainst 15 (.getfield 15) 3 18 := ⟨by decide +kernel, rfl⟩
theorem dX5_dropAgainst_18 : DD cX5_dropAgainst 18 (.iload_n 1) 1 19 := ⟨by decide +kernel, rfl⟩
theorem dX5_dropAgainst_19 : DD cX5_dropAgainst 19 (.iaload) 1 20 := ⟨by decide +kernel, rfl⟩
theorem dX5_dropAgainst_20 : DD cX5_dropAgainst 20 (.invokevirtual 71) 3 23 := ⟨by decide +kernel, rfl⟩
theorem dX5_dropAgainst_23 : DD cX5_dropAgainst 23 (.istore 5) 2 25 := ⟨by decide +kernel, rfl⟩
theorem dX5_dropAgainst_25 : DD cX5_dropAgainst 25 (.iconst 0) 1 26 := ⟨by decide +kernel, rfl⟩
theorem dX5_dropAgainst_26 : DD cX5_dropAgainst 26 (.istore 6) 2 28 := ⟨by decide +kernel, rfl⟩
theorem dX5_dropAgainst_28 : DD cX5_dropAgainst 28 (.iconst 0) 1 29 := ⟨by decide +kernel, rfl⟩
theorem dX5_dropAgainst_29 : DD cX5_dropAgainst 29 (.istore 7) 2 31 := ⟨by decide +kernel, rfl⟩
theorem dX5_dropAgainst_31 : DD cX5_dropAgainst 31 (.iload 7) 2 33 := ⟨by decide +kernel, rfl⟩
theorem dX5_dropAgainst_33 : DD cX5_dropAgainst 33 (.aload_n 0) 1 34 := ⟨by decide +kernel, rfl⟩
theorem dX5_dropAgainst_34 : DD cX5_dropAgainst 34 (.getfield 60) 3 37 := ⟨by decide +kernel, rfl⟩
theorem dX5_dropAgainst_37 : DD cX5_dropAgainst 37 (.if_icmp .ge 49) 3 40 := ⟨by decide +kernel, rfl⟩
theorem dX5_dropAgainst_40 : DD cX5_dropAgainst 40 (.aload_n 0) 1 41 := ⟨by decide +kernel, rfl⟩
theorem dX5_dropAgainst_41 : DD cX5_dropAgainst 41 (.getfield 28) 3 44 := ⟨by decide +kernel, rfl⟩
theorem dX5_dropAgainst_44 : DD cX5_dropAgainst 44 (.iload 7) 2 46 := ⟨by decide +kernel, rfl⟩
theorem dX5_dropAgainst_46 : DD cX5_dropAgainst 46 (.iaload) 1 47 := ⟨by decide +kernel, rfl⟩
theorem dX5_dropAgainst_47 : DD cX5_dropAgainst 47 (.iload 4) 2 49 := ⟨by decide +kernel, rfl⟩
theorem dX5_dropAgainst_49 : DD cX5_dropAgainst 49 (.iload 5) 2 51 := ⟨by decide +kernel, rfl⟩
theorem dX5_dropAgainst_51 : DD cX5_dropAgainst 51 (.invokestatic 77) 3 54 := ⟨by decide +kernel, rfl⟩
theorem dX5_dropAgainst_54 : DD cX5_dropAgainst 54 (.aload_n 0) 1 55 := ⟨by decide +kernel, rfl⟩
theorem dX5_dropAgainst_55 : DD cX5_dropAgainst 55 (.getfield 18) 3 58 := ⟨by decide +kernel, rfl⟩
theorem dX5_dropAgainst_58 : DD cX5_dropAgainst 58 (.iload_n 1) 1 59 := ⟨by decide +kernel, rfl⟩
theorem dX5_dropAgainst_59 : DD cX5_dropAgainst 59 (.baload) 1 60 := ⟨by decide +kernel, rfl⟩
theorem dX5_dropAgainst_60 : DD cX5_dropAgainst 60 (.if_icmp .ne 20) 3 63 := ⟨by decide +kernel, rfl⟩
theorem dX5_dropAgainst_63 : DD cX5_dropAgainst 63 (.aload_n 0) 1 64 := ⟨by decide +kernel, rfl⟩
theorem dX5_dropAgainst_64 : DD cX5_dropAgainst 64 (.getfield 28) 3 67 := ⟨by decide +kernel, rfl⟩
theorem dX5_dropAgainst_67 : DD cX5_dropAgainst 67 (.iload 6) 2 69 := ⟨by decide +kernel, rfl⟩
theorem dX5_dropAgainst_69 : DD cX5_dropAgainst 69 (.aload_n 0) 1 70 := ⟨by decide +kernel, rfl⟩
theorem dX5_dropAgainst_70 : DD cX5_dropAgainst 70 (.getfield 28) 3 73 := ⟨by decide +kernel, rfl⟩
theorem dX5_dropAgainst_73 : DD cX5_dropAgainst 73 (.iload 7) 2 75 := ⟨by decide +kernel, rfl⟩
theorem dX5_dropAgainst_75 : DD cX5_dropAgainst 75 (.iaload) 1 76 := ⟨by decide +kernel, rfl⟩
theorem dX5_dropAgainst_76 : DD cX5_dropAgainst 76 (.iastore) 1 77 := ⟨by decide +kernel, rfl⟩
theorem dX5_dropAgainst_77 : DD cX5_dropAgainst 77 (.iinc 6 1) 3 80 := ⟨by decide +kernel, rfl⟩
theorem dX5_dropAgainst_80 : DD cX5_dropAgainst 80 (.iinc 7 1) 3 83 := ⟨by decide +kernel, rfl⟩
theorem dX5_dropAgainst_83 : DD cX5_dropAgainst 83 (.goto (-52)) 3 86 := ⟨by decide +kernel, rfl⟩
theorem dX5_dropAgainst_86 : DD cX5_dropAgainst 86 (.aload_n 0) 1 87 := ⟨by decide +kernel, rfl⟩
theorem dX5_dropAgainst_87 : DD cX5_dropAgainst 87 (.iload 6) 2 89 := ⟨by decide +kernel, rfl⟩
theorem dX5_dropAgainst_89 : DD cX5_dropAgainst 89 (.putfield 60) 3 92 := ⟨by decide +kernel, rfl⟩
theorem dX5_dropAgainst_92 : DD cX5_dropAgainst 92 (.return_) 1 93 := ⟨by decide +kernel, rfl⟩
def gX5_dropAgainst : Nat → Int32 → Int32 → Int32 → Int32 → Int32 → Mem → Option Mem
  | 0, _, _, _, _, _, _ => none
  | f + 1, x1, x4, x5, x6, x7, m => (if (m.1 65 8) ≤ x7 then (pt (sI m 65 8 x6) fun m2 => (some m2)) else (rd (m.1 71) 128 x7 fun v3 => (cP (fX5_isLit v3 x4 x5) fun r4 => (rd (m.1 68) 30 x1 fun v6 => (if r4 = v6 then (rd (m.1 71) 128 x7 fun v8 => (wr m 71 128 x6 v8 fun m9 => (gX5_dropAgainst f x1 x4 x5 (x6 + (1 : Int32)) (x7 + (1 : Int32)) m9))) else (gX5_dropAgainst f x1 x4 x5 x6 (x7 + (1 : Int32)) m))))))
def fX5_dropAgainst (m : Mem) (x1 : Int32) (x2 : Nat) : Option Mem := (rd (m.1 66) 30 x1 fun v1 => (gPl x2 (cP (fX6_whoLivesAt m x2 v1) fun r3 => (rd (m.1 67) 30 x1 fun v5 => (cP (fX2_wakes m (0 : Int32) v5) fun r6 => (gX5_dropAgainst 5000 x1 r3 r6 (0 : Int32) (0 : Int32) m))))))
set_option maxHeartbeats 4000000 in
set_option maxRecDepth 100000 in
theorem wX5_dropAgainst {X : Cx} {G : Gt} (h : OkX (X, G, wC, nC) cX5_dropAgainst RX5 8 none 2) : ∀ f : Nat, (∀ (x1 : Int32) (x4 : Int32) (x5 : Int32) (x6 : Int32) (x7 : Int32) (m : Mem), JR (X, G, wC, nC) cvV m 31 [some (.ref (G.2.2 65)), some (.int x1), none, none, some (.int x4), some (.int x5), some (.int x6), some (.int x7)] [] (gX5_dropAgainst f x1 x4 x5 x6 x7 m)) := by
  intro f
  induction f with
  | zero => exact (fun _ _ _ _ _ _ => j_none)
  | succ f ih =>
    intro x1 x4 x5 x6 x7 m
    rw [gX5_dropAgainst]
    refine j_iload h dX5_dropAgainst_31 rfl ?_
    refine j_aload_n h dX5_dropAgainst_33 rfl ?_
    refine gC5_60 h dX5_dropAgainst_34 ?_
    refine j_icmp_ge (tgt := 86) h dX5_dropAgainst_37 (by decide) (fun c1 => ?_) (fun c1 => ?_)
    · refine j_aload_n h dX5_dropAgainst_86 rfl ?_
      refine j_iload h dX5_dropAgainst_87 rfl ?_
      refine pC5_60 h dX5_dropAgainst_89 (fun m2 hm2 => ?_)
      exact j_vret h rfl dX5_dropAgainst_92
    · refine j_aload_n h dX5_dropAgainst_40 rfl ?_
      refine gC5_28 h dX5_dropAgainst_41 ?_
      refine j_iload h dX5_dropAgainst_44 rfl ?_
      refine aC_71 h dX5_dropAgainst_46 (fun v3 hv3 => ?_)
      refine j_iload h dX5_dropAgainst_47 rfl ?_
      refine j_iload h dX5_dropAgainst_49 rfl ?_
      refine j_callSP h [.int v3, .int x4, .int x5] (kX5_isLit _ G h.2.2.2.2.2.2.2.2.2.2 m v3 x4 x5) okX5_isLit stX5_isLit ml5_77 rfl rfl (by decide) (by decide) (Nat.le_of_ble_eq_true rfl) rfl dX5_dropAgainst_51 (fun r4 hr4 => ?_)
      refine j_aload_n h dX5_dropAgainst_54 rfl ?_
      refine gC5_18 h dX5_dropAgainst_55 ?_
      refine j_iload_n h dX5_dropAgainst_58 rfl ?_
      refine aC_68 h dX5_dropAgainst_59 (fun v6 hv6 => ?_)
      refine j_icmp_ne (tgt := 80) h dX5_dropAgainst_60 (by decide) (fun c7 => ?_) (fun c7 => ?_)
      · refine j_iinc (v := (x7 + (1 : Int32))) h dX5_dropAgainst_80 rfl (by rw [kiconst_1]) rfl ?_
        refine j_goto (tgt := 31) h dX5_dropAgainst_83 (by decide) ?_
        refine j_wk (ls' := [some (.ref (G.2.2 65)), some (.int x1), none, none, some (.int x4), some (.int x5), some (.int x6), some (.int (x7 + (1 : Int32)))]) (And.intro rfl (And.intro rfl (And.intro rfl (And.intro rfl (And.intro rfl (And.intro rfl trivial)))))) ?_
        exact ih x1 x4 x5 x6 (x7 + (1 : Int32)) m
      · refine j_aload_n h dX5_dropAgainst_63 rfl ?_
        refine gC5_28 h dX5_dropAgainst_64 ?_
        refine j_iload h dX5_dropAgainst_67 rfl ?_
        refine j_aload_n h dX5_dropAgainst_69 rfl ?_
        refine gC5_28 h dX5_dropAgainst_70 ?_
        refine j_iload h dX5_dropAgainst_73 rfl ?_
        refine aC_71 h dX5_dropAgainst_75 (fun v8 hv8 => ?_)
        refine bC_71 h dX5_dropAgainst_76 (fun m9 hm9 => ?_)
        refine j_iinc (v := (x6 + (1 : Int32))) h dX5_dropAgainst_77 rfl (by rw [kiconst_1]) rfl ?_
        refine j_iinc (v := (x7 + (1 : Int32))) h dX5_dropAgainst_80 rfl (by rw [kiconst_1]) rfl ?_
        refine j_goto (tgt := 31) h dX5_dropAgainst_83 (by decide) ?_
        refine j_wk (ls' := [some (.ref (G.2.2 65)), some (.int x1), none, none, some (.int x4), some (.int x5), some (.int (x6 + (1 : Int32))), some (.int (x7 + (1 : Int32)))]) (And.intro rfl (And.intro rfl (And.intro rfl (And.intro rfl (And.intro rfl (And.intro rfl trivial)))))) ?_
        exact ih x1 x4 x5 (x6 + (1 : Int32)) (x7 + (1 : Int32)) m9
set_option maxHeartbeats 4000000 in
set_option maxRecDepth 100000 in
theorem kX5_dropAgainst (l : Launch) (G : Gt) (hD : ∀ m, va_D (inA G nC) (wC G m)) (m : Mem) (x1 : Int32) (x2 : Nat) : ∀ a, fX5_dropAgainst m x1 x2 = some a → Ct l G wC nC yX5_dropAgainst cX5_dropAgainst 8 none 2 [.ref (G.2.2 65), .int x1, .ref (G.2.2 x2), .ref (G.2.2 53)] m (cvV a) := by
  refine ct_of (own := RX5) (ls0 := [some (.ref (G.2.2 65)), some (.int x1), some (.ref (G.2.2 x2)), some (.ref (G.2.2 53)), none, none, none, none]) (by decide) rfl rfl rfl (Nat.le_of_ble_eq_true rfl) hD (fun X h => ?_) l
  unfold fX5_dropAgainst
  refine j_aload_n h dX5_dropAgainst_0 rfl ?_
  refine j_aload_n h dX5_dropAgainst_1 rfl ?_
  refine gC5_11 h dX5_dropAgainst_2 ?_
  refine j_iload_n h dX5_dropAgainst_5 rfl ?_
  refine aC_66 h dX5_dropAgainst_6 (fun v1 hv1 => ?_)
  refine j_gPl (fun hg2 => ?_)
  refine j_callVP (q0 := x2) (ci := 6) h [.int v1] (kX6_whoLivesAt _ G h.2.2.2.2.2.2.2.2.2.2 m x2 v1) okX6_whoLivesAt inX6_whoLivesAt ml5_67 rfl (at_Pl hg2) rfl rfl (by decide) (by decide) (Nat.le_of_ble_eq_true rfl) rfl dX5_dropAgainst_7 (fun r3 hr3 => ?_)
  refine j_istore h dX5_dropAgainst_10 rfl rfl ?_
  refine j_aload_n h dX5_dropAgainst_12 rfl ?_
  refine j_iconst (v := (0 : Int32)) h dX5_dropAgainst_13 kiconst_0 ?_
  refine j_aload_n h dX5_dropAgainst_14 rfl ?_
  refine gC5_15 h dX5_dropAgainst_15 ?_
  refine j_iload_n h dX5_dropAgainst_18 rfl ?_
  refine aC_67 h dX5_dropAgainst_19 (fun v5 hv5 => ?_)
  refine j_callVP (q0 := 53) (ci := 2) h [.int (0 : Int32), .int v5] (kX2_wakes _ G h.2.2.2.2.2.2.2.2.2.2 m (0 : Int32) v5) okX2_wakes inX2_wakes ml5_71 rfl rfl rfl rfl (by decide) (by decide) (Nat.le_of_ble_eq_true rfl) rfl dX5_dropAgainst_20 (fun r6 hr6 => ?_)
  refine j_istore h dX5_dropAgainst_23 rfl rfl ?_
  refine j_iconst (v := (0 : Int32)) h dX5_dropAgainst_25 kiconst_0 ?_
  refine j_istore h dX5_dropAgainst_26 rfl rfl ?_
  refine j_iconst (v := (0 : Int32)) h dX5_dropAgainst_28 kiconst_0 ?_
  refine j_istore h dX5_dropAgainst_29 rfl rfl ?_
  refine j_wk (ls' := [some (.ref (G.2.2 65)), some (.int x1), none, none, some (.int r3), some (.int r6), some (.int (0 : Int32)), some (.int (0 : Int32))]) (And.intro rfl (And.intro rfl (And.intro rfl (And.intro rfl (And.intro rfl (And.intro rfl trivial)))))) ?_
  exact (wX5_dropAgainst h 5000) x1 r3 r6 (0 : Int32) (0 : Int32) m
theorem dX5_lookAt_0 : DD cX5_lookAt 0 (.aload_n 1) 1 1 := ⟨by decide +kernel, rfl⟩
theorem dX5_lookAt_1 : DD cX5_lookAt 1 (.invokevirtual 39) 3 4 := ⟨by decide +kernel, rfl⟩
theorem dX5_lookAt_4 : DD cX5_lookAt 4 (.astore_n 3) 1 5 := ⟨by decide +kernel, rfl⟩
theorem dX5_lookAt_5 : DD cX5_lookAt 5 (.aload_n 0) 1 6 := ⟨by decide +kernel, rfl⟩
theorem dX5_lookAt_6 : DD cX5_lookAt 6 (.iconst 1) 1 7 := ⟨by decide +kernel, rfl⟩
theorem dX5_lookAt_7 : DD cX5_lookAt 7 (.aload_n 1) 1 8 := ⟨by decide +kernel, rfl⟩
theorem dX5_lookAt_8 : DD cX5_lookAt 8 (.getfield 45) 3 11 := ⟨by decide +kernel, rfl⟩
theorem dX5_lookAt_11 : DD cX5_lookAt 11 (.getfield 49) 3 14 := ⟨by decide +kernel, rfl⟩
theorem dX5_lookAt_14 : DD cX5_lookAt 14 (.ishl) 1 15 := ⟨by decide +kernel, rfl⟩
theorem dX5_lookAt_15 : DD cX5_lookAt 15 (.sipush 128) 3 18 := ⟨by decide +kernel, rfl⟩
theorem dX5_lookAt_18 : DD cX5_lookAt 18 (.invokestatic 54) 3 21 := ⟨by decide +kernel, rfl⟩
theorem dX5_lookAt_21 : DD cX5_lookAt 21 (.putfield 60) 3 24 := ⟨by decide +kernel, rfl⟩
theorem dX5_lookAt_24 : DD cX5_lookAt 24 (.iconst 0) 1 25 := ⟨by decide +kernel, rfl⟩
theorem dX5_lookAt_25 : DD cX5_lookAt 25 (.istore 4) 2 27 := ⟨by decide +kernel, rfl⟩
theorem dX5_lookAt_27 : DD cX5_lookAt 27 (.iload 4) 2 29 := ⟨by decide +kernel, rfl⟩
theorem dX5_lookAt_29 : DD cX5_lookAt 29 (.aload_n 0) 1 30 := ⟨by decide +kernel, rfl⟩
theorem dX5_lookAt_30 : DD cX5_lookAt 30 (.getfield 60) 3 33 := ⟨by decide +kernel, rfl⟩
theorem dX5_lookAt_33 : DD cX5_lookAt 33 (.if_icmp .ge 18) 3 36 := ⟨by decide +kernel, rfl⟩
theorem dX5_lookAt_36 : DD cX5_lookAt 36 (.aload_n 0) 1 37 := ⟨by decide +kernel, rfl⟩
theorem dX5_lookAt_37 : DD cX5_lookAt 37 (.getfield 28) 3 40 := ⟨by decide +kernel, rfl⟩
theorem dX5_lookAt_40 : DD cX5_lookAt 40 (.iload 4) 2 42 := ⟨by decide +kernel, rfl⟩
theorem dX5_lookAt_42 : DD cX5_lookAt 42 (.iload 4) 2 44 := ⟨by decide +kernel, rfl⟩
theorem dX5_lookAt_44 : DD cX5_lookAt 44 (.iastore) 1 45 := ⟨by decide +kernel, rfl⟩
theorem dX5_lookAt_45 : DD cX5_lookAt 45 (.iinc 4 1) 3 48 := ⟨by decide +kernel, rfl⟩
theorem dX5_lookAt_48 : DD cX5_lookAt 48 (.goto (-21)) 3 51 := ⟨by decide +kernel, rfl⟩
theorem dX5_lookAt_51 : DD cX5_lookAt 51 (.iconst 0) 1 52 := ⟨by decide +kernel, rfl⟩
theorem dX5_lookAt_52 : DD cX5_lookAt 52 (.istore 4) 2 54 := ⟨by decide +kernel, rfl⟩
theorem dX5_lookAt_54 : DD cX5_lookAt 54 (.iload 4) 2 56 := ⟨by decide +kernel, rfl⟩
theorem dX5_lookAt_56 : DD cX5_lookAt 56 (.aload_n 0) 1 57 := ⟨by decide +kernel, rfl⟩
theorem dX5_lookAt_57 : DD cX5_lookAt 57 (.getfield 31) 3 60 := ⟨by decide +kernel, rfl⟩
theorem dX5_lookAt_60 : DD cX5_lookAt 60 (.if_icmp .ge 65) 3 63 := ⟨by decide +kernel, rfl⟩
theorem dX5_lookAt_63 : DD cX5_lookAt 63 (.aload_n 0) 1 64 := ⟨by decide +kernel, rfl⟩
theorem dX5_lookAt_64 : DD cX5_lookAt 64 (.getfield 25) 3 67 := ⟨by decide +kernel, rfl⟩
theorem dX5_lookAt_67 : DD cX5_lookAt 67 (.iload 4) 2 69 := ⟨by decide +kernel, rfl⟩
theorem dX5_lookAt_69 : DD cX5_lookAt 69 (.iaload) 1 70 := ⟨by decide +kernel, rfl⟩
theorem dX5_lookAt_70 : DD cX5_lookAt 70 (.iconst (-1)) 1 71 := ⟨by decide +kernel, rfl⟩
theorem dX5_lookAt_71 : DD cX5_lookAt 71 (.if_icmp .eq 18) 3 74 := ⟨by decide +kernel, rfl⟩
theorem dX5_lookAt_74 : DD cX5_lookAt 74 (.aload_n 0) 1 75 := ⟨by decide +kernel, rfl⟩
theorem dX5_lookAt_75 : DD cX5_lookAt 75 (.getfield 25) 3 78 := ⟨by decide +kernel, rfl⟩
theorem dX5_lookAt_78 : DD cX5_lookAt 78 (.iload 4) 2 80 := ⟨by decide +kernel, rfl⟩
theorem dX5_lookAt_80 : DD cX5_lookAt 80 (.iaload) 1 81 := ⟨by decide +kernel, rfl⟩
theorem dX5_lookAt_81 : DD cX5_lookAt 81 (.iload_n 2) 1 82 := ⟨by decide +kernel, rfl⟩
theorem dX5_lookAt_82 : DD cX5_lookAt 82 (.if_icmp .gt 7) 3 85 := ⟨by decide +kernel, rfl⟩
theorem dX5_lookAt_85 : DD cX5_lookAt 85 (.iconst 1) 1 86 := ⟨by decide +kernel, rfl⟩
theorem dX5_lookAt_86 : DD cX5_lookAt 86 (.goto 4) 3 89 := ⟨by decide +kernel, rfl⟩
theorem dX5_lookAt_89 : DD cX5_lookAt 89 (.iconst 0) 1 90 := ⟨by decide +kernel, rfl⟩
theorem dX5_lookAt_90 : DD cX5_lookAt 90 (.istore 5) 2 92 := ⟨by decide +kernel, rfl⟩
theorem dX5_lookAt_92 : DD cX5_lookAt 92 (.aload_n 0) 1 93 := ⟨by decide +kernel, rfl⟩
theorem dX5_lookAt_93 : DD cX5_lookAt 93 (.getfield 22) 3 96 := ⟨by decide +kernel, rfl⟩
theorem dX5_lookAt_96 : DD cX5_lookAt 96 (.iload 4) 2 98 := ⟨by decide +kernel, rfl⟩
theorem dX5_lookAt_98 : DD cX5_lookAt 98 (.iaload) 1 99 := ⟨by decide +kernel, rfl⟩
theorem dX5_lookAt_99 : DD cX5_lookAt 99 (.iload_n 2) 1 100 := ⟨by decide +kernel, rfl⟩
theorem dX5_lookAt_100 : DD cX5_lookAt 100 (.if_icmp .gt 19) 3 103 := ⟨by decide +kernel, rfl⟩
theorem dX5_lookAt_103 : DD cX5_lookAt 103 (.iload 5) 2 105 := ⟨by decide +kernel, rfl⟩
theorem dX5_lookAt_105 : DD cX5_lookAt 105 (.ifCond .ne 14) 3 108 := ⟨by decide +kernel, rfl⟩
theorem dX5_lookAt_108 : DD cX5_lookAt 108 (.aload_n 0) 1 109 := ⟨by decide +kernel, rfl⟩
theorem dX5_lookAt_109 : DD cX5_lookAt 109 (.iload 4) 2 111 := ⟨by decide +kernel, rfl⟩
theorem dX5_lookAt_111 : DD cX5_lookAt 111 (.aload_n 1) 1 112 := ⟨by decide +kernel, rfl⟩
theorem dX5_lookAt_112 : DD cX5_lookAt 112 (.getfield 45) 3 115 := ⟨by decide +kernel, rfl⟩
theorem dX5_lookAt_115 : DD cX5_lookAt 115 (.aload_n 3) 1 116 := ⟨by decide +kernel, rfl⟩
theorem dX5_lookAt_116 : DD cX5_lookAt 116 (.invokevirtual 63) 3 119 := ⟨by decide +kernel, rfl⟩
theorem dX5_lookAt_119 : DD cX5_lookAt 119 (.iinc 4 1) 3 122 := ⟨by decide +kernel, rfl⟩
theorem dX5_lookAt_122 : DD cX5_lookAt 122 (.goto (-68)) 3 125 := ⟨by decide +kernel, rfl⟩
theorem dX5_lookAt_125 : DD cX5_lookAt 125 (.return_) 1 126 := ⟨by decide +kernel, rfl⟩
def gX5_lookAt : Nat → Nat → Int32 → Int32 → Mem → Option Mem
  | 0, _, _, _, _ => none
  | f + 1, 0, x2, x4, m => (if (m.1 65 8) ≤ x4 then (gX5_lookAt f 1 x2 (0 : Int32) m) else (wr m 71 128 x4 x4 fun m2 => (gX5_lookAt f 0 x2 (x4 + (1 : Int32)) m2)))
  | f + 1, 1, x2, x4, m => (if (m.1 65 0) ≤ x4 then (some m) else (rd (m.1 70) 30 x4 fun v2 => (if v2 = (-1 : Int32) then (rd (m.1 69) 30 x4 fun v4 => (if x2 < v4 then (gX5_lookAt f 1 x2 (x4 + (1 : Int32)) m) else (cV (fX5_dropAgainst m x4 (m.2.2 26 1)) fun m7 => (gX5_lookAt f 1 x2 (x4 + (1 : Int32)) m7)))) else (rd (m.1 70) 30 x4 fun v8 => (if x2 < v8 then (rd (m.1 69) 30 x4 fun v10 => (if x2 < v10 then (gX5_lookAt f 1 x2 (x4 + (1 : Int32)) m) else (cV (fX5_dropAgainst m x4 (m.2.2 26 1)) fun m13 => (gX5_lookAt f 1 x2 (x4 + (1 : Int32)) m13)))) else (rd (m.1 69) 30 x4 fun v14 => (if x2 < v14 then (gX5_lookAt f 1 x2 (x4 + (1 : Int32)) m) else (gX5_lookAt f 1 x2 (x4 + (1 : Int32)) m))))))))
  | _ + 1, _ + 2, _, _, _ => none
def fX5_lookAt (m : Mem) (x2 : Int32) : Option Mem := (cR (fX9_today m) fun r1 m2 => (gEq r1 53 (gPl (m2.2.2 26 1) (pt (sI m2 65 8 (imin ((1 : Int32) <<< ((m2.1 (m2.2.2 26 1) 0) &&& 31)) (128 : Int32))) fun m5 => (gX5_lookAt 5000 0 x2 (0 : Int32) m5)))))
set_option maxHeartbeats 4000000 in
set_option maxRecDepth 100000 in
theorem wX5_lookAt {X : Cx} {G : Gt} (h : OkX (X, G, wC, nC) cX5_lookAt RX5 6 none 6) : ∀ f : Nat, (∀ (x2 : Int32) (x4 : Int32) (m : Mem), JR (X, G, wC, nC) cvV m 27 [some (.ref (G.2.2 65)), some (.ref (G.2.2 26)), some (.int x2), some (.ref (G.2.2 53)), some (.int x4), none] [] (gX5_lookAt f 0 x2 x4 m)) ∧ (∀ (x2 : Int32) (x4 : Int32) (m : Mem), JR (X, G, wC, nC) cvV m 54 [some (.ref (G.2.2 65)), some (.ref (G.2.2 26)), some (.int x2), some (.ref (G.2.2 53)), some (.int x4), none] [] (gX5_lookAt f 1 x2 x4 m)) := by
  intro f
  induction f with
  | zero => exact ⟨(fun _ _ _ => j_none), (fun _ _ _ => j_none)⟩
  | succ f ih =>
    refine ⟨?_, ?_⟩
    · intro x2 x4 m
      rw [gX5_lookAt]
      refine j_iload h dX5_lookAt_27 rfl ?_
      refine j_aload_n h dX5_lookAt_29 rfl ?_
      refine gC5_60 h dX5_lookAt_30 ?_
      refine j_icmp_ge (tgt := 51) h dX5_lookAt_33 (by decide) (fun c1 => ?_) (fun c1 => ?_)
      · refine j_iconst (v := (0 : Int32)) h dX5_lookAt_51 kiconst_0 ?_
        refine j_istore h dX5_lookAt_52 rfl rfl ?_
        refine j_wk (ls' := [some (.ref (G.2.2 65)), some (.ref (G.2.2 26)), some (.int x2), some (.ref (G.2.2 53)), some (.int (0 : Int32)), none]) (And.intro rfl (And.intro rfl (And.intro rfl (And.intro rfl (And.intro rfl trivial))))) ?_
        exact ih.2 x2 (0 : Int32) m
      · refine j_aload_n h dX5_lookAt_36 rfl ?_
        refine gC5_28 h dX5_lookAt_37 ?_
        refine j_iload h dX5_lookAt_40 rfl ?_
        refine j_iload h dX5_lookAt_42 rfl ?_
        refine bC_71 h dX5_lookAt_44 (fun m2 hm2 => ?_)
        refine j_iinc (v := (x4 + (1 : Int32))) h dX5_lookAt_45 rfl (by rw [kiconst_1]) rfl ?_
        refine j_goto (tgt := 27) h dX5_lookAt_48 (by decide) ?_
        refine j_wk (ls' := [some (.ref (G.2.2 65)), some (.ref (G.2.2 26)), some (.int x2), some (.ref (G.2.2 53)), some (.int (x4 + (1 : Int32))), none]) (And.intro rfl (And.intro rfl (And.intro rfl (And.intro rfl (And.intro rfl trivial))))) ?_
        exact ih.1 x2 (x4 + (1 : Int32)) m2
    · intro x2 x4 m
      rw [gX5_lookAt]
      refine j_iload h dX5_lookAt_54 rfl ?_
      refine j_aload_n h dX5_lookAt_56 rfl ?_
      refine gC5_31 h dX5_lookAt_57 ?_
      refine j_icmp_ge (tgt := 125) h dX5_lookAt_60 (by decide) (fun c1 => ?_) (fun c1 => ?_)
      · exact j_vret h rfl dX5_lookAt_125
      · refine j_aload_n h dX5_lookAt_63 rfl ?_
        refine gC5_25 h dX5_lookAt_64 ?_
        refine j_iload h dX5_lookAt_67 rfl ?_
        refine aC_70 h dX5_lookAt_69 (fun v2 hv2 => ?_)
        refine j_iconst (v := (-1 : Int32)) h dX5_lookAt_70 kiconst_m1 ?_
        refine j_icmp_eq (tgt := 89) h dX5_lookAt_71 (by decide) (fun c3 => ?_) (fun c3 => ?_)
        · refine j_iconst (v := (0 : Int32)) h dX5_lookAt_89 kiconst_0 ?_
          refine j_istore h dX5_lookAt_90 rfl rfl ?_
          refine j_aload_n h dX5_lookAt_92 rfl ?_
          refine gC5_22 h dX5_lookAt_93 ?_
          refine j_iload h dX5_lookAt_96 rfl ?_
          refine aC_69 h dX5_lookAt_98 (fun v4 hv4 => ?_)
          refine j_iload_n h dX5_lookAt_99 rfl ?_
          refine j_icmp_gt (tgt := 119) h dX5_lookAt_100 (by decide) (fun c5 => ?_) (fun c5 => ?_)
          · refine j_iinc (v := (x4 + (1 : Int32))) h dX5_lookAt_119 rfl (by rw [kiconst_1]) rfl ?_
            refine j_goto (tgt := 54) h dX5_lookAt_122 (by decide) ?_
            refine j_wk (ls' := [some (.ref (G.2.2 65)), some (.ref (G.2.2 26)), some (.int x2), some (.ref (G.2.2 53)), some (.int (x4 + (1 : Int32))), none]) (And.intro rfl (And.intro rfl (And.intro rfl (And.intro rfl (And.intro rfl trivial))))) ?_
            exact ih.2 x2 (x4 + (1 : Int32)) m
          · refine j_iload h dX5_lookAt_103 rfl ?_
            refine j_if_neB (tgt := 119) h dX5_lookAt_105 (by decide) (fun cc => absurd cc (by decide)) (fun _ => ?_)
            refine j_aload_n h dX5_lookAt_108 rfl ?_
            refine j_iload h dX5_lookAt_109 rfl ?_
            refine j_aload_n h dX5_lookAt_111 rfl ?_
            refine gC5_45 h dX5_lookAt_112 ?_
            refine j_aload_n h dX5_lookAt_115 rfl ?_
            refine j_callVV (q0 := 65) (ci := 5) h [.int x4, .ref (G.2.2 (m.2.2 26 1)), .ref (G.2.2 53)] (kX5_dropAgainst _ G h.2.2.2.2.2.2.2.2.2.2 m x4 (m.2.2 26 1)) okX5_dropAgainst inX5_dropAgainst ml5_63 rfl rfl rfl rfl (by decide) (by decide) (Nat.le_of_ble_eq_true rfl) rfl dX5_lookAt_116 (fun m7 hm7 => ?_)
            refine j_iinc (v := (x4 + (1 : Int32))) h dX5_lookAt_119 rfl (by rw [kiconst_1]) rfl ?_
            refine j_goto (tgt := 54) h dX5_lookAt_122 (by decide) ?_
            refine j_wk (ls' := [some (.ref (G.2.2 65)), some (.ref (G.2.2 26)), some (.int x2), some (.ref (G.2.2 53)), some (.int (x4 + (1 : Int32))), none]) (And.intro rfl (And.intro rfl (And.intro rfl (And.intro rfl (And.intro rfl trivial))))) ?_
            exact ih.2 x2 (x4 + (1 : Int32)) m7
        · refine j_aload_n h dX5_lookAt_74 rfl ?_
          refine gC5_25 h dX5_lookAt_75 ?_
          refine j_iload h dX5_lookAt_78 rfl ?_
          refine aC_70 h dX5_lookAt_80 (fun v8 hv8 => ?_)
          refine j_iload_n h dX5_lookAt_81 rfl ?_
          refine j_icmp_gt (tgt := 89) h dX5_lookAt_82 (by decide) (fun c9 => ?_) (fun c9 => ?_)
          · refine j_iconst (v := (0 : Int32)) h dX5_lookAt_89 kiconst_0 ?_
            refine j_istore h dX5_lookAt_90 rfl rfl ?_
            refine j_aload_n h dX5_lookAt_92 rfl ?_
            refine gC5_22 h dX5_lookAt_93 ?_
            refine j_iload h dX5_lookAt_96 rfl ?_
            refine aC_69 h dX5_lookAt_98 (fun v10 hv10 => ?_)
            refine j_iload_n h dX5_lookAt_99 rfl ?_
            refine j_icmp_gt (tgt := 119) h dX5_lookAt_100 (by decide) (fun c11 => ?_) (fun c11 => ?_)
            · refine j_iinc (v := (x4 + (1 : Int32))) h dX5_lookAt_119 rfl (by rw [kiconst_1]) rfl ?_
              refine j_goto (tgt := 54) h dX5_lookAt_122 (by decide) ?_
              refine j_wk (ls' := [some (.ref (G.2.2 65)), some (.ref (G.2.2 26)), some (.int x2), some (.ref (G.2.2 53)), some (.int (x4 + (1 : Int32))), none]) (And.intro rfl (And.intro rfl (And.intro rfl (And.intro rfl (And.intro rfl trivial))))) ?_
              exact ih.2 x2 (x4 + (1 : Int32)) m
            · refine j_iload h dX5_lookAt_103 rfl ?_
              refine j_if_neB (tgt := 119) h dX5_lookAt_105 (by decide) (fun cc => absurd cc (by decide)) (fun _ => ?_)
              refine j_aload_n h dX5_lookAt_108 rfl ?_
              refine j_iload h dX5_lookAt_109 rfl ?_
              refine j_aload_n h dX5_lookAt_111 rfl ?_
              refine gC5_45 h dX5_lookAt_112 ?_
              refine j_aload_n h dX5_lookAt_115 rfl ?_
              refine j_callVV (q0 := 65) (ci := 5) h [.int x4, .ref (G.2.2 (m.2.2 26 1)), .ref (G.2.2 53)] (kX5_dropAgainst _ G h.2.2.2.2.2.2.2.2.2.2 m x4 (m.2.2 26 1)) okX5_dropAgainst inX5_dropAgainst ml5_63 rfl rfl rfl rfl (by decide) (by decide) (Nat.le_of_ble_eq_true rfl) rfl dX5_lookAt_116 (fun m13 hm13 => ?_)
              refine j_iinc (v := (x4 + (1 : Int32))) h dX5_lookAt_119 rfl (by rw [kiconst_1]) rfl ?_
              refine j_goto (tgt := 54) h dX5_lookAt_122 (by decide) ?_
              refine j_wk (ls' := [some (.ref (G.2.2 65)), some (.ref (G.2.2 26)), some (.int x2), some (.ref (G.2.2 53)), some (.int (x4 + (1 : Int32))), none]) (And.intro rfl (And.intro rfl (And.intro rfl (And.intro rfl (And.intro rfl trivial))))) ?_
              exact ih.2 x2 (x4 + (1 : Int32)) m13
          · refine j_iconst (v := (1 : Int32)) h dX5_lookAt_85 kiconst_1 ?_
            refine j_goto (tgt := 90) h dX5_lookAt_86 (by decide) ?_
            refine j_istore h dX5_lookAt_90 rfl rfl ?_
            refine j_aload_n h dX5_lookAt_92 rfl ?_
            refine gC5_22 h dX5_lookAt_93 ?_
            refine j_iload h dX5_lookAt_96 rfl ?_
            refine aC_69 h dX5_lookAt_98 (fun v14 hv14 => ?_)
            refine j_iload_n h dX5_lookAt_99 rfl ?_
            refine j_icmp_gt (tgt := 119) h dX5_lookAt_100 (by decide) (fun c15 => ?_) (fun c15 => ?_)
            · refine j_iinc (v := (x4 + (1 : Int32))) h dX5_lookAt_119 rfl (by rw [kiconst_1]) rfl ?_
              refine j_goto (tgt := 54) h dX5_lookAt_122 (by decide) ?_
              refine j_wk (ls' := [some (.ref (G.2.2 65)), some (.ref (G.2.2 26)), some (.int x2), some (.ref (G.2.2 53)), some (.int (x4 + (1 : Int32))), none]) (And.intro rfl (And.intro rfl (And.intro rfl (And.intro rfl (And.intro rfl trivial))))) ?_
              exact ih.2 x2 (x4 + (1 : Int32)) m
            · refine j_iload h dX5_lookAt_103 rfl ?_
              refine j_if_neB (tgt := 119) h dX5_lookAt_105 (by decide) (fun _ => ?_) (fun cc => absurd (by decide) cc)
              refine j_iinc (v := (x4 + (1 : Int32))) h dX5_lookAt_119 rfl (by rw [kiconst_1]) rfl ?_
              refine j_goto (tgt := 54) h dX5_lookAt_122 (by decide) ?_
              refine j_wk (ls' := [some (.ref (G.2.2 65)), some (.ref (G.2.2 26)), some (.int x2), some (.ref (G.2.2 53)), some (.int (x4 + (1 : Int32))), none]) (And.intro rfl (And.intro rfl (And.intro rfl (And.intro rfl (And.intro rfl trivial))))) ?_
              exact ih.2 x2 (x4 + (1 : Int32)) m
set_option maxHeartbeats 4000000 in
set_option maxRecDepth 100000 in
theorem kX5_lookAt (l : Launch) (G : Gt) (hD : ∀ m, va_D (inA G nC) (wC G m)) (m : Mem) (x2 : Int32) : ∀ a, fX5_lookAt m x2 = some a → Ct l G wC nC yX5_lookAt cX5_lookAt 6 none 6 [.ref (G.2.2 65), .ref (G.2.2 26), .int x2] m (cvV a) := by
  refine ct_of (own := RX5) (ls0 := [some (.ref (G.2.2 65)), some (.ref (G.2.2 26)), some (.int x2), none, none, none]) (by decide) rfl rfl rfl (Nat.le_of_ble_eq_true rfl) hD (fun X h => ?_) l
  unfold fX5_lookAt
  refine j_aload_n h dX5_lookAt_0 rfl ?_
  refine j_callVR (q0 := 26) (ci := 9) h [] (kX9_today _ G h.2.2.2.2.2.2.2.2.2.2 m) okX9_today inX9_today ml5_39 rfl rfl rfl rfl (by decide) (by decide) (Nat.le_of_ble_eq_true rfl) rfl dX5_lookAt_1 (fun r1 m2 hr1 => ?_)
  refine j_gEq (fun hg3 => ?_)
  subst hg3
  refine j_astore_n h dX5_lookAt_4 rfl rfl ?_
  refine j_aload_n h dX5_lookAt_5 rfl ?_
  refine j_iconst (v := (1 : Int32)) h dX5_lookAt_6 kiconst_1 ?_
  refine j_aload_n h dX5_lookAt_7 rfl ?_
  refine gC5_45 h dX5_lookAt_8 ?_
  refine j_gPl (fun hg4 => ?_)
  refine gC5_49 h hg4 dX5_lookAt_11 ?_
  refine j_ishl h dX5_lookAt_14 ?_
  refine j_sipush (v := (128 : Int32)) h dX5_lookAt_15 ksipush_128 ?_
  refine j_mmin h ml5_54 (Nat.le_of_ble_eq_true rfl) rfl (by decide) dX5_lookAt_18 ?_
  refine pC5_60 h dX5_lookAt_21 (fun m5 hm5 => ?_)
  refine j_iconst (v := (0 : Int32)) h dX5_lookAt_24 kiconst_0 ?_
  refine j_istore h dX5_lookAt_25 rfl rfl ?_
  refine j_wk (ls' := [some (.ref (G.2.2 65)), some (.ref (G.2.2 26)), some (.int x2), some (.ref (G.2.2 53)), some (.int (0 : Int32)), none]) (And.intro rfl (And.intro rfl (And.intro rfl (And.intro rfl (And.intro rfl trivial))))) ?_
  exact (wX5_lookAt h 5000).1 x2 (0 : Int32) m5
