theorem dX5_sideOf_0 : DD cX5_sideOf 0 (.iconst 0) 1 1 := ⟨by decide +kernel, rfl⟩
theorem dX5_sideOf_1 : DD cX5_sideOf 1 (.istore_n 2) 1 2 := ⟨by decide +kernel, rfl⟩
theorem dX5_sideOf_2 : DD cX5_sideOf 2 (.iconst 0) 1 3 := ⟨by decide +kernel, rfl⟩
theorem dX5_sideOf_3 : DD cX5_sideOf 3 (.istore_n 3) 1 4 := ⟨by decide +kernel, rfl⟩
theorem dX5_sideOf_4 : DD cX5_sideOf 4 (.iload_n 3) 1 5 := ⟨by decide +kernel, rfl⟩
theorem dX5_sideOf_5 : DD cX5_sideOf 5 (.aload_n 0) 1 6 := ⟨by decide +kernel, rfl⟩
theorem dX5_sideOf_6 : DD cX5_sideOf 6 (.getfield 60) 3 9 := ⟨by decide +kernel, rfl⟩
theorem dX5_sideOf_9 : DD cX5_sideOf 9 (.if_icmp .ge 22) 3 12 := ⟨by decide +kernel, rfl⟩
theorem dX5_sideOf_12 : DD cX5_sideOf 12 (.iload_n 2) 1 13 := ⟨by decide +kernel, rfl⟩
theorem dX5_sideOf_13 : DD cX5_sideOf 13 (.aload_n 0) 1 14 := ⟨by decide +kernel, rfl⟩
theorem dX5_sideOf_14 : DD cX5_sideOf 14 (.getfield 28) 3 17 := ⟨by decide +kernel, rfl⟩
theorem dX5_sideOf_17 : DD cX5_sideOf 17 (.iload_n 3) 1 18 := ⟨by decide +kernel, rfl⟩
theorem dX5_sideOf_18 : DD cX5_sideOf 18 (.iaload) 1 19 := ⟨by decide +kernel, rfl⟩
theorem dX5_sideOf_19 : DD cX5_sideOf 19 (.iload_n 1) 1 20 := ⟨by decide +kernel, rfl⟩
theorem dX5_sideOf_20 : DD cX5_sideOf 20 (.ishr) 1 21 := ⟨by decide +kernel, rfl⟩
theorem dX5_sideOf_21 : DD cX5_sideOf 21 (.iconst 1) 1 22 := ⟨by decide +kernel, rfl⟩
theorem dX5_sideOf_22 : DD cX5_sideOf 22 (.iand) 1 23 := ⟨by decide +kernel, rfl⟩
theorem dX5_sideOf_23 : DD cX5_sideOf 23 (.iadd) 1 24 := ⟨by decide +kernel, rfl⟩
theorem dX5_sideOf_24 : DD cX5_sideOf 24 (.istore_n 2) 1 25 := ⟨by decide +kernel, rfl⟩
theorem dX5_sideOf_25 : DD cX5_sideOf 25 (.iinc 3 1) 3 28 := ⟨by decide +kernel, rfl⟩
theorem dX5_sideOf_28 : DD cX5_sideOf 28 (.goto (-24)) 3 31 := ⟨by decide +kernel, rfl⟩
theorem dX5_sideOf_31 : DD cX5_sideOf 31 (.aload_n 0) 1 32 := ⟨by decide +kernel, rfl⟩
theorem dX5_sideOf_32 : DD cX5_sideOf 32 (.getfield 60) 3 35 := ⟨by decide +kernel, rfl⟩
theorem dX5_sideOf_35 : DD cX5_sideOf 35 (.ifCond .ne 5) 3 38 := ⟨by decide +kernel, rfl⟩
theorem dX5_sideOf_38 : DD cX5_sideOf 38 (.iconst (-1)) 1 39 := ⟨by decide +kernel, rfl⟩
theorem dX5_sideOf_39 : DD cX5_sideOf 39 (.ireturn) 1 40 := ⟨by decide +kernel, rfl⟩
theorem dX5_sideOf_40 : DD cX5_sideOf 40 (.iload_n 2) 1 41 := ⟨by decide +kernel, rfl⟩
theorem dX5_sideOf_41 : DD cX5_sideOf 41 (.ifCond .ne 5) 3 44 := ⟨by decide +kernel, rfl⟩
theorem dX5_sideOf_44 : DD cX5_sideOf 44 (.iconst 0) 1 45 := ⟨by decide +kernel, rfl⟩
theorem dX5_sideOf_45 : DD cX5_sideOf 45 (.ireturn) 1 46 := ⟨by decide +kernel, rfl⟩
theorem dX5_sideOf_46 : DD cX5_sideOf 46 (.iload_n 2) 1 47 := ⟨by decide +kernel, rfl⟩
theorem dX5_sideOf_47 : DD cX5_sideOf 47 (.aload_n 0) 1 48 := ⟨by decide +kernel, rfl⟩
theorem dX5_sideOf_48 : DD cX5_sideOf 48 (.getfield 60) 3 51 := ⟨by decide +kernel, rfl⟩
theorem dX5_sideOf_51 : DD cX5_sideOf 51 (.if_icmp .ne 7) 3 54 := ⟨by decide +kernel, rfl⟩
theorem dX5_sideOf_54 : DD cX5_sideOf 54 (.iconst 1) 1 55 := ⟨by decide +kernel, rfl⟩
theorem dX5_sideOf_55 : DD cX5_sideOf 55 (.goto 5) 3 58 := ⟨by decide +kernel, rfl⟩
theorem dX5_sideOf_58 : DD cX5_sideOf 58 (.bipush (-2)) 2 60 := ⟨by decide +kernel, rfl⟩
theorem dX5_sideOf_60 : DD cX5_sideOf 60 (.ireturn) 1 61 := ⟨by decide +kernel, rfl⟩
def gX5_sideOf (m : Mem) : Nat → Int32 → Int32 → Int32 → Option Int32
  | 0, _, _, _ => none
  | f + 1, x1, x2, x3 => (if (m.1 65 8) ≤ x3 then (if (m.1 65 8) = 0 then (some (-1 : Int32)) else (if x2 = 0 then (some (0 : Int32)) else (if x2 = (m.1 65 8) then (some (1 : Int32)) else (some (-2 : Int32))))) else (rd (m.1 71) 128 x3 fun v5 => (nm (x2 + ((v5 >>> (x1 &&& 31)) &&& (1 : Int32))) fun v6 => (gX5_sideOf m f x1 v6 (x3 + (1 : Int32))))))
def fX5_sideOf (m : Mem) (x1 : Int32) : Option Int32 := (gX5_sideOf m 5000 x1 (0 : Int32) (0 : Int32))
set_option maxHeartbeats 4000000 in
set_option maxRecDepth 100000 in
theorem wX5_sideOf {X : Cx} {G : Gt} (h : OkX (X, G, wC, nC) cX5_sideOf RX5 4 (some .int) 1) (m : Mem) : ∀ f : Nat, (∀ (x1 : Int32) (x2 : Int32) (x3 : Int32), JR (X, G, wC, nC) (cvP m) m 4 [some (.ref (G.2.2 65)), some (.int x1), some (.int x2), some (.int x3)] [] (gX5_sideOf m f x1 x2 x3)) := by
  intro f
  induction f with
  | zero => exact (fun _ _ _ => j_none)
  | succ f ih =>
    intro x1 x2 x3
    rw [gX5_sideOf]
    refine j_iload_n h dX5_sideOf_4 rfl ?_
    refine j_aload_n h dX5_sideOf_5 rfl ?_
    refine gC5_60 h dX5_sideOf_6 ?_
    refine j_icmp_ge (tgt := 31) h dX5_sideOf_9 (by decide) (fun c1 => ?_) (fun c1 => ?_)
    · refine j_aload_n h dX5_sideOf_31 rfl ?_
      refine gC5_60 h dX5_sideOf_32 ?_
      refine j_if_ne (tgt := 40) h dX5_sideOf_35 (by decide) (fun c2 => ?_) (fun c2 => ?_)
      · refine j_iload_n h dX5_sideOf_40 rfl ?_
        refine j_if_ne (tgt := 46) h dX5_sideOf_41 (by decide) (fun c3 => ?_) (fun c3 => ?_)
        · refine j_iload_n h dX5_sideOf_46 rfl ?_
          refine j_aload_n h dX5_sideOf_47 rfl ?_
          refine gC5_60 h dX5_sideOf_48 ?_
          refine j_icmp_ne (tgt := 58) h dX5_sideOf_51 (by decide) (fun c4 => ?_) (fun c4 => ?_)
          · refine j_bipush (v := (-2 : Int32)) h dX5_sideOf_58 kbipush_m2 ?_
            exact j_iret h rfl dX5_sideOf_60
          · refine j_iconst (v := (1 : Int32)) h dX5_sideOf_54 kiconst_1 ?_
            refine j_goto (tgt := 60) h dX5_sideOf_55 (by decide) ?_
            exact j_iret h rfl dX5_sideOf_60
        · refine j_iconst (v := (0 : Int32)) h dX5_sideOf_44 kiconst_0 ?_
          exact j_iret h rfl dX5_sideOf_45
      · refine j_iconst (v := (-1 : Int32)) h dX5_sideOf_38 kiconst_m1 ?_
        exact j_iret h rfl dX5_sideOf_39
    · refine j_iload_n h dX5_sideOf_12 rfl ?_
      refine j_aload_n h dX5_sideOf_13 rfl ?_
      refine gC5_28 h dX5_sideOf_14 ?_
      refine j_iload_n h dX5_sideOf_17 rfl ?_
      refine aC_71 h dX5_sideOf_18 (fun v5 hv5 => ?_)
      refine j_iload_n h dX5_sideOf_19 rfl ?_
      refine j_ishr h dX5_sideOf_20 ?_
      refine j_iconst (v := (1 : Int32)) h dX5_sideOf_21 kiconst_1 ?_
      refine j_iand h dX5_sideOf_22 ?_
      refine j_iadd h dX5_sideOf_23 ?_
      refine j_nm (fun v6 hv6 => ?_)
      refine j_istore_n h dX5_sideOf_24 rfl rfl ?_
      refine j_iinc (v := (x3 + (1 : Int32))) h dX5_sideOf_25 rfl (by rw [kiconst_1]) rfl ?_
      refine j_goto (tgt := 4) h dX5_sideOf_28 (by decide) ?_
      refine j_wk (ls' := [some (.ref (G.2.2 65)), some (.int x1), some (.int v6), some (.int (x3 + (1 : Int32)))]) (And.intro rfl (And.intro rfl (And.intro rfl (And.intro rfl trivial)))) ?_
      exact ih x1 v6 (x3 + (1 : Int32))
set_option maxHeartbeats 4000000 in
set_option maxRecDepth 100000 in
theorem kX5_sideOf (l : Launch) (G : Gt) (hD : ∀ m, va_D (inA G nC) (wC G m)) (m : Mem) (x1 : Int32) : ∀ a, fX5_sideOf m x1 = some a → Ct l G wC nC yX5_sideOf cX5_sideOf 4 (some .int) 1 [.ref (G.2.2 65), .int x1] m ((cvP m) a) := by
  refine ct_of (own := RX5) (ls0 := [some (.ref (G.2.2 65)), some (.int x1), none, none]) (by decide) rfl rfl rfl (Nat.le_of_ble_eq_true rfl) hD (fun X h => ?_) l
  unfold fX5_sideOf
  refine j_iconst (v := (0 : Int32)) h dX5_sideOf_0 kiconst_0 ?_
  refine j_istore_n h dX5_sideOf_1 rfl rfl ?_
  refine j_iconst (v := (0 : Int32)) h dX5_sideOf_2 kiconst_0 ?_
  refine j_istore_n h dX5_sideOf_3 rfl rfl ?_
  refine j_wk (ls' := [some (.ref (G.2.2 65)), some (.int x1), some (.int (0 : Int32)), some (.int (0 : Int32))]) (And.intro rfl (And.intro rfl (And.intro rfl (And.intro rfl trivial)))) ?_
  exact (wX5_sideOf h m 5000) x1 (0 : Int32) (0 : Int32)
theorem dX5_mostLeft_0 : DD cX5_mostLeft 0 (.aload_n 1) 1 1 := ⟨by decide +kernel, rfl⟩
theorem dX5_mostLeft_1 : DD cX5_mostLeft 1 (.getfield 45) 3 4 := ⟨by decide +kernel, rfl⟩
theorem dX5_mostLeft_4 : DD cX5_mostLeft 4 (.iload_n 2) 1 5 := ⟨by decide +kernel, rfl⟩
theorem dX5_mostLeft_5 : DD cX5_mostLeft 5 (.invokevirtual 67) 3 8 := ⟨by decide +kernel, rfl⟩
theorem dX5_mostLeft_8 : DD cX5_mostLeft 8 (.istore 4) 2 10 := ⟨by decide +kernel, rfl⟩
theorem dX5_mostLeft_10 : DD cX5_mostLeft 10 (.aload_n 1) 1 11 := ⟨by decide +kernel, rfl⟩
theorem dX5_mostLeft_11 : DD cX5_mostLeft 11 (.invokevirtual 39) 3 14 := ⟨by decide +kernel, rfl⟩
theorem dX5_mostLeft_14 : DD cX5_mostLeft 14 (.iconst 0) 1 15 := ⟨by decide +kernel, rfl⟩
theorem dX5_mostLeft_15 : DD cX5_mostLeft 15 (.iload_n 3) 1 16 := ⟨by decide +kernel, rfl⟩
theorem dX5_mostLeft_16 : DD cX5_mostLeft 16 (.invokevirtual 71) 3 19 := ⟨by decide +kernel, rfl⟩
theorem dX5_mostLeft_19 : DD cX5_mostLeft 19 (.istore 5) 2 21 := ⟨by decide +kernel, rfl⟩
theorem dX5_mostLeft_21 : DD cX5_mostLeft 21 (.iconst 0) 1 22 := ⟨by decide +kernel, rfl⟩
theorem dX5_mostLeft_22 : DD cX5_mostLeft 22 (.istore 6) 2 24 := ⟨by decide +kernel, rfl⟩
theorem dX5_mostLeft_24 : DD cX5_mostLeft 24 (.iconst 0) 1 25 := ⟨by decide +kernel, rfl⟩
theorem dX5_mostLeft_25 : DD cX5_mostLeft 25 (.istore 7) 2 27 := ⟨by decide +kernel, rfl⟩
theorem dX5_mostLeft_27 : DD cX5_mostLeft 27 (.iload 7) 2 29 := ⟨by decide +kernel, rfl⟩
theorem dX5_mostLeft_29 : DD cX5_mostLeft 29 (.aload_n 0) 1 30 := ⟨by decide +kernel, rfl⟩
theorem dX5_mostLeft_30 : DD cX5_mostLeft 30 (.getfield 60) 3 33 := ⟨by decide +kernel, rfl⟩
theorem dX5_mostLeft_33 : DD cX5_mostLeft 33 (.if_icmp .ge 36) 3 36 := ⟨by decide +kernel, rfl⟩
theorem dX5_mostLeft_36 : DD cX5_mostLeft 36 (.iload 6) 2 38 := ⟨by decide +kernel, rfl⟩
theorem dX5_mostLeft_38 : DD cX5_mostLeft 38 (.aload_n 0) 1 39 := ⟨by decide +kernel, rfl⟩
theorem dX5_mostLeft_39 : DD cX5_mostLeft 39 (.getfield 28) 3 42 := ⟨by decide +kernel, rfl⟩
theorem dX5_mostLeft_42 : DD cX5_mostLeft 42 (.iload 7) 2 44 := ⟨by decide +kernel, rfl⟩
theorem dX5_mostLeft_44 : DD cX5_mostLeft 44 (.iaload) 1 45 := ⟨by decide +kernel, rfl⟩
theorem dX5_mostLeft_45 : DD cX5_mostLeft 45 (.iload 4) 2 47 := ⟨by decide +kernel, rfl⟩
theorem dX5_mostLeft_47 : DD cX5_mostLeft 47 (.iload 5) 2 49 := ⟨by decide +kernel, rfl⟩
theorem dX5_mostLeft_49 : DD cX5_mostLeft 49 (.invokestatic 77) 3 52 := ⟨by decide +kernel, rfl⟩
theorem dX5_mostLeft_52 : DD cX5_mostLeft 52 (.ifCond .eq 7) 3 55 := ⟨by decide +kernel, rfl⟩
theorem dX5_mostLeft_55 : DD cX5_mostLeft 55 (.iconst 1) 1 56 := ⟨by decide +kernel, rfl⟩
theorem dX5_mostLeft_56 : DD cX5_mostLeft 56 (.goto 4) 3 59 := ⟨by decide +kernel, rfl⟩
theorem dX5_mostLeft_59 : DD cX5_mostLeft 59 (.iconst 0) 1 60 := ⟨by decide +kernel, rfl⟩
theorem dX5_mostLeft_60 : DD cX5_mostLeft 60 (.iadd) 1 61 := ⟨by decide +kernel, rfl⟩
theorem dX5_mostLeft_61 : DD cX5_mostLeft 61 (.istore 6) 2 63 := ⟨by decide +kernel, rfl⟩
theorem dX5_mostLeft_63 : DD cX5_mostLeft 63 (.iinc 7 1) 3 66 := ⟨by decide +kernel, rfl⟩
theorem dX5_mostLeft_66 : DD cX5_mostLeft 66 (.goto (-39)) 3 69 := ⟨by decide +kernel, rfl⟩
theorem dX5_mostLeft_69 : DD cX5_mostLeft 69 (.iload 6) 2 71 := ⟨by decide +kernel, rfl⟩
theorem dX5_mostLeft_71 : DD cX5_mostLeft 71 (.aload_n 0) 1 72 := ⟨by decide +kernel, rfl⟩
theorem dX5_mostLeft_72 : DD cX5_mostLeft 72 (.getfield 60) 3 75 := ⟨by decide +kernel, rfl⟩
theorem dX5_mostLeft_75 : DD cX5_mostLeft 75 (.iload 6) 2 77 := ⟨by decide +kernel, rfl⟩
theorem dX5_mostLeft_77 : DD cX5_mostLeft 77 (.isub) 1 78 := ⟨by decide +kernel, rfl⟩
theorem dX5_mostLeft_78 : DD cX5_mostLeft 78 (.invokestatic 85) 3 81 := ⟨by decide +kernel, rfl⟩
theorem dX5_mostLeft_81 : DD cX5_mostLeft 81 (.ireturn) 1 82 := ⟨by decide +kernel, rfl⟩
def gX5_mostLeft : Nat → Int32 → Int32 → Int32 → Int32 → Mem → Option (Int32 × Mem)
  | 0, _, _, _, _, _ => none
  | f + 1, x4, x5, x6, x7, m => (if (m.1 65 8) ≤ x7 then (some ((imax x6 ((m.1 65 8) - x6)), m)) else (rd (m.1 71) 128 x7 fun v2 => (cP (fX5_isLit v2 x4 x5) fun r3 => (if r3 = 0 then (nm (x6 + (0 : Int32)) fun v6 => (gX5_mostLeft f x4 x5 v6 (x7 + (1 : Int32)) m)) else (nm (x6 + (1 : Int32)) fun v7 => (gX5_mostLeft f x4 x5 v7 (x7 + (1 : Int32)) m))))))
def fX5_mostLeft (m : Mem) (x2 : Int32) (x3 : Int32) : Option (Int32 × Mem) := (gPl (m.2.2 26 1) (cP (fX6_whoLivesAt m (m.2.2 26 1) x2) fun r2 => (cR (fX9_today m) fun r4 m5 => (gEq r4 53 (cP (fX2_wakes m5 (0 : Int32) x3) fun r7 => (gX5_mostLeft 5000 r2 r7 (0 : Int32) (0 : Int32) m5))))))
set_option maxHeartbeats 4000000 in
set_option maxRecDepth 100000 in
theorem wX5_mostLeft {X : Cx} {G : Gt} (h : OkX (X, G, wC, nC) cX5_mostLeft RX5 8 (some .int) 6) : ∀ f : Nat, (∀ (x4 : Int32) (x5 : Int32) (x6 : Int32) (x7 : Int32) (m : Mem), JR (X, G, wC, nC) cvI m 27 [some (.ref (G.2.2 65)), none, none, none, some (.int x4), some (.int x5), some (.int x6), some (.int x7)] [] (gX5_mostLeft f x4 x5 x6 x7 m)) := by
  intro f
  induction f with
  | zero => exact (fun _ _ _ _ _ => j_none)
  | succ f ih =>
    intro x4 x5 x6 x7 m
    rw [gX5_mostLeft]
    refine j_iload h dX5_mostLeft_27 rfl ?_
    refine j_aload_n h dX5_mostLeft_29 rfl ?_
    refine gC5_60 h dX5_mostLeft_30 ?_
    refine j_icmp_ge (tgt := 69) h dX5_mostLeft_33 (by decide) (fun c1 => ?_) (fun c1 => ?_)
    · refine j_iload h dX5_mostLeft_69 rfl ?_
      refine j_aload_n h dX5_mostLeft_71 rfl ?_
      refine gC5_60 h dX5_mostLeft_72 ?_
      refine j_iload h dX5_mostLeft_75 rfl ?_
      refine j_isub h dX5_mostLeft_77 ?_
      refine j_mmax h ml5_85 (Nat.le_of_ble_eq_true rfl) rfl (by decide) dX5_mostLeft_78 ?_
      exact j_iret h rfl dX5_mostLeft_81
    · refine j_iload h dX5_mostLeft_36 rfl ?_
      refine j_aload_n h dX5_mostLeft_38 rfl ?_
      refine gC5_28 h dX5_mostLeft_39 ?_
      refine j_iload h dX5_mostLeft_42 rfl ?_
      refine aC_71 h dX5_mostLeft_44 (fun v2 hv2 => ?_)
      refine j_iload h dX5_mostLeft_45 rfl ?_
      refine j_iload h dX5_mostLeft_47 rfl ?_
      refine j_callSP h [.int v2, .int x4, .int x5] (kX5_isLit _ G h.2.2.2.2.2.2.2.2.2.2 m v2 x4 x5) okX5_isLit stX5_isLit ml5_77 rfl rfl (by decide) (by decide) (Nat.le_of_ble_eq_true rfl) rfl dX5_mostLeft_49 (fun r3 hr3 => ?_)
      refine j_if_eq (tgt := 59) h dX5_mostLeft_52 (by decide) (fun c5 => ?_) (fun c5 => ?_)
      · refine j_iconst (v := (0 : Int32)) h dX5_mostLeft_59 kiconst_0 ?_
        refine j_iadd h dX5_mostLeft_60 ?_
        refine j_nm (fun v6 hv6 => ?_)
        refine j_istore h dX5_mostLeft_61 rfl rfl ?_
        refine j_iinc (v := (x7 + (1 : Int32))) h dX5_mostLeft_63 rfl (by rw [kiconst_1]) rfl ?_
        refine j_goto (tgt := 27) h dX5_mostLeft_66 (by decide) ?_
        refine j_wk (ls' := [some (.ref (G.2.2 65)), none, none, none, some (.int x4), some (.int x5), some (.int v6), some (.int (x7 + (1 : Int32)))]) (And.intro rfl (And.intro rfl (And.intro rfl (And.intro rfl (And.intro rfl trivial))))) ?_
        exact ih x4 x5 v6 (x7 + (1 : Int32)) m
      · refine j_iconst (v := (1 : Int32)) h dX5_mostLeft_55 kiconst_1 ?_
        refine j_goto (tgt := 60) h dX5_mostLeft_56 (by decide) ?_
        refine j_iadd h dX5_mostLeft_60 ?_
        refine j_nm (fun v7 hv7 => ?_)
        refine j_istore h dX5_mostLeft_61 rfl rfl ?_
        refine j_iinc (v := (x7 + (1 : Int32))) h dX5_mostLeft_63 rfl (by rw [kiconst_1]) rfl ?_
        refine j_goto (tgt := 27) h dX5_mostLeft_66 (by decide) ?_
        refine j_wk (ls' := [some (.ref (G.2.2 65)), none, none, none, some (.int x4), some (.int x5), some (.int v7), some (.int (x7 + (1 : Int32)))]) (And.intro rfl (And.intro rfl (And.intro rfl (And.intro rfl (And.intro rfl trivial))))) ?_
        exact ih x4 x5 v7 (x7 + (1 : Int32)) m
set_option maxHeartbeats 4000000 in
set_option maxRecDepth 100000 in
theorem kX5_mostLeft (l : Launch) (G : Gt) (hD : ∀ m, va_D (inA G nC) (wC G m)) (m : Mem) (x2 : Int32) (x3 : Int32) : ∀ a, fX5_mostLeft m x2 x3 = some a → Ct l G wC nC yX5_mostLeft cX5_mostLeft 8 (some .int) 6 [.ref (G.2.2 65), .ref (G.2.2 26), .int x2, .int x3] m (cvI a) := by
  refine ct_of (own := RX5) (ls0 := [some (.ref (G.2.2 65)), some (.ref (G.2.2 26)), some (.int x2), some (.int x3), none, none, none, none]) (by decide) rfl rfl rfl (Nat.le_of_ble_eq_true rfl) hD (fun X h => ?_) l
  unfold fX5_mostLeft
  refine j_aload_n h dX5_mostLeft_0 rfl ?_
  refine gC5_45 h dX5_mostLeft_1 ?_
  refine j_iload_n h dX5_mostLeft_4 rfl ?_
  refine j_gPl (fun hg1 => ?_)
  refine j_callVP (q0 := (m.2.2 26 1)) (ci := 6) h [.int x2] (kX6_whoLivesAt _ G h.2.2.2.2.2.2.2.2.2.2 m (m.2.2 26 1) x2) okX6_whoLivesAt inX6_whoLivesAt ml5_67 rfl (at_Pl hg1) rfl rfl (by decide) (by decide) (Nat.le_of_ble_eq_true rfl) rfl dX5_mostLeft_5 (fun r2 hr2 => ?_)
  refine j_istore h dX5_mostLeft_8 rfl rfl ?_
  refine j_aload_n h dX5_mostLeft_10 rfl ?_
  refine j_callVR (q0 := 26) (ci := 9) h [] (kX9_today _ G h.2.2.2.2.2.2.2.2.2.2 m) okX9_today inX9_today ml5_39 rfl rfl rfl rfl (by decide) (by decide) (Nat.le_of_ble_eq_true rfl) rfl dX5_mostLeft_11 (fun r4 m5 hr4 => ?_)
  refine j_gEq (fun hg6 => ?_)
  subst hg6
  refine j_iconst (v := (0 : Int32)) h dX5_mostLeft_14 kiconst_0 ?_
  refine j_iload_n h dX5_mostLeft_15 rfl ?_
  refine j_callVP (q0 := 53) (ci := 2) h [.int (0 : Int32), .int x3] (kX2_wakes _ G h.2.2.2.2.2.2.2.2.2.2 m5 (0 : Int32) x3) okX2_wakes inX2_wakes ml5_71 rfl rfl rfl rfl (by decide) (by decide) (Nat.le_of_ble_eq_true rfl) rfl dX5_mostLeft_16 (fun r7 hr7 => ?_)
  refine j_istore h dX5_mostLeft_19 rfl rfl ?_
  refine j_iconst (v := (0 : Int32)) h dX5_mostLeft_21 kiconst_0 ?_
  refine j_istore h dX5_mostLeft_22 rfl rfl ?_
  refine j_iconst (v := (0 : Int32)) h dX5_mostLeft_24 kiconst_0 ?_
  refine j_istore h dX5_mostLeft_25 rfl rfl ?_
  refine j_wk (ls' := [some (.ref (G.2.2 65)), none, none, none, some (.int r2), some (.int r7), some (.int (0 : Int32)), some (.int (0 : Int32))]) (And.intro rfl (And.intro rfl (And.intro rfl (And.intro rfl (And.intro rfl trivial))))) ?_
  exact (wX5_mostLeft h 5000) r2 r7 (0 : Int32) (0 : Int32) m5
theorem dX5_bestHour_0 : DD cX5_bestHour 0 (.iconst 0) 1 1 := ⟨by decide +kernel, rfl⟩
theorem dX5_bestHour_1 : DD cX5_bestHour 1 (.istore_n 3) 1 2 := ⟨by decide +kernel, rfl⟩
theorem dX5_bestHour_2 : DD cX5_bestHour 2 (.aload_n 0) 1 3 := ⟨by decide +kernel, rfl⟩
theorem dX5_bestHour_3 : DD cX5_bestHour 3 (.aload_n 1) 1 4 := ⟨by decide +kernel, rfl⟩
theorem dX5_bestHour_4 : DD cX5_bestHour 4 (.iload_n 2) 1 5 := ⟨by decide +kernel, rfl⟩
theorem dX5_bestHour_5 : DD cX5_bestHour 5 (.iconst 0) 1 6 := ⟨by decide +kernel, rfl⟩
theorem dX5_bestHour_6 : DD cX5_bestHour 6 (.invokevirtual 81) 3 9 := ⟨by decide +kernel, rfl⟩
theorem dX5_bestHour_9 : DD cX5_bestHour 9 (.istore 4) 2 11 := ⟨by decide +kernel, rfl⟩
theorem dX5_bestHour_11 : DD cX5_bestHour 11 (.iconst 1) 1 12 := ⟨by decide +kernel, rfl⟩
theorem dX5_bestHour_12 : DD cX5_bestHour 12 (.istore 5) 2 14 := ⟨by decide +kernel, rfl⟩
theorem dX5_bestHour_14 : DD cX5_bestHour 14 (.iload 5) 2 16 := ⟨by decide +kernel, rfl⟩
theorem dX5_bestHour_16 : DD cX5_bestHour 16 (.bipush 24) 2 18 := ⟨by decide +kernel, rfl⟩
theorem dX5_bestHour_18 : DD cX5_bestHour 18 (.if_icmp .ge 33) 3 21 := ⟨by decide +kernel, rfl⟩
theorem dX5_bestHour_21 : DD cX5_bestHour 21 (.aload_n 0) 1 22 := ⟨by decide +kernel, rfl⟩
theorem dX5_bestHour_22 : DD cX5_bestHour 22 (.aload_n 1) 1 23 := ⟨by decide +kernel, rfl⟩
theorem dX5_bestHour_23 : DD cX5_bestHour 23 (.iload_n 2) 1 24 := ⟨by decide +kernel, rfl⟩
theorem dX5_bestHour_24 : DD cX5_bestHour 24 (.iload 5) 2 26 := ⟨by decide +kernel, rfl⟩
theorem dX5_bestHour_26 : DD cX5_bestHour 26 (.invokevirtual 81) 3 29 := ⟨by decide +kernel, rfl⟩
theorem dX5_bestHour_29 : DD cX5_bestHour 29 (.istore 6) 2 31 := ⟨by decide +kernel, rfl⟩
theorem dX5_bestHour_31 : DD cX5_bestHour 31 (.iload 6) 2 33 := ⟨by decide +kernel, rfl⟩
theorem dX5_bestHour_33 : DD cX5_bestHour 33 (.iload 4) 2 35 := ⟨by decide +kernel, rfl⟩
theorem dX5_bestHour_35 : DD cX5_bestHour 35 (.if_icmp .ge 10) 3 38 := ⟨by decide +kernel, rfl⟩
theorem dX5_bestHour_38 : DD cX5_bestHour 38 (.iload 5) 2 40 := ⟨by decide +kernel, rfl⟩
theorem dX5_bestHour_40 : DD cX5_bestHour 40 (.istore_n 3) 1 41 := ⟨by decide +kernel, rfl⟩
theorem dX5_bestHour_41 : DD cX5_bestHour 41 (.iload 6) 2 43 := ⟨by decide +kernel, rfl⟩
theorem dX5_bestHour_43 : DD cX5_bestHour 43 (.istore 4) 2 45 := ⟨by decide +kernel, rfl⟩
theorem dX5_bestHour_45 : DD cX5_bestHour 45 (.iinc 5 1) 3 48 := ⟨by decide +kernel, rfl⟩
theorem dX5_bestHour_48 : DD cX5_bestHour 48 (.goto (-34)) 3 51 := ⟨by decide +kernel, rfl⟩
theorem dX5_bestHour_51 : DD cX5_bestHour 51 (.iload_n 3) 1 52 := ⟨by decide +kernel, rfl⟩
theorem dX5_bestHour_52 : DD cX5_bestHour 52 (.ireturn) 1 53 := ⟨by decide +kernel, rfl⟩
def gX5_bestHour : Nat → Int32 → Int32 → Int32 → Int32 → Mem → Option (Int32 × Mem)
  | 0, _, _, _, _, _ => none
  | f + 1, x2, x3, x4, x5, m => (if (24 : Int32) ≤ x5 then (some (x3, m)) else (cI (fX5_mostLeft m x2 x5) fun r2 m3 => (if x4 ≤ r2 then (gX5_bestHour f x2 x3 x4 (x5 + (1 : Int32)) m3) else (gX5_bestHour f x2 x5 r2 (x5 + (1 : Int32)) m3))))
def fX5_bestHour (m : Mem) (x2 : Int32) : Option (Int32 × Mem) := (cI (fX5_mostLeft m x2 (0 : Int32)) fun r1 m2 => (gX5_bestHour 5000 x2 (0 : Int32) r1 (1 : Int32) m2))
set_option maxHeartbeats 4000000 in
set_option maxRecDepth 100000 in
theorem wX5_bestHour {X : Cx} {G : Gt} (h : OkX (X, G, wC, nC) cX5_bestHour RX5 7 (some .int) 7) : ∀ f : Nat, (∀ (x2 : Int32) (x3 : Int32) (x4 : Int32) (x5 : Int32) (m : Mem), JR (X, G, wC, nC) cvI m 14 [some (.ref (G.2.2 65)), some (.ref (G.2.2 26)), some (.int x2), some (.int x3), some (.int x4), some (.int x5), none] [] (gX5_bestHour f x2 x3 x4 x5 m)) := by
  intro f
  induction f with
  | zero => exact (fun _ _ _ _ _ => j_none)
  | succ f ih =>
    intro x2 x3 x4 x5 m
    rw [gX5_bestHour]
    refine j_iload h dX5_bestHour_14 rfl ?_
    refine j_bipush (v := (24 : Int32)) h dX5_bestHour_16 kbipush_24 ?_
    refine j_icmp_ge (tgt := 51) h dX5_bestHour_18 (by decide) (fun c1 => ?_) (fun c1 => ?_)
    · refine j_iload_n h dX5_bestHour_51 rfl ?_
      exact j_iret h rfl dX5_bestHour_52
    · refine j_aload_n h dX5_bestHour_21 rfl ?_
      refine j_aload_n h dX5_bestHour_22 rfl ?_
      refine j_iload_n h dX5_bestHour_23 rfl ?_
      refine j_iload h dX5_bestHour_24 rfl ?_
      refine j_callVI (q0 := 65) (ci := 5) h [.ref (G.2.2 26), .int x2, .int x5] (kX5_mostLeft _ G h.2.2.2.2.2.2.2.2.2.2 m x2 x5) okX5_mostLeft inX5_mostLeft ml5_81 rfl rfl rfl rfl (by decide) (by decide) (Nat.le_of_ble_eq_true rfl) rfl dX5_bestHour_26 (fun r2 m3 hr2 => ?_)
      refine j_istore h dX5_bestHour_29 rfl rfl ?_
      refine j_iload h dX5_bestHour_31 rfl ?_
      refine j_iload h dX5_bestHour_33 rfl ?_
      refine j_icmp_ge (tgt := 45) h dX5_bestHour_35 (by decide) (fun c4 => ?_) (fun c4 => ?_)
      · refine j_iinc (v := (x5 + (1 : Int32))) h dX5_bestHour_45 rfl (by rw [kiconst_1]) rfl ?_
        refine j_goto (tgt := 14) h dX5_bestHour_48 (by decide) ?_
        refine j_wk (ls' := [some (.ref (G.2.2 65)), some (.ref (G.2.2 26)), some (.int x2), some (.int x3), some (.int x4), some (.int (x5 + (1 : Int32))), none]) (And.intro rfl (And.intro rfl (And.intro rfl (And.intro rfl (And.intro rfl (And.intro rfl trivial)))))) ?_
        exact ih x2 x3 x4 (x5 + (1 : Int32)) m3
      · refine j_iload h dX5_bestHour_38 rfl ?_
        refine j_istore_n h dX5_bestHour_40 rfl rfl ?_
        refine j_iload h dX5_bestHour_41 rfl ?_
        refine j_istore h dX5_bestHour_43 rfl rfl ?_
        refine j_iinc (v := (x5 + (1 : Int32))) h dX5_bestHour_45 rfl (by rw [kiconst_1]) rfl ?_
        refine j_goto (tgt := 14) h dX5_bestHour_48 (by decide) ?_
        refine j_wk (ls' := [some (.ref (G.2.2 65)), some (.ref (G.2.2 26)), some (.int x2), some (.int x5), some (.int r2), some (.int (x5 + (1 : Int32))), none]) (And.intro rfl (And.intro rfl (And.intro rfl (And.intro rfl (And.intro rfl (And.intro rfl trivial)))))) ?_
        exact ih x2 x5 r2 (x5 + (1 : Int32)) m3
set_option maxHeartbeats 4000000 in
set_option maxRecDepth 100000 in
theorem kX5_bestHour (l : Launch) (G : Gt) (hD : ∀ m, va_D (inA G nC) (wC G m)) (m : Mem) (x2 : Int32) : ∀ a, fX5_bestHour m x2 = some a → Ct l G wC nC yX5_bestHour cX5_bestHour 7 (some .int) 7 [.ref (G.2.2 65), .ref (G.2.2 26), .int x2] m (cvI a) := by
  refine ct_of (own := RX5) (ls0 := [some (.ref (G.2.2 65)), some (.ref (G.2.2 26)), some (.int x2), none, none, none, none]) (by decide) rfl rfl rfl (Nat.le_of_ble_eq_true rfl) hD (fun X h => ?_) l
  unfold fX5_bestHour
  refine j_iconst (v := (0 : Int32)) h dX5_bestHour_0 kiconst_0 ?_
  refine j_istore_n h dX5_bestHour_1 rfl rfl ?_
  refine j_aload_n h dX5_bestHour_2 rfl ?_
  refine j_aload_n h dX5_bestHour_3 rfl ?_
  refine j_iload_n h dX5_bestHour_4 rfl ?_
  refine j_iconst (v := (0 : Int32)) h dX5_bestHour_5 kiconst_0 ?_
  refine j_callVI (q0 := 65) (ci := 5) h [.ref (G.2.2 26), .int x2, .int (0 : Int32)] (kX5_mostLeft _ G h.2.2.2.2.2.2.2.2.2.2 m x2 (0 : Int32)) okX5_mostLeft inX5_mostLeft ml5_81 rfl rfl rfl rfl (by decide) (by decide) (Nat.le_of_ble_eq_true rfl) rfl dX5_bestHour_6 (fun r1 m2 hr1 => ?_)
  refine j_istore h dX5_bestHour_9 rfl rfl ?_
  refine j_iconst (v := (1 : Int32)) h dX5_bestHour_11 kiconst_1 ?_
  refine j_istore h dX5_bestHour_12 rfl rfl ?_
  refine j_wk (ls' := [some (.ref (G.2.2 65)), some (.ref (G.2.2 26)), some (.int x2), some (.int (0 : Int32)), some (.int r1), some (.int (1 : Int32)), none]) (And.intro rfl (And.intro rfl (And.intro rfl (And.intro rfl (And.intro rfl (And.intro rfl trivial)))))) ?_
  exact (wX5_bestHour h 5000) x2 (0 : Int32) r1 (1 : Int32) m2
theorem dX6_clear_0 : DD cX6_clear 0 (.aload_n 0) 1 1 := ⟨by decide +kernel, rfl⟩
theorem dX6_clear_1 : DD cX6_clear 1 (.iconst 0) 1 2 := ⟨by decide +kernel, rfl⟩
theorem dX6_clear_2 : DD cX6_clear 2 (.putfield 63) 3 5 := ⟨by decide +kernel, rfl⟩
theorem dX6_clear_5 : DD cX6_clear 5 (.aload_n 0) 1 6 := ⟨by decide +kernel, rfl⟩
theorem dX6_clear_6 : DD cX6_clear 6 (.iconst 0) 1 7 := ⟨by decide +kernel, rfl⟩
theorem dX6_clear_7 : DD cX6_clear 7 (.putfield 66) 3 10 := ⟨by decide +kernel, rfl⟩
theorem dX6_clear_10 : DD cX6_clear 10 (.aload_n 0) 1 11 := ⟨by decide +kernel, rfl⟩
theorem dX6_clear_11 : DD cX6_clear 11 (.iconst 0) 1 12 := ⟨by decide +kernel, rfl⟩
theorem dX6_clear_12 : DD cX6_clear 12 (.putfield 69) 3 15 := ⟨by decide +kernel, rfl⟩
theorem dX6_clear_15 : DD cX6_clear 15 (.aload_n 0) 1 16 := ⟨by decide +kernel, rfl⟩
theorem dX6_clear_16 : DD cX6_clear 16 (.iconst (-1)) 1 17 := ⟨by decide +kernel, rfl⟩
theorem dX6_clear_17 : DD cX6_clear 17 (.putfield 46) 3 20 := ⟨by decide +kernel, rfl⟩
theorem dX6_clear_20 : DD cX6_clear 20 (.aload_n 0) 1 21 := ⟨by decide +kernel, rfl⟩
theorem dX6_clear_21 : DD cX6_clear 21 (.getfield 53) 3 24 := ⟨by decide +kernel, rfl⟩
theorem dX6_clear_24 : DD cX6_clear 24 (.invokevirtual 72) 3 27 := ⟨by decide +kernel, rfl⟩
theorem dX6_clear_27 : DD cX6_clear 27 (.aload_n 0) 1 28 := ⟨by decide +kernel, rfl⟩
theorem dX6_clear_28 : DD cX6_clear 28 (.getfield 57) 3 31 := ⟨by decide +kernel, rfl⟩
theorem dX6_clear_31 : DD cX6_clear 31 (.invokevirtual 72) 3 34 := ⟨by decide +kernel, rfl⟩
theorem dX6_clear_34 : DD cX6_clear 34 (.aload_n 0) 1 35 := ⟨by decide +kernel, rfl⟩
theorem dX6_clear_35 : DD cX6_clear 35 (.getfield 60) 3 38 := ⟨by decide +kernel, rfl⟩
theorem dX6_clear_38 : DD cX6_clear 38 (.invokevirtual 72) 3 41 := ⟨by decide +kernel, rfl⟩
theorem dX6_clear_41 : DD cX6_clear 41 (.aload_n 0) 1 42 := ⟨by decide +kernel, rfl⟩
theorem dX6_clear_42 : DD cX6_clear 42 (.iconst 0) 1 43 := ⟨by decide +kernel, rfl⟩
theorem dX6_clear_43 : DD cX6_clear 43 (.putfield 75) 3 46 := ⟨by decide +kernel, rfl⟩
theorem dX6_clear_46 : DD cX6_clear 46 (.return_) 1 47 := ⟨by decide +kernel, rfl⟩
def fX6_clear (m : Mem) (x0 : Nat) : Option Mem := (gPl x0 (pt (sI m x0 0 (0 : Int32)) fun m1 => (pt (sI m1 x0 5 (0 : Int32)) fun m3 => (pt (sI m3 x0 10 (0 : Int32)) fun m4 => (pt (sI m4 x0 14 (-1 : Int32)) fun m5 => (cV (fX3_clear m5 (x0 + 12)) fun m7 => (cV (fX3_clear m7 (x0 + 15)) fun m9 => (cV (fX3_clear m9 (x0 + 18)) fun m11 => (pt (sI m11 x0 18 (0 : Int32)) fun m12 => (some m12))))))))))
set_option maxHeartbeats 4000000 in
set_option maxRecDepth 100000 in
theorem kX6_clear (l : Launch) (G : Gt) (hD : ∀ m, va_D (inA G nC) (wC G m)) (m : Mem) (x0 : Nat) : ∀ a, fX6_clear m x0 = some a → Ct l G wC nC yX6_clear cX6_clear 1 none 2 [.ref (G.2.2 x0)] m (cvV a) := by
  refine ct_of (own := RX6) (ls0 := [some (.ref (G.2.2 x0))]) (by decide) rfl rfl rfl (Nat.le_of_ble_eq_true rfl) hD (fun X h => ?_) l
  unfold fX6_clear
  refine j_aload_n h dX6_clear_0 rfl ?_
  refine j_iconst (v := (0 : Int32)) h dX6_clear_1 kiconst_0 ?_
  refine j_gPl (fun hg2 => ?_)
  refine pC6_63 h hg2 dX6_clear_2 (fun m1 hm1 => ?_)
  refine j_aload_n h dX6_clear_5 rfl ?_
  refine j_iconst (v := (0 : Int32)) h dX6_clear_6 kiconst_0 ?_
  refine pC6_66 h hg2 dX6_clear_7 (fun m3 hm3 => ?_)
  refine j_aload_n h dX6_clear_10 rfl ?_
  refine j_iconst (v := (0 : Int32)) h dX6_clear_11 kiconst_0 ?_
  refine pC6_69 h hg2 dX6_clear_12 (fun m4 hm4 => ?_)
  refine j_aload_n h dX6_clear_15 rfl ?_
  refine j_iconst (v := (-1 : Int32)) h dX6_clear_16 kiconst_m1 ?_
  refine pC6_46 h hg2 dX6_clear_17 (fun m5 hm5 => ?_)
  refine j_aload_n h dX6_clear_20 rfl ?_
  refine gC6_53 h hg2 dX6_clear_21 ?_
  refine j_callVV (q0 := (x0 + 12)) (ci := 3) h [] (kX3_clear _ G h.2.2.2.2.2.2.2.2.2.2 m5 (x0 + 12)) okX3_clear inX3_clear ml6_72 rfl (at_Fm (fm_pl12 hg2)) rfl rfl (by decide) (by decide) (Nat.le_of_ble_eq_true rfl) rfl dX6_clear_24 (fun m7 hm7 => ?_)
  refine j_aload_n h dX6_clear_27 rfl ?_
  refine gC6_57 h hg2 dX6_clear_28 ?_
  refine j_callVV (q0 := (x0 + 15)) (ci := 3) h [] (kX3_clear _ G h.2.2.2.2.2.2.2.2.2.2 m7 (x0 + 15)) okX3_clear inX3_clear ml6_72 rfl (at_Fm (fm_pl15 hg2)) rfl rfl (by decide) (by decide) (Nat.le_of_ble_eq_true rfl) rfl dX6_clear_31 (fun m9 hm9 => ?_)
  refine j_aload_n h dX6_clear_34 rfl ?_
  refine gC6_60 h hg2 dX6_clear_35 ?_
  refine j_callVV (q0 := (x0 + 18)) (ci := 3) h [] (kX3_clear _ G h.2.2.2.2.2.2.2.2.2.2 m9 (x0 + 18)) okX3_clear inX3_clear ml6_72 rfl (at_Fm (fm_pl18 hg2)) rfl rfl (by decide) (by decide) (Nat.le_of_ble_eq_true rfl) rfl dX6_clear_38 (fun m11 hm11 => ?_)
  refine j_aload_n h dX6_clear_41 rfl ?_
  refine j_iconst (v := (0 : Int32)) h dX6_clear_42 kiconst_0 ?_
  refine pC6_75 h hg2 dX6_clear_43 (fun m12 hm12 => ?_)
  exact j_vret h rfl dX6_clear_46
theorem dX6_find_0 : DD cX6_find 0 (.iconst 0) 1 1 := ⟨by decide +kernel, rfl⟩
theorem dX6_find_1 : DD cX6_find 1 (.istore_n 3) 1 2 := ⟨by decide +kernel, rfl⟩
theorem dX6_find_2 : DD cX6_find 2 (.iload_n 3) 1 3 := ⟨by decide +kernel, rfl⟩
theorem dX6_find_3 : DD cX6_find 3 (.aload_n 0) 1 4 := ⟨by decide +kernel, rfl⟩
theorem dX6_find_4 : DD cX6_find 4 (.getfield 63) 3 7 := ⟨by decide +kernel, rfl⟩
theorem dX6_find_7 : DD cX6_find 7 (.if_icmp .ge 22) 3 10 := ⟨by decide +kernel, rfl⟩
theorem dX6_find_10 : DD cX6_find 10 (.aload_n 0) 1 11 := ⟨by decide +kernel, rfl⟩
theorem dX6_find_11 : DD cX6_find 11 (.getfield 11) 3 14 := ⟨by decide +kernel, rfl⟩
theorem dX6_find_14 : DD cX6_find 14 (.iload_n 3) 1 15 := ⟨by decide +kernel, rfl⟩
theorem dX6_find_15 : DD cX6_find 15 (.laload) 1 16 := ⟨by decide +kernel, rfl⟩
theorem dX6_find_16 : DD cX6_find 16 (.lload_n 1) 1 17 := ⟨by decide +kernel, rfl⟩
theorem dX6_find_17 : DD cX6_find 17 (.lcmp) 1 18 := ⟨by decide +kernel, rfl⟩
theorem dX6_find_18 : DD cX6_find 18 (.ifCond .ne 5) 3 21 := ⟨by decide +kernel, rfl⟩
theorem dX6_find_21 : DD cX6_find 21 (.iload_n 3) 1 22 := ⟨by decide +kernel, rfl⟩
theorem dX6_find_22 : DD cX6_find 22 (.ireturn) 1 23 := ⟨by decide +kernel, rfl⟩
theorem dX6_find_23 : DD cX6_find 23 (.iinc 3 1) 3 26 := ⟨by decide +kernel, rfl⟩
theorem dX6_find_26 : DD cX6_find 26 (.goto (-24)) 3 29 := ⟨by decide +kernel, rfl⟩
theorem dX6_find_29 : DD cX6_find 29 (.iconst (-1)) 1 30 := ⟨by decide +kernel, rfl⟩
theorem dX6_find_30 : DD cX6_find 30 (.ireturn) 1 31 := ⟨by decide +kernel, rfl⟩
def gX6_find (m : Mem) : Nat → Nat → Int64 → Int32 → Option Int32
  | 0, _, _, _ => none
  | f + 1, x0, x1, x3 => (gPl x0 (if (m.1 x0 0) ≤ x3 then (some (-1 : Int32)) else (rdL (m.2.1 (x0 + 1)) 7 x3 fun v3 => (if (lg_cmp v3 x1) = 0 then (some x3) else (gX6_find m f x0 x1 (x3 + (1 : Int32)))))))
def fX6_find (m : Mem) (x0 : Nat) (x1 : Int64) : Option Int32 := (gX6_find m 5000 x0 x1 (0 : Int32))
set_option maxHeartbeats 4000000 in
set_option maxRecDepth 100000 in
theorem wX6_find {X : Cx} {G : Gt} (h : OkX (X, G, wC, nC) cX6_find RX6 4 (some .int) 1) (m : Mem) : ∀ f : Nat, (∀ (x0 : Nat) (x1 : Int64) (x3 : Int32), JR (X, G, wC, nC) (cvP m) m 2 [some (.ref (G.2.2 x0)), some (.long x1), none, some (.int x3)] [] (gX6_find m f x0 x1 x3)) := by
  intro f
  induction f with
  | zero => exact (fun _ _ _ => j_none)
  | succ f ih =>
    intro x0 x1 x3
    rw [gX6_find]
    refine j_iload_n h dX6_find_2 rfl ?_
    refine j_aload_n h dX6_find_3 rfl ?_
    refine j_gPl (fun hg1 => ?_)
    refine gC6_63 h hg1 dX6_find_4 ?_
    refine j_icmp_ge (tgt := 29) h dX6_find_7 (by decide) (fun c2 => ?_) (fun c2 => ?_)
    · refine j_iconst (v := (-1 : Int32)) h dX6_find_29 kiconst_m1 ?_
      exact j_iret h rfl dX6_find_30
    · refine j_aload_n h dX6_find_10 rfl ?_
      refine gC6_11 h hg1 dX6_find_11 ?_
      refine j_iload_n h dX6_find_14 rfl ?_
      refine aC_Pl1 h hg1 dX6_find_15 (fun v3 hv3 => ?_)
      refine j_lload_n h dX6_find_16 rfl ?_
      refine j_lcmp h dX6_find_17 ?_
      refine j_if_ne (tgt := 23) h dX6_find_18 (by decide) (fun c4 => ?_) (fun c4 => ?_)
      · refine j_iinc (v := (x3 + (1 : Int32))) h dX6_find_23 rfl (by rw [kiconst_1]) rfl ?_
        refine j_goto (tgt := 2) h dX6_find_26 (by decide) ?_
        refine j_wk (ls' := [some (.ref (G.2.2 x0)), some (.long x1), none, some (.int (x3 + (1 : Int32)))]) (And.intro rfl (And.intro rfl (And.intro rfl trivial))) ?_
        exact ih x0 x1 (x3 + (1 : Int32))
      · refine j_iload_n h dX6_find_21 rfl ?_
        exact j_iret h rfl dX6_find_22
set_option maxHeartbeats 4000000 in
set_option maxRecDepth 100000 in
theorem kX6_find (l : Launch) (G : Gt) (hD : ∀ m, va_D (inA G nC) (wC G m)) (m : Mem) (x0 : Nat) (x1 : Int64) : ∀ a, fX6_find m x0 x1 = some a → Ct l G wC nC yX6_find cX6_find 4 (some .int) 1 [.ref (G.2.2 x0), .long x1] m ((cvP m) a) := by
  refine ct_of (own := RX6) (ls0 := [some (.ref (G.2.2 x0)), some (.long x1), none, none]) (by decide) rfl rfl rfl (Nat.le_of_ble_eq_true rfl) hD (fun X h => ?_) l
  unfold fX6_find
  refine j_iconst (v := (0 : Int32)) h dX6_find_0 kiconst_0 ?_
  refine j_istore_n h dX6_find_1 rfl rfl ?_
  refine j_wk (ls' := [some (.ref (G.2.2 x0)), some (.long x1), none, some (.int (0 : Int32))]) (And.intro rfl (And.intro rfl (And.intro rfl trivial))) ?_
  exact (wX6_find h m 5000) x0 x1 (0 : Int32)
theorem dX6_hasMeetOf_0 : DD cX6_hasMeetOf 0 (.iconst 0) 1 1 := ⟨by decide +kernel, rfl⟩
theorem dX6_hasMeetOf_1 : DD cX6_hasMeetOf 1 (.istore_n 3) 1 2 := ⟨by decide +kernel, rfl⟩
theorem dX6_hasMeetOf_2 : DD cX6_hasMeetOf 2 (.iload_n 3) 1 3 := ⟨by decide +kernel, rfl⟩
theorem dX6_hasMeetOf_3 : DD cX6_hasMeetOf 3 (.aload_n 0) 1 4 := ⟨by decide +kernel, rfl⟩
theorem dX6_hasMeetOf_4 : DD cX6_hasMeetOf 4 (.getfield 66) 3 7 := ⟨by decide +kernel, rfl⟩
theorem dX6_hasMeetOf_7 : DD cX6_hasMeetOf 7 (.if_icmp .ge 26) 3 10 := ⟨by decide +kernel, rfl⟩
theorem dX6_hasMeetOf_10 : DD cX6_hasMeetOf 10 (.aload_n 0) 1 11 := ⟨by decide +kernel, rfl⟩
theorem dX6_hasMeetOf_11 : DD cX6_hasMeetOf 11 (.iload_n 3) 1 12 := ⟨by decide +kernel, rfl⟩
theorem dX6_hasMeetOf_12 : DD cX6_hasMeetOf 12 (.invokevirtual 78) 3 15 := ⟨by decide +kernel, rfl⟩
theorem dX6_hasMeetOf_15 : DD cX6_hasMeetOf 15 (.iconst 1) 1 16 := ⟨by decide +kernel, rfl⟩
theorem dX6_hasMeetOf_16 : DD cX6_hasMeetOf 16 (.iload_n 1) 1 17 := ⟨by decide +kernel, rfl⟩
theorem dX6_hasMeetOf_17 : DD cX6_hasMeetOf 17 (.ishl) 1 18 := ⟨by decide +kernel, rfl⟩
theorem dX6_hasMeetOf_18 : DD cX6_hasMeetOf 18 (.iconst 1) 1 19 := ⟨by decide +kernel, rfl⟩
theorem dX6_hasMeetOf_19 : DD cX6_hasMeetOf 19 (.iload_n 2) 1 20 := ⟨by decide +kernel, rfl⟩
theorem dX6_hasMeetOf_20 : DD cX6_hasMeetOf 20 (.ishl) 1 21 := ⟨by decide +kernel, rfl⟩
theorem dX6_hasMeetOf_21 : DD cX6_hasMeetOf 21 (.ior) 1 22 := ⟨by decide +kernel, rfl⟩
theorem dX6_hasMeetOf_22 : DD cX6_hasMeetOf 22 (.if_icmp .ne 5) 3 25 := ⟨by decide +kernel, rfl⟩
theorem dX6_hasMeetOf_25 : DD cX6_hasMeetOf 25 (.iconst 1) 1 26 := ⟨by decide +kernel, rfl⟩
theorem dX6_hasMeetOf_26 : DD cX6_hasMeetOf 26 (.ireturn) 1 27 := ⟨by decide +kernel, rfl⟩
theorem dX6_hasMeetOf_27 : DD cX6_hasMeetOf 27 (.iinc 3 1) 3 30 := ⟨by decide +kernel, rfl⟩
theorem dX6_hasMeetOf_30 : DD cX6_hasMeetOf 30 (.goto (-28)) 3 33 := ⟨by decide +kernel, rfl⟩
theorem dX6_hasMeetOf_33 : DD cX6_hasMeetOf 33 (.iconst 0) 1 34 := ⟨by decide +kernel, rfl⟩
theorem dX6_hasMeetOf_34 : DD cX6_hasMeetOf 34 (.ireturn) 1 35 := ⟨by decide +kernel, rfl⟩
def gX6_hasMeetOf (m : Mem) : Nat → Nat → Int32 → Int32 → Int32 → Option Int32
  | 0, _, _, _, _ => none
  | f + 1, x0, x1, x2, x3 => (gPl x0 (if (m.1 x0 5) ≤ x3 then (some (0 : Int32)) else (cP (fX6_bothOf m x0 x3) fun r3 => (if r3 = (((1 : Int32) <<< (x1 &&& 31)) ||| ((1 : Int32) <<< (x2 &&& 31))) then (some (1 : Int32)) else (gX6_hasMeetOf m f x0 x1 x2 (x3 + (1 : Int32)))))))
def fX6_hasMeetOf (m : Mem) (x0 : Nat) (x1 : Int32) (x2 : Int32) : Option Int32 := (gX6_hasMeetOf m 5000 x0 x1 x2 (0 : Int32))
set_option maxHeartbeats 4000000 in
set_option maxRecDepth 100000 in
theorem wX6_hasMeetOf {X : Cx} {G : Gt} (h : OkX (X, G, wC, nC) cX6_hasMeetOf RX6 4 (some .boolean) 2) (m : Mem) : ∀ f : Nat, (∀ (x0 : Nat) (x1 : Int32) (x2 : Int32) (x3 : Int32), JR (X, G, wC, nC) (cvP m) m 2 [some (.ref (G.2.2 x0)), some (.int x1), some (.int x2), some (.int x3)] [] (gX6_hasMeetOf m f x0 x1 x2 x3)) := by
  intro f
  induction f with
  | zero => exact (fun _ _ _ _ => j_none)
  | succ f ih =>
    intro x0 x1 x2 x3
    rw [gX6_hasMeetOf]
    refine j_iload_n h dX6_hasMeetOf_2 rfl ?_
    refine j_aload_n h dX6_hasMeetOf_3 rfl ?_
    refine j_gPl (fun hg1 => ?_)
    refine gC6_66 h hg1 dX6_hasMeetOf_4 ?_
    refine j_icmp_ge (tgt := 33) h dX6_hasMeetOf_7 (by decide) (fun c2 => ?_) (fun c2 => ?_)
    · refine j_iconst (v := (0 : Int32)) h dX6_hasMeetOf_33 kiconst_0 ?_
      exact j_zretB h rfl rfl dX6_hasMeetOf_34
    · refine j_aload_n h dX6_hasMeetOf_10 rfl ?_
      refine j_iload_n h dX6_hasMeetOf_11 rfl ?_
      refine j_callVP (q0 := x0) (ci := 6) h [.int x3] (kX6_bothOf _ G h.2.2.2.2.2.2.2.2.2.2 m x0 x3) okX6_bothOf inX6_bothOf ml6_78 rfl (at_Pl hg1) rfl rfl (by decide) (by decide) (Nat.le_of_ble_eq_true rfl) rfl dX6_hasMeetOf_12 (fun r3 hr3 => ?_)
      refine j_iconst (v := (1 : Int32)) h dX6_hasMeetOf_15 kiconst_1 ?_
      refine j_iload_n h dX6_hasMeetOf_16 rfl ?_
      refine j_ishl h dX6_hasMeetOf_17 ?_
      refine j_iconst (v := (1 : Int32)) h dX6_hasMeetOf_18 kiconst_1 ?_
      refine j_iload_n h dX6_hasMeetOf_19 rfl ?_
      refine j_ishl h dX6_hasMeetOf_20 ?_
      refine j_ior h dX6_hasMeetOf_21 ?_
      refine j_icmp_ne (tgt := 27) h dX6_hasMeetOf_22 (by decide) (fun c5 => ?_) (fun c5 => ?_)
      · refine j_iinc (v := (x3 + (1 : Int32))) h dX6_hasMeetOf_27 rfl (by rw [kiconst_1]) rfl ?_
        refine j_goto (tgt := 2) h dX6_hasMeetOf_30 (by decide) ?_
        refine j_wk (ls' := [some (.ref (G.2.2 x0)), some (.int x1), some (.int x2), some (.int (x3 + (1 : Int32)))]) (And.intro rfl (And.intro rfl (And.intro rfl (And.intro rfl trivial)))) ?_
        exact ih x0 x1 x2 (x3 + (1 : Int32))
      · refine j_iconst (v := (1 : Int32)) h dX6_hasMeetOf_25 kiconst_1 ?_
        exact j_zretB h rfl rfl dX6_hasMeetOf_26
set_option maxHeartbeats 4000000 in
set_option maxRecDepth 100000 in
theorem kX6_hasMeetOf (l : Launch) (G : Gt) (hD : ∀ m, va_D (inA G nC) (wC G m)) (m : Mem) (x0 : Nat) (x1 : Int32) (x2 : Int32) : ∀ a, fX6_hasMeetOf m x0 x1 x2 = some a → Ct l G wC nC yX6_hasMeetOf cX6_hasMeetOf 4 (some .boolean) 2 [.ref (G.2.2 x0), .int x1, .int x2] m ((cvP m) a) := by
  refine ct_of (own := RX6) (ls0 := [some (.ref (G.2.2 x0)), some (.int x1), some (.int x2), none]) (by decide) rfl rfl rfl (Nat.le_of_ble_eq_true rfl) hD (fun X h => ?_) l
  unfold fX6_hasMeetOf
  refine j_iconst (v := (0 : Int32)) h dX6_hasMeetOf_0 kiconst_0 ?_
  refine j_istore_n h dX6_hasMeetOf_1 rfl rfl ?_
  refine j_wk (ls' := [some (.ref (G.2.2 x0)), some (.int x1), some (.int x2), some (.int (0 : Int32))]) (And.intro rfl (And.intro rfl (And.intro rfl (And.intro rfl trivial)))) ?_
  exact (wX6_hasMeetOf h m 5000) x0 x1 x2 (0 : Int32)
theorem dX6_noiseOf_0 : DD cX6_noiseOf 0 (.iconst 0) 1 1 := ⟨by decide +kernel, rfl⟩
theorem dX6_noiseOf_1 : DD cX6_noiseOf 1 (.istore_n 3) 1 2 := ⟨by decide +kernel, rfl⟩
theorem dX6_noiseOf_2 : DD cX6_noiseOf 2 (.iload_n 3) 1 3 := ⟨by decide +kernel, rfl⟩
theorem dX6_noiseOf_3 : DD cX6_noiseOf 3 (.aload_n 0) 1 4 := ⟨by decide +kernel, rfl⟩
theorem dX6_noiseOf_4 : DD cX6_noiseOf 4 (.getfield 69) 3 7 := ⟨by decide +kernel, rfl⟩
theorem dX6_noiseOf_7 : DD cX6_noiseOf 7 (.if_icmp .ge 31) 3 10 := ⟨by decide +kernel, rfl⟩
theorem dX6_noiseOf_10 : DD cX6_noiseOf 10 (.aload_n 0) 1 11 := ⟨by decide +kernel, rfl⟩
theorem dX6_noiseOf_11 : DD cX6_noiseOf 11 (.getfield 37) 3 14 := ⟨by decide +kernel, rfl⟩
theorem dX6_noiseOf_14 : DD cX6_noiseOf 14 (.iload_n 3) 1 15 := ⟨by decide +kernel, rfl⟩
theorem dX6_noiseOf_15 : DD cX6_noiseOf 15 (.iaload) 1 16 := ⟨by decide +kernel, rfl⟩
theorem dX6_noiseOf_16 : DD cX6_noiseOf 16 (.iload_n 1) 1 17 := ⟨by decide +kernel, rfl⟩
theorem dX6_noiseOf_17 : DD cX6_noiseOf 17 (.if_icmp .ne 15) 3 20 := ⟨by decide +kernel, rfl⟩
theorem dX6_noiseOf_20 : DD cX6_noiseOf 20 (.aload_n 0) 1 21 := ⟨by decide +kernel, rfl⟩
theorem dX6_noiseOf_21 : DD cX6_noiseOf 21 (.getfield 40) 3 24 := ⟨by decide +kernel, rfl⟩
theorem dX6_noiseOf_24 : DD cX6_noiseOf 24 (.iload_n 3) 1 25 := ⟨by decide +kernel, rfl⟩
theorem dX6_noiseOf_25 : DD cX6_noiseOf 25 (.iaload) 1 26 := ⟨by decide +kernel, rfl⟩
theorem dX6_noiseOf_26 : DD cX6_noiseOf 26 (.iload_n 2) 1 27 := ⟨by decide +kernel, rfl⟩
theorem dX6_noiseOf_27 : DD cX6_noiseOf 27 (.if_icmp .ne 5) 3 30 := ⟨by decide +kernel, rfl⟩
theorem dX6_noiseOf_30 : DD cX6_noiseOf 30 (.iload_n 3) 1 31 := ⟨by decide +kernel, rfl⟩
theorem dX6_noiseOf_31 : DD cX6_noiseOf 31 (.ireturn) 1 32 := ⟨by decide +kernel, rfl⟩
theorem dX6_noiseOf_32 : DD cX6_noiseOf 32 (.iinc 3 1) 3 35 := ⟨by decide +kernel, rfl⟩
theorem dX6_noiseOf_35 : DD cX6_noiseOf 35 (.goto (-33)) 3 38 := ⟨by decide +kernel, rfl⟩
theorem dX6_noiseOf_38 : DD cX6_noiseOf 38 (.iconst (-1)) 1 39 := ⟨by decide +kernel, rfl⟩
theorem dX6_noiseOf_39 : DD cX6_noiseOf 39 (.ireturn) 1 40 := ⟨by decide +kernel, rfl⟩
def gX6_noiseOf (m : Mem) : Nat → Nat → Int32 → Int32 → Int32 → Option Int32
  | 0, _, _, _, _ => none
  | f + 1, x0, x1, x2, x3 => (gPl x0 (if (m.1 x0 10) ≤ x3 then (some (-1 : Int32)) else (rd (m.1 (x0 + 9)) 8 x3 fun v3 => (if v3 = x1 then (rd (m.1 (x0 + 10)) 8 x3 fun v5 => (if v5 = x2 then (some x3) else (gX6_noiseOf m f x0 x1 x2 (x3 + (1 : Int32))))) else (gX6_noiseOf m f x0 x1 x2 (x3 + (1 : Int32)))))))
def fX6_noiseOf (m : Mem) (x0 : Nat) (x1 : Int32) (x2 : Int32) : Option Int32 := (gX6_noiseOf m 5000 x0 x1 x2 (0 : Int32))
set_option maxHeartbeats 4000000 in
set_option maxRecDepth 100000 in
theorem wX6_noiseOf {X : Cx} {G : Gt} (h : OkX (X, G, wC, nC) cX6_noiseOf RX6 4 (some .int) 1) (m : Mem) : ∀ f : Nat, (∀ (x0 : Nat) (x1 : Int32) (x2 : Int32) (x3 : Int32), JR (X, G, wC, nC) (cvP m) m 2 [some (.ref (G.2.2 x0)), some (.int x1), some (.int x2), some (.int x3)] [] (gX6_noiseOf m f x0 x1 x2 x3)) := by
  intro f
  induction f with
  | zero => exact (fun _ _ _ _ => j_none)
  | succ f ih =>
    intro x0 x1 x2 x3
    rw [gX6_noiseOf]
    refine j_iload_n h dX6_noiseOf_2 rfl ?_
    refine j_aload_n h dX6_noiseOf_3 rfl ?_
    refine j_gPl (fun hg1 => ?_)
    refine gC6_69 h hg1 dX6_noiseOf_4 ?_
    refine j_icmp_ge (tgt := 38) h dX6_noiseOf_7 (by decide) (fun c2 => ?_) (fun c2 => ?_)
    · refine j_iconst (v := (-1 : Int32)) h dX6_noiseOf_38 kiconst_m1 ?_
      exact j_iret h rfl dX6_noiseOf_39
    · refine j_aload_n h dX6_noiseOf_10 rfl ?_
      refine gC6_37 h hg1 dX6_noiseOf_11 ?_
      refine j_iload_n h dX6_noiseOf_14 rfl ?_
      refine aC_Pl9 h hg1 dX6_noiseOf_15 (fun v3 hv3 => ?_)
      refine j_iload_n h dX6_noiseOf_16 rfl ?_
      refine j_icmp_ne (tgt := 32) h dX6_noiseOf_17 (by decide) (fun c4 => ?_) (fun c4 => ?_)
      · refine j_iinc (v := (x3 + (1 : Int32))) h dX6_noiseOf_32 rfl (by rw [kiconst_1]) rfl ?_
        refine j_goto (tgt := 2) h dX6_noiseOf_35 (by decide) ?_
        refine j_wk (ls' := [some (.ref (G.2.2 x0)), some (.int x1), some (.int x2), some (.int (x3 + (1 : Int32)))]) (And.intro rfl (And.intro rfl (And.intro rfl (And.intro rfl trivial)))) ?_
        exact ih x0 x1 x2 (x3 + (1 : Int32))
      · refine j_aload_n h dX6_noiseOf_20 rfl ?_
        refine gC6_40 h hg1 dX6_noiseOf_21 ?_
        refine j_iload_n h dX6_noiseOf_24 rfl ?_
        refine aC_Pl10 h hg1 dX6_noiseOf_25 (fun v5 hv5 => ?_)
        refine j_iload_n h dX6_noiseOf_26 rfl ?_
        refine j_icmp_ne (tgt := 32) h dX6_noiseOf_27 (by decide) (fun c6 => ?_) (fun c6 => ?_)
        · refine j_iinc (v := (x3 + (1 : Int32))) h dX6_noiseOf_32 rfl (by rw [kiconst_1]) rfl ?_
          refine j_goto (tgt := 2) h dX6_noiseOf_35 (by decide) ?_
          refine j_wk (ls' := [some (.ref (G.2.2 x0)), some (.int x1), some (.int x2), some (.int (x3 + (1 : Int32)))]) (And.intro rfl (And.intro rfl (And.intro rfl (And.intro rfl trivial)))) ?_
          exact ih x0 x1 x2 (x3 + (1 : Int32))
        · refine j_iload_n h dX6_noiseOf_30 rfl ?_
          exact j_iret h rfl dX6_noiseOf_31
set_option maxHeartbeats 4000000 in
set_option maxRecDepth 100000 in
theorem kX6_noiseOf (l : Launch) (G : Gt) (hD : ∀ m, va_D (inA G nC) (wC G m)) (m : Mem) (x0 : Nat) (x1 : Int32) (x2 : Int32) : ∀ a, fX6_noiseOf m x0 x1 x2 = some a → Ct l G wC nC yX6_noiseOf cX6_noiseOf 4 (some .int) 1 [.ref (G.2.2 x0), .int x1, .int x2] m ((cvP m) a) := by
  refine ct_of (own := RX6) (ls0 := [some (.ref (G.2.2 x0)), some (.int x1), some (.int x2), none]) (by decide) rfl rfl rfl (Nat.le_of_ble_eq_true rfl) hD (fun X h => ?_) l
  unfold fX6_noiseOf
  refine j_iconst (v := (0 : Int32)) h dX6_noiseOf_0 kiconst_0 ?_
  refine j_istore_n h dX6_noiseOf_1 rfl rfl ?_
  refine j_wk (ls' := [some (.ref (G.2.2 x0)), some (.int x1), some (.int x2), some (.int (0 : Int32))]) (And.intro rfl (And.intro rfl (And.intro rfl (And.intro rfl trivial)))) ?_
  exact (wX6_noiseOf h m 5000) x0 x1 x2 (0 : Int32)
theorem dX6_wakefulOf_0 : DD cX6_wakefulOf 0 (.aload_n 0) 1 1 := ⟨by decide +kernel, rfl⟩
theorem dX6_wakefulOf_1 : DD cX6_wakefulOf 1 (.getfield 22) 3 4 := ⟨by decide +kernel, rfl⟩
theorem dX6_wakefulOf_4 : DD cX6_wakefulOf 4 (.iload_n 1) 1 5 := ⟨by decide +kernel, rfl⟩
theorem dX6_wakefulOf_5 : DD cX6_wakefulOf 5 (.iaload) 1 6 := ⟨by decide +kernel, rfl⟩
theorem dX6_wakefulOf_6 : DD cX6_wakefulOf 6 (.iconst 0) 1 7 := ⟨by decide +kernel, rfl⟩
theorem dX6_wakefulOf_7 : DD cX6_wakefulOf 7 (.invokestatic 82) 3 10 := ⟨by decide +kernel, rfl⟩
theorem dX6_wakefulOf_10 : DD cX6_wakefulOf 10 (.ireturn) 1 11 := ⟨by decide +kernel, rfl⟩
def fX6_wakefulOf (m : Mem) (x0 : Nat) (x1 : Int32) : Option Int32 := (gPl x0 (rd (m.1 (x0 + 4)) 7 x1 fun v2 => (some (imax v2 (0 : Int32)))))
set_option maxHeartbeats 4000000 in
set_option maxRecDepth 100000 in
theorem kX6_wakefulOf (l : Launch) (G : Gt) (hD : ∀ m, va_D (inA G nC) (wC G m)) (m : Mem) (x0 : Nat) (x1 : Int32) : ∀ a, fX6_wakefulOf m x0 x1 = some a → Ct l G wC nC yX6_wakefulOf cX6_wakefulOf 2 (some .int) 2 [.ref (G.2.2 x0), .int x1] m ((cvP m) a) := by
  refine ct_of (own := RX6) (ls0 := [some (.ref (G.2.2 x0)), some (.int x1)]) (by decide) rfl rfl rfl (Nat.le_of_ble_eq_true rfl) hD (fun X h => ?_) l
  unfold fX6_wakefulOf
  refine j_aload_n h dX6_wakefulOf_0 rfl ?_
  refine j_gPl (fun hg1 => ?_)
  refine gC6_22 h hg1 dX6_wakefulOf_1 ?_
  refine j_iload_n h dX6_wakefulOf_4 rfl ?_
  refine aC_Pl4 h hg1 dX6_wakefulOf_5 (fun v2 hv2 => ?_)
  refine j_iconst (v := (0 : Int32)) h dX6_wakefulOf_6 kiconst_0 ?_
  refine j_mmax h ml6_82 (Nat.le_of_ble_eq_true rfl) rfl (by decide) dX6_wakefulOf_7 ?_
  exact j_iret h rfl dX6_wakefulOf_10
theorem dX7_giveFor_0 : DD cX7_giveFor 0 (.aload_n 0) 1 1 := ⟨by decide +kernel, rfl⟩
theorem dX7_giveFor_1 : DD cX7_giveFor 1 (.getfield 12) 3 4 := ⟨by decide +kernel, rfl⟩
theorem dX7_giveFor_4 : DD cX7_giveFor 4 (.astore_n 2) 1 5 := ⟨by decide +kernel, rfl⟩
theorem dX7_giveFor_5 : DD cX7_giveFor 5 (.aload_n 0) 1 6 := ⟨by decide +kernel, rfl⟩
theorem dX7_giveFor_6 : DD cX7_giveFor 6 (.aload_n 1) 1 7 := ⟨by decide +kernel, rfl⟩
theorem dX7_giveFor_7 : DD cX7_giveFor 7 (.putfield 12) 3 10 := ⟨by decide +kernel, rfl⟩
theorem dX7_giveFor_10 : DD cX7_giveFor 10 (.aload_n 2) 1 11 := ⟨by decide +kernel, rfl⟩
theorem dX7_giveFor_11 : DD cX7_giveFor 11 (.areturn) 1 12 := ⟨by decide +kernel, rfl⟩
def fX7_giveFor (m : Mem) (x1 : Nat) : Option (Nat × Mem) := (pt (sR m 4 1 x1) fun m1 => (some ((m.2.2 4 1), m1)))
set_option maxHeartbeats 4000000 in
set_option maxRecDepth 100000 in
theorem kX7_giveFor (l : Launch) (G : Gt) (hD : ∀ m, va_D (inA G nC) (wC G m)) (m : Mem) (x1 : Nat) : ∀ a, fX7_giveFor m x1 = some a → Ct l G wC nC yX7_giveFor cX7_giveFor 3 (some (.object "HingeTown$Plan")) 1 [.ref (G.2.2 4), .ref (G.2.2 x1)] m ((cvR G) a) := by
  refine ct_of (own := RX7) (ls0 := [some (.ref (G.2.2 4)), some (.ref (G.2.2 x1)), none]) (by decide) rfl rfl rfl (Nat.le_of_ble_eq_true rfl) hD (fun X h => ?_) l
  unfold fX7_giveFor
  refine j_aload_n h dX7_giveFor_0 rfl ?_
  refine gC7_12 h dX7_giveFor_1 ?_
  refine j_astore_n h dX7_giveFor_4 rfl rfl ?_
  refine j_aload_n h dX7_giveFor_5 rfl ?_
  refine j_aload_n h dX7_giveFor_6 rfl ?_
  refine pC7_12 h dX7_giveFor_7 (fun m1 hm1 => ?_)
  refine j_aload_n h dX7_giveFor_10 rfl ?_
  exact j_aret h rfl dX7_giveFor_11
theorem dX10_open_0 : DD cX10_open 0 (.aload_n 0) 1 1 := ⟨by decide +kernel, rfl⟩
theorem dX10_open_1 : DD cX10_open 1 (.iconst 0) 1 2 := ⟨by decide +kernel, rfl⟩
theorem dX10_open_2 : DD cX10_open 2 (.putfield 36) 3 5 := ⟨by decide +kernel, rfl⟩
theorem dX10_open_5 : DD cX10_open 5 (.aload_n 0) 1 6 := ⟨by decide +kernel, rfl⟩
theorem dX10_open_6 : DD cX10_open 6 (.invokevirtual 39) 3 9 := ⟨by decide +kernel, rfl⟩
theorem dX10_open_9 : DD cX10_open 9 (.return_) 1 10 := ⟨by decide +kernel, rfl⟩
def fX10_open (m : Mem) : Option Mem := (pt (sI m 1 3 (0 : Int32)) fun m1 => (cV (fX10_advance m1) fun m3 => (some m3)))
set_option maxHeartbeats 4000000 in
set_option maxRecDepth 100000 in
theorem kX10_open (l : Launch) (G : Gt) (hD : ∀ m, va_D (inA G nC) (wC G m)) (m : Mem) : ∀ a, fX10_open m = some a → Ct l G wC nC yX10_open cX10_open 1 none 5 [.ref (G.2.2 1)] m (cvV a) := by
  refine ct_of (own := RX10) (ls0 := [some (.ref (G.2.2 1))]) (by decide) rfl rfl rfl (Nat.le_of_ble_eq_true rfl) hD (fun X h => ?_) l
  unfold fX10_open
  refine j_aload_n h dX10_open_0 rfl ?_
  refine j_iconst (v := (0 : Int32)) h dX10_open_1 kiconst_0 ?_
  refine pC10_36 h dX10_open_2 (fun m1 hm1 => ?_)
  refine j_aload_n h dX10_open_5 rfl ?_
  refine j_callVV (q0 := 1) (ci := 10) h [] (kX10_advance _ G h.2.2.2.2.2.2.2.2.2.2 m1) okX10_advance inX10_advance ml10_39 rfl rfl rfl rfl (by decide) (by decide) (Nat.le_of_ble_eq_true rfl) rfl dX10_open_6 (fun m3 hm3 => ?_)
  exact j_vret h rfl dX10_open_9
theorem dX7_isNumberHere_0 : DD cX7_isNumberHere 0 (.aload_n 0) 1 1 := ⟨by decide +kernel, rfl⟩
theorem dX7_isNumberHere_1 : DD cX7_isNumberHere 1 (.getfield 29) 3 4 := ⟨by decide +kernel, rfl⟩
theorem dX7_isNumberHere_4 : DD cX7_isNumberHere 4 (.getfield 44) 3 7 := ⟨by decide +kernel, rfl⟩
theorem dX7_isNumberHere_7 : DD cX7_isNumberHere 7 (.iconst 3) 1 8 := ⟨by decide +kernel, rfl⟩
theorem dX7_isNumberHere_8 : DD cX7_isNumberHere 8 (.if_icmp .eq 9) 3 11 := ⟨by decide +kernel, rfl⟩
theorem dX7_isNumberHere_11 : DD cX7_isNumberHere 11 (.aload_n 0) 1 12 := ⟨by decide +kernel, rfl⟩
theorem dX7_isNumberHere_12 : DD cX7_isNumberHere 12 (.iconst 2) 1 13 := ⟨by decide +kernel, rfl⟩
theorem dX7_isNumberHere_13 : DD cX7_isNumberHere 13 (.invokevirtual 73) 3 16 := ⟨by decide +kernel, rfl⟩
theorem dX7_isNumberHere_16 : DD cX7_isNumberHere 16 (.ireturn) 1 17 := ⟨by decide +kernel, rfl⟩
theorem dX7_isNumberHere_17 : DD cX7_isNumberHere 17 (.aload_n 0) 1 18 := ⟨by decide +kernel, rfl⟩
theorem dX7_isNumberHere_18 : DD cX7_isNumberHere 18 (.getfield 29) 3 21 := ⟨by decide +kernel, rfl⟩
theorem dX7_isNumberHere_21 : DD cX7_isNumberHere 21 (.getfield 103) 3 24 := ⟨by decide +kernel, rfl⟩
theorem dX7_isNumberHere_24 : DD cX7_isNumberHere 24 (.iload_n 1) 1 25 := ⟨by decide +kernel, rfl⟩
theorem dX7_isNumberHere_25 : DD cX7_isNumberHere 25 (.if_icmp .lt 18) 3 28 := ⟨by decide +kernel, rfl⟩
theorem dX7_isNumberHere_28 : DD cX7_isNumberHere 28 (.aload_n 0) 1 29 := ⟨by decide +kernel, rfl⟩
theorem dX7_isNumberHere_29 : DD cX7_isNumberHere 29 (.getfield 29) 3 32 := ⟨by decide +kernel, rfl⟩
theorem dX7_isNumberHere_32 : DD cX7_isNumberHere 32 (.getfield 103) 3 35 := ⟨by decide +kernel, rfl⟩
theorem dX7_isNumberHere_35 : DD cX7_isNumberHere 35 (.iload_n 2) 1 36 := ⟨by decide +kernel, rfl⟩
theorem dX7_isNumberHere_36 : DD cX7_isNumberHere 36 (.if_icmp .gt 7) 3 39 := ⟨by decide +kernel, rfl⟩
theorem dX7_isNumberHere_39 : DD cX7_isNumberHere 39 (.iconst 1) 1 40 := ⟨by decide +kernel, rfl⟩
theorem dX7_isNumberHere_40 : DD cX7_isNumberHere 40 (.goto 4) 3 43 := ⟨by decide +kernel, rfl⟩
theorem dX7_isNumberHere_43 : DD cX7_isNumberHere 43 (.iconst 0) 1 44 := ⟨by decide +kernel, rfl⟩
theorem dX7_isNumberHere_44 : DD cX7_isNumberHere 44 (.istore_n 3) 1 45 := ⟨by decide +kernel, rfl⟩
theorem dX7_isNumberHere_45 : DD cX7_isNumberHere 45 (.iload_n 3) 1 46 := ⟨by decide +kernel, rfl⟩
theorem dX7_isNumberHere_46 : DD cX7_isNumberHere 46 (.ifCond .ne 11) 3 49 := ⟨by decide +kernel, rfl⟩
theorem dX7_isNumberHere_49 : DD cX7_isNumberHere 49 (.aload_n 0) 1 50 := ⟨by decide +kernel, rfl⟩
theorem dX7_isNumberHere_50 : DD cX7_isNumberHere 50 (.iconst 4) 1 51 := ⟨by decide +kernel, rfl⟩
theorem dX7_isNumberHere_51 : DD cX7_isNumberHere 51 (.invokevirtual 73) 3 54 := ⟨by decide +kernel, rfl⟩
theorem dX7_isNumberHere_54 : DD cX7_isNumberHere 54 (.ifCond .eq 7) 3 57 := ⟨by decide +kernel, rfl⟩
theorem dX7_isNumberHere_57 : DD cX7_isNumberHere 57 (.iconst 1) 1 58 := ⟨by decide +kernel, rfl⟩
theorem dX7_isNumberHere_58 : DD cX7_isNumberHere 58 (.goto 4) 3 61 := ⟨by decide +kernel, rfl⟩
theorem dX7_isNumberHere_61 : DD cX7_isNumberHere 61 (.iconst 0) 1 62 := ⟨by decide +kernel, rfl⟩
theorem dX7_isNumberHere_62 : DD cX7_isNumberHere 62 (.ireturn) 1 63 := ⟨by decide +kernel, rfl⟩
def fX7_isNumberHere (m : Mem) (x1 : Int32) (x2 : Int32) : Option (Int32 × Mem) := (if (m.1 1 4) = (3 : Int32) then (if (m.1 1 6) < x1 then (cI (fX7_refuse m (4 : Int32)) fun r3 m4 => (if r3 = 0 then (some ((0 : Int32), m4)) else (some ((1 : Int32), m4)))) else (if x2 < (m.1 1 6) then (cI (fX7_refuse m (4 : Int32)) fun r7 m8 => (if r7 = 0 then (some ((0 : Int32), m8)) else (some ((1 : Int32), m8)))) else (some ((1 : Int32), m)))) else (cI (fX7_refuse m (2 : Int32)) fun r10 m11 => (tz r10 (some (r10, m11)))))
set_option maxHeartbeats 4000000 in
set_option maxRecDepth 100000 in
theorem kX7_isNumberHere (l : Launch) (G : Gt) (hD : ∀ m, va_D (inA G nC) (wC G m)) (m : Mem) (x1 : Int32) (x2 : Int32) : ∀ a, fX7_isNumberHere m x1 x2 = some a → Ct l G wC nC yX7_isNumberHere cX7_isNumberHere 4 (some .boolean) 2 [.ref (G.2.2 4), .int x1, .int x2] m (cvI a) := by
  refine ct_of (own := RX7) (ls0 := [some (.ref (G.2.2 4)), some (.int x1), some (.int x2), none]) (by decide) rfl rfl rfl (Nat.le_of_ble_eq_true rfl) hD (fun X h => ?_) l
  unfold fX7_isNumberHere
  refine j_aload_n h dX7_isNumberHere_0 rfl ?_
  refine gC7_29 h dX7_isNumberHere_1 ?_
  refine gC7_44 h dX7_isNumberHere_4 ?_
  refine j_iconst (v := (3 : Int32)) h dX7_isNumberHere_7 kiconst_3 ?_
  refine j_icmp_eq (tgt := 17) h dX7_isNumberHere_8 (by decide) (fun c1 => ?_) (fun c1 => ?_)
  · refine j_aload_n h dX7_isNumberHere_17 rfl ?_
    refine gC7_29 h dX7_isNumberHere_18 ?_
    refine gC7_103 h dX7_isNumberHere_21 ?_
    refine j_iload_n h dX7_isNumberHere_24 rfl ?_
    refine j_icmp_lt (tgt := 43) h dX7_isNumberHere_25 (by decide) (fun c2 => ?_) (fun c2 => ?_)
    · refine j_iconst (v := (0 : Int32)) h dX7_isNumberHere_43 kiconst_0 ?_
      refine j_istore_n h dX7_isNumberHere_44 rfl rfl ?_
      refine j_iload_n h dX7_isNumberHere_45 rfl ?_
      refine j_if_neB (tgt := 57) h dX7_isNumberHere_46 (by decide) (fun cc => absurd cc (by decide)) (fun _ => ?_)
      refine j_aload_n h dX7_isNumberHere_49 rfl ?_
      refine j_iconst (v := (4 : Int32)) h dX7_isNumberHere_50 kiconst_4 ?_
      refine j_callVI (q0 := 4) (ci := 7) h [.int (4 : Int32)] (kX7_refuse _ G h.2.2.2.2.2.2.2.2.2.2 m (4 : Int32)) okX7_refuse inX7_refuse ml7_73 rfl rfl rfl rfl (by decide) (by decide) (Nat.le_of_ble_eq_true rfl) rfl dX7_isNumberHere_51 (fun r3 m4 hr3 => ?_)
      refine j_if_eq (tgt := 61) h dX7_isNumberHere_54 (by decide) (fun c5 => ?_) (fun c5 => ?_)
      · refine j_iconst (v := (0 : Int32)) h dX7_isNumberHere_61 kiconst_0 ?_
        exact j_zretB h rfl rfl dX7_isNumberHere_62
      · refine j_iconst (v := (1 : Int32)) h dX7_isNumberHere_57 kiconst_1 ?_
        refine j_goto (tgt := 62) h dX7_isNumberHere_58 (by decide) ?_
        exact j_zretB h rfl rfl dX7_isNumberHere_62
    · refine j_aload_n h dX7_isNumberHere_28 rfl ?_
      refine gC7_29 h dX7_isNumberHere_29 ?_
      refine gC7_103 h dX7_isNumberHere_32 ?_
      refine j_iload_n h dX7_isNumberHere_35 rfl ?_
      refine j_icmp_gt (tgt := 43) h dX7_isNumberHere_36 (by decide) (fun c6 => ?_) (fun c6 => ?_)
      · refine j_iconst (v := (0 : Int32)) h dX7_isNumberHere_43 kiconst_0 ?_
        refine j_istore_n h dX7_isNumberHere_44 rfl rfl ?_
        refine j_iload_n h dX7_isNumberHere_45 rfl ?_
        refine j_if_neB (tgt := 57) h dX7_isNumberHere_46 (by decide) (fun cc => absurd cc (by decide)) (fun _ => ?_)
        refine j_aload_n h dX7_isNumberHere_49 rfl ?_
        refine j_iconst (v := (4 : Int32)) h dX7_isNumberHere_50 kiconst_4 ?_
        refine j_callVI (q0 := 4) (ci := 7) h [.int (4 : Int32)] (kX7_refuse _ G h.2.2.2.2.2.2.2.2.2.2 m (4 : Int32)) okX7_refuse inX7_refuse ml7_73 rfl rfl rfl rfl (by decide) (by decide) (Nat.le_of_ble_eq_true rfl) rfl dX7_isNumberHere_51 (fun r7 m8 hr7 => ?_)
        refine j_if_eq (tgt := 61) h dX7_isNumberHere_54 (by decide) (fun c9 => ?_) (fun c9 => ?_)
        · refine j_iconst (v := (0 : Int32)) h dX7_isNumberHere_61 kiconst_0 ?_
          exact j_zretB h rfl rfl dX7_isNumberHere_62
        · refine j_iconst (v := (1 : Int32)) h dX7_isNumberHere_57 kiconst_1 ?_
          refine j_goto (tgt := 62) h dX7_isNumberHere_58 (by decide) ?_
          exact j_zretB h rfl rfl dX7_isNumberHere_62
      · refine j_iconst (v := (1 : Int32)) h dX7_isNumberHere_39 kiconst_1 ?_
        refine j_goto (tgt := 44) h dX7_isNumberHere_40 (by decide) ?_
        refine j_istore_n h dX7_isNumberHere_44 rfl rfl ?_
        refine j_iload_n h dX7_isNumberHere_45 rfl ?_
        refine j_if_neB (tgt := 57) h dX7_isNumberHere_46 (by decide) (fun _ => ?_) (fun cc => absurd (by decide) cc)
        refine j_iconst (v := (1 : Int32)) h dX7_isNumberHere_57 kiconst_1 ?_
        refine j_goto (tgt := 62) h dX7_isNumberHere_58 (by decide) ?_
        exact j_zretB h rfl rfl dX7_isNumberHere_62
  · refine j_aload_n h dX7_isNumberHere_11 rfl ?_
    refine j_iconst (v := (2 : Int32)) h dX7_isNumberHere_12 kiconst_2 ?_
    refine j_callVI (q0 := 4) (ci := 7) h [.int (2 : Int32)] (kX7_refuse _ G h.2.2.2.2.2.2.2.2.2.2 m (2 : Int32)) okX7_refuse inX7_refuse ml7_73 rfl rfl rfl rfl (by decide) (by decide) (Nat.le_of_ble_eq_true rfl) rfl dX7_isNumberHere_13 (fun r10 m11 hr10 => ?_)
    exact j_zret h rfl dX7_isNumberHere_16
theorem dX7_isNumberBehind_0 : DD cX7_isNumberBehind 0 (.aload_n 0) 1 1 := ⟨by decide +kernel, rfl⟩
theorem dX7_isNumberBehind_1 : DD cX7_isNumberBehind 1 (.iload_n 1) 1 2 := ⟨by decide +kernel, rfl⟩
theorem dX7_isNumberBehind_2 : DD cX7_isNumberBehind 2 (.invokevirtual 116) 3 5 := ⟨by decide +kernel, rfl⟩
theorem dX7_isNumberBehind_5 : DD cX7_isNumberBehind 5 (.ifCond .eq 16) 3 8 := ⟨by decide +kernel, rfl⟩
theorem dX7_isNumberBehind_8 : DD cX7_isNumberBehind 8 (.aload_n 0) 1 9 := ⟨by decide +kernel, rfl⟩
theorem dX7_isNumberBehind_9 : DD cX7_isNumberBehind 9 (.iload_n 2) 1 10 := ⟨by decide +kernel, rfl⟩
theorem dX7_isNumberBehind_10 : DD cX7_isNumberBehind 10 (.iload_n 3) 1 11 := ⟨by decide +kernel, rfl⟩
theorem dX7_isNumberBehind_11 : DD cX7_isNumberBehind 11 (.invokevirtual 159) 3 14 := ⟨by decide +kernel, rfl⟩
theorem dX7_isNumberBehind_14 : DD cX7_isNumberBehind 14 (.ifCond .eq 7) 3 17 := ⟨by decide +kernel, rfl⟩
theorem dX7_isNumberBehind_17 : DD cX7_isNumberBehind 17 (.iconst 1) 1 18 := ⟨by decide +kernel, rfl⟩
theorem dX7_isNumberBehind_18 : DD cX7_isNumberBehind 18 (.goto 4) 3 21 := ⟨by decide +kernel, rfl⟩
theorem dX7_isNumberBehind_21 : DD cX7_isNumberBehind 21 (.iconst 0) 1 22 := ⟨by decide +kernel, rfl⟩
theorem dX7_isNumberBehind_22 : DD cX7_isNumberBehind 22 (.ireturn) 1 23 := ⟨by decide +kernel, rfl⟩
def fX7_isNumberBehind (m : Mem) (x1 : Int32) (x2 : Int32) (x3 : Int32) : Option (Int32 × Mem) := (cI (fX7_pass m x1) fun r1 m2 => (if r1 = 0 then (some ((0 : Int32), m2)) else (cI (fX7_isNumberHere m2 x2 x3) fun r4 m5 => (if r4 = 0 then (some ((0 : Int32), m5)) else (some ((1 : Int32), m5))))))
set_option maxHeartbeats 4000000 in
set_option maxRecDepth 100000 in
theorem kX7_isNumberBehind (l : Launch) (G : Gt) (hD : ∀ m, va_D (inA G nC) (wC G m)) (m : Mem) (x1 : Int32) (x2 : Int32) (x3 : Int32) : ∀ a, fX7_isNumberBehind m x1 x2 x3 = some a → Ct l G wC nC yX7_isNumberBehind cX7_isNumberBehind 4 (some .boolean) 6 [.ref (G.2.2 4), .int x1, .int x2, .int x3] m (cvI a) := by
  refine ct_of (own := RX7) (ls0 := [some (.ref (G.2.2 4)), some (.int x1), some (.int x2), some (.int x3)]) (by decide) rfl rfl rfl (Nat.le_of_ble_eq_true rfl) hD (fun X h => ?_) l
  unfold fX7_isNumberBehind
  refine j_aload_n h dX7_isNumberBehind_0 rfl ?_
  refine j_iload_n h dX7_isNumberBehind_1 rfl ?_
  refine j_callVI (q0 := 4) (ci := 7) h [.int x1] (kX7_pass _ G h.2.2.2.2.2.2.2.2.2.2 m x1) okX7_pass inX7_pass ml7_116 rfl rfl rfl rfl (by decide) (by decide) (Nat.le_of_ble_eq_true rfl) rfl dX7_isNumberBehind_2 (fun r1 m2 hr1 => ?_)
  refine j_if_eq (tgt := 21) h dX7_isNumberBehind_5 (by decide) (fun c3 => ?_) (fun c3 => ?_)
  · refine j_iconst (v := (0 : Int32)) h dX7_isNumberBehind_21 kiconst_0 ?_
    exact j_zretB h rfl rfl dX7_isNumberBehind_22
  · refine j_aload_n h dX7_isNumberBehind_8 rfl ?_
    refine j_iload_n h dX7_isNumberBehind_9 rfl ?_
    refine j_iload_n h dX7_isNumberBehind_10 rfl ?_
    refine j_callVI (q0 := 4) (ci := 7) h [.int x2, .int x3] (kX7_isNumberHere _ G h.2.2.2.2.2.2.2.2.2.2 m2 x2 x3) okX7_isNumberHere inX7_isNumberHere ml7_159 rfl rfl rfl rfl (by decide) (by decide) (Nat.le_of_ble_eq_true rfl) rfl dX7_isNumberBehind_11 (fun r4 m5 hr4 => ?_)
    refine j_if_eq (tgt := 21) h dX7_isNumberBehind_14 (by decide) (fun c6 => ?_) (fun c6 => ?_)
    · refine j_iconst (v := (0 : Int32)) h dX7_isNumberBehind_21 kiconst_0 ?_
      exact j_zretB h rfl rfl dX7_isNumberBehind_22
    · refine j_iconst (v := (1 : Int32)) h dX7_isNumberBehind_17 kiconst_1 ?_
      refine j_goto (tgt := 22) h dX7_isNumberBehind_18 (by decide) ?_
      exact j_zretB h rfl rfl dX7_isNumberBehind_22
theorem dX7_readSide_0 : DD cX7_readSide 0 (.iconst 0) 1 1 := ⟨by decide +kernel, rfl⟩
theorem dX7_readSide_1 : DD cX7_readSide 1 (.istore_n 1) 1 2 := ⟨by decide +kernel, rfl⟩
theorem dX7_readSide_2 : DD cX7_readSide 2 (.aload_n 0) 1 3 := ⟨by decide +kernel, rfl⟩
theorem dX7_readSide_3 : DD cX7_readSide 3 (.getfield 29) 3 6 := ⟨by decide +kernel, rfl⟩
theorem dX7_readSide_6 : DD cX7_readSide 6 (.getfield 44) 3 9 := ⟨by decide +kernel, rfl⟩
theorem dX7_readSide_9 : DD cX7_readSide 9 (.sipush 137) 3 12 := ⟨by decide +kernel, rfl⟩
theorem dX7_readSide_12 : DD cX7_readSide 12 (.if_icmp .ne 8) 3 15 := ⟨by decide +kernel, rfl⟩
theorem dX7_readSide_15 : DD cX7_readSide 15 (.iconst 1) 1 16 := ⟨by decide +kernel, rfl⟩
theorem dX7_readSide_16 : DD cX7_readSide 16 (.istore_n 1) 1 17 := ⟨by decide +kernel, rfl⟩
theorem dX7_readSide_17 : DD cX7_readSide 17 (.goto 18) 3 20 := ⟨by decide +kernel, rfl⟩
theorem dX7_readSide_20 : DD cX7_readSide 20 (.aload_n 0) 1 21 := ⟨by decide +kernel, rfl⟩
theorem dX7_readSide_21 : DD cX7_readSide 21 (.getfield 29) 3 24 := ⟨by decide +kernel, rfl⟩
theorem dX7_readSide_24 : DD cX7_readSide 24 (.getfield 44) 3 27 := ⟨by decide +kernel, rfl⟩
theorem dX7_readSide_27 : DD cX7_readSide 27 (.sipush 138) 3 30 := ⟨by decide +kernel, rfl⟩
theorem dX7_readSide_30 : DD cX7_readSide 30 (.if_icmp .ne 5) 3 33 := ⟨by decide +kernel, rfl⟩
theorem dX7_readSide_33 : DD cX7_readSide 33 (.iconst 2) 1 34 := ⟨by decide +kernel, rfl⟩
theorem dX7_readSide_34 : DD cX7_readSide 34 (.istore_n 1) 1 35 := ⟨by decide +kernel, rfl⟩
theorem dX7_readSide_35 : DD cX7_readSide 35 (.iload_n 1) 1 36 := ⟨by decide +kernel, rfl⟩
theorem dX7_readSide_36 : DD cX7_readSide 36 (.ifCond .eq 10) 3 39 := ⟨by decide +kernel, rfl⟩
theorem dX7_readSide_39 : DD cX7_readSide 39 (.aload_n 0) 1 40 := ⟨by decide +kernel, rfl⟩
theorem dX7_readSide_40 : DD cX7_readSide 40 (.getfield 29) 3 43 := ⟨by decide +kernel, rfl⟩
theorem dX7_readSide_43 : DD cX7_readSide 43 (.invokevirtual 80) 3 46 := ⟨by decide +kernel, rfl⟩
theorem dX7_readSide_46 : DD cX7_readSide 46 (.iload_n 1) 1 47 := ⟨by decide +kernel, rfl⟩
theorem dX7_readSide_47 : DD cX7_readSide 47 (.ireturn) 1 48 := ⟨by decide +kernel, rfl⟩
def fX7_readSide (m : Mem) : Option (Int32 × Mem) := (if (m.1 1 4) = (137 : Int32) then (cV (fX10_advance m) fun m6 => (some ((1 : Int32), m6))) else (if (m.1 1 4) = (138 : Int32) then (cV (fX10_advance m) fun m4 => (some ((2 : Int32), m4))) else (some ((0 : Int32), m))))
set_option maxHeartbeats 4000000 in
set_option maxRecDepth 100000 in
theorem kX7_readSide (l : Launch) (G : Gt) (hD : ∀ m, va_D (inA G nC) (wC G m)) (m : Mem) : ∀ a, fX7_readSide m = some a → Ct l G wC nC yX7_readSide cX7_readSide 2 (some .int) 5 [.ref (G.2.2 4)] m (cvI a) := by
  refine ct_of (own := RX7) (ls0 := [some (.ref (G.2.2 4)), none]) (by decide) rfl rfl rfl (Nat.le_of_ble_eq_true rfl) hD (fun X h => ?_) l
  unfold fX7_readSide
  refine j_iconst (v := (0 : Int32)) h dX7_readSide_0 kiconst_0 ?_
  refine j_istore_n h dX7_readSide_1 rfl rfl ?_
  refine j_aload_n h dX7_readSide_2 rfl ?_
  refine gC7_29 h dX7_readSide_3 ?_
  refine gC7_44 h dX7_readSide_6 ?_
  refine j_sipush (v := (137 : Int32)) h dX7_readSide_9 ksipush_137 ?_
  refine j_icmp_ne (tgt := 20) h dX7_readSide_12 (by decide) (fun c1 => ?_) (fun c1 => ?_)
  · refine j_aload_n h dX7_readSide_20 rfl ?_
    refine gC7_29 h dX7_readSide_21 ?_
    refine gC7_44 h dX7_readSide_24 ?_
    refine j_sipush (v := (138 : Int32)) h dX7_readSide_27 ksipush_138 ?_
    refine j_icmp_ne (tgt := 35) h dX7_readSide_30 (by decide) (fun c2 => ?_) (fun c2 => ?_)
    · refine j_iload_n h dX7_readSide_35 rfl ?_
      refine j_if_eqB (tgt := 46) h dX7_readSide_36 (by decide) (fun _ => ?_) (fun cc => absurd (by decide) cc)
      refine j_iload_n h dX7_readSide_46 rfl ?_
      exact j_iret h rfl dX7_readSide_47
    · refine j_iconst (v := (2 : Int32)) h dX7_readSide_33 kiconst_2 ?_
      refine j_istore_n h dX7_readSide_34 rfl rfl ?_
      refine j_iload_n h dX7_readSide_35 rfl ?_
      refine j_if_eqB (tgt := 46) h dX7_readSide_36 (by decide) (fun cc => absurd cc (by decide)) (fun _ => ?_)
      refine j_aload_n h dX7_readSide_39 rfl ?_
      refine gC7_29 h dX7_readSide_40 ?_
      refine j_callVV (q0 := 1) (ci := 10) h [] (kX10_advance _ G h.2.2.2.2.2.2.2.2.2.2 m) okX10_advance inX10_advance ml7_80 rfl rfl rfl rfl (by decide) (by decide) (Nat.le_of_ble_eq_true rfl) rfl dX7_readSide_43 (fun m4 hm4 => ?_)
      refine j_iload_n h dX7_readSide_46 rfl ?_
      exact j_iret h rfl dX7_readSide_47
  · refine j_iconst (v := (1 : Int32)) h dX7_readSide_15 kiconst_1 ?_
    refine j_istore_n h dX7_readSide_16 rfl rfl ?_
    refine j_goto (tgt := 35) h dX7_readSide_17 (by decide) ?_
    refine j_iload_n h dX7_readSide_35 rfl ?_
    refine j_if_eqB (tgt := 46) h dX7_readSide_36 (by decide) (fun cc => absurd cc (by decide)) (fun _ => ?_)
    refine j_aload_n h dX7_readSide_39 rfl ?_
    refine gC7_29 h dX7_readSide_40 ?_
    refine j_callVV (q0 := 1) (ci := 10) h [] (kX10_advance _ G h.2.2.2.2.2.2.2.2.2.2 m) okX10_advance inX10_advance ml7_80 rfl rfl rfl rfl (by decide) (by decide) (Nat.le_of_ble_eq_true rfl) rfl dX7_readSide_43 (fun m6 hm6 => ?_)
    refine j_iload_n h dX7_readSide_46 rfl ?_
    exact j_iret h rfl dX7_readSide_47
theorem dX7_readPerson_0 : DD cX7_readPerson 0 (.aload_n 0) 1 1 := ⟨by decide +kernel, rfl⟩
theorem dX7_readPerson_1 : DD cX7_readPerson 1 (.getfield 12) 3 4 := ⟨by decide +kernel, rfl⟩
theorem dX7_readPerson_4 : DD cX7_readPerson 4 (.getfield 77) 3 7 := ⟨by decide +kernel, rfl⟩
theorem dX7_readPerson_7 : DD cX7_readPerson 7 (.istore_n 1) 1 8 := ⟨by decide +kernel, rfl⟩
theorem dX7_readPerson_8 : DD cX7_readPerson 8 (.iload_n 1) 1 9 := ⟨by decide +kernel, rfl⟩
theorem dX7_readPerson_9 : DD cX7_readPerson 9 (.bipush 7) 2 11 := ⟨by decide +kernel, rfl⟩
theorem dX7_readPerson_11 : DD cX7_readPerson 11 (.if_icmp .lt 9) 3 14 := ⟨by decide +kernel, rfl⟩
theorem dX7_readPerson_14 : DD cX7_readPerson 14 (.aload_n 0) 1 15 := ⟨by decide +kernel, rfl⟩
theorem dX7_readPerson_15 : DD cX7_readPerson 15 (.iconst 2) 1 16 := ⟨by decide +kernel, rfl⟩
theorem dX7_readPerson_16 : DD cX7_readPerson 16 (.invokevirtual 73) 3 19 := ⟨by decide +kernel, rfl⟩
theorem dX7_readPerson_19 : DD cX7_readPerson 19 (.ireturn) 1 20 := ⟨by decide +kernel, rfl⟩
theorem dX7_readPerson_20 : DD cX7_readPerson 20 (.aload_n 0) 1 21 := ⟨by decide +kernel, rfl⟩
theorem dX7_readPerson_21 : DD cX7_readPerson 21 (.getfield 29) 3 24 := ⟨by decide +kernel, rfl⟩
theorem dX7_readPerson_24 : DD cX7_readPerson 24 (.invokevirtual 80) 3 27 := ⟨by decide +kernel, rfl⟩
theorem dX7_readPerson_27 : DD cX7_readPerson 27 (.aload_n 0) 1 28 := ⟨by decide +kernel, rfl⟩
theorem dX7_readPerson_28 : DD cX7_readPerson 28 (.getfield 29) 3 31 := ⟨by decide +kernel, rfl⟩
theorem dX7_readPerson_31 : DD cX7_readPerson 31 (.getfield 44) 3 34 := ⟨by decide +kernel, rfl⟩
theorem dX7_readPerson_34 : DD cX7_readPerson 34 (.iconst 2) 1 35 := ⟨by decide +kernel, rfl⟩
theorem dX7_readPerson_35 : DD cX7_readPerson 35 (.if_icmp .eq 9) 3 38 := ⟨by decide +kernel, rfl⟩
theorem dX7_readPerson_38 : DD cX7_readPerson 38 (.aload_n 0) 1 39 := ⟨by decide +kernel, rfl⟩
theorem dX7_readPerson_39 : DD cX7_readPerson 39 (.iconst 2) 1 40 := ⟨by decide +kernel, rfl⟩
theorem dX7_readPerson_40 : DD cX7_readPerson 40 (.invokevirtual 73) 3 43 := ⟨by decide +kernel, rfl⟩
theorem dX7_readPerson_43 : DD cX7_readPerson 43 (.ireturn) 1 44 := ⟨by decide +kernel, rfl⟩
theorem dX7_readPerson_44 : DD cX7_readPerson 44 (.aload_n 0) 1 45 := ⟨by decide +kernel, rfl⟩
theorem dX7_readPerson_45 : DD cX7_readPerson 45 (.getfield 12) 3 48 := ⟨by decide +kernel, rfl⟩
theorem dX7_readPerson_48 : DD cX7_readPerson 48 (.aload_n 0) 1 49 := ⟨by decide +kernel, rfl⟩
theorem dX7_readPerson_49 : DD cX7_readPerson 49 (.getfield 29) 3 52 := ⟨by decide +kernel, rfl⟩
theorem dX7_readPerson_52 : DD cX7_readPerson 52 (.getfield 83) 3 55 := ⟨by decide +kernel, rfl⟩
theorem dX7_readPerson_55 : DD cX7_readPerson 55 (.invokevirtual 87) 3 58 := ⟨by decide +kernel, rfl⟩
theorem dX7_readPerson_58 : DD cX7_readPerson 58 (.iconst (-1)) 1 59 := ⟨by decide +kernel, rfl⟩
theorem dX7_readPerson_59 : DD cX7_readPerson 59 (.if_icmp .eq 9) 3 62 := ⟨by decide +kernel, rfl⟩
theorem dX7_readPerson_62 : DD cX7_readPerson 62 (.aload_n 0) 1 63 := ⟨by decide +kernel, rfl⟩
theorem dX7_readPerson_63 : DD cX7_readPerson 63 (.iconst 3) 1 64 := ⟨by decide +kernel, rfl⟩
theorem dX7_readPerson_64 : DD cX7_readPerson 64 (.invokevirtual 73) 3 67 := ⟨by decide +kernel, rfl⟩
theorem dX7_readPerson_67 : DD cX7_readPerson 67 (.ireturn) 1 68 := ⟨by decide +kernel, rfl⟩
theorem dX7_readPerson_68 : DD cX7_readPerson 68 (.aload_n 0) 1 69 := ⟨by decide +kernel, rfl⟩
theorem dX7_readPerson_69 : DD cX7_readPerson 69 (.getfield 12) 3 72 := ⟨by decide +kernel, rfl⟩
theorem dX7_readPerson_72 : DD cX7_readPerson 72 (.getfield 91) 3 75 := ⟨by decide +kernel, rfl⟩
theorem dX7_readPerson_75 : DD cX7_readPerson 75 (.iload_n 1) 1 76 := ⟨by decide +kernel, rfl⟩
theorem dX7_readPerson_76 : DD cX7_readPerson 76 (.aload_n 0) 1 77 := ⟨by decide +kernel, rfl⟩
theorem dX7_readPerson_77 : DD cX7_readPerson 77 (.getfield 29) 3 80 := ⟨by decide +kernel, rfl⟩
theorem dX7_readPerson_80 : DD cX7_readPerson 80 (.getfield 83) 3 83 := ⟨by decide +kernel, rfl⟩
theorem dX7_readPerson_83 : DD cX7_readPerson 83 (.lastore) 1 84 := ⟨by decide +kernel, rfl⟩
theorem dX7_readPerson_84 : DD cX7_readPerson 84 (.aload_n 0) 1 85 := ⟨by decide +kernel, rfl⟩
theorem dX7_readPerson_85 : DD cX7_readPerson 85 (.getfield 29) 3 88 := ⟨by decide +kernel, rfl⟩
theorem dX7_readPerson_88 : DD cX7_readPerson 88 (.invokevirtual 80) 3 91 := ⟨by decide +kernel, rfl⟩
theorem dX7_readPerson_91 : DD cX7_readPerson 91 (.aload_n 0) 1 92 := ⟨by decide +kernel, rfl⟩
theorem dX7_readPerson_92 : DD cX7_readPerson 92 (.sipush 136) 3 95 := ⟨by decide +kernel, rfl⟩
theorem dX7_readPerson_95 : DD cX7_readPerson 95 (.iconst 0) 1 96 := ⟨by decide +kernel, rfl⟩
theorem dX7_readPerson_96 : DD cX7_readPerson 96 (.bipush 9) 2 98 := ⟨by decide +kernel, rfl⟩
theorem dX7_readPerson_98 : DD cX7_readPerson 98 (.invokevirtual 95) 3 101 := ⟨by decide +kernel, rfl⟩
theorem dX7_readPerson_101 : DD cX7_readPerson 101 (.ifCond .ne 5) 3 104 := ⟨by decide +kernel, rfl⟩
theorem dX7_readPerson_104 : DD cX7_readPerson 104 (.iconst 0) 1 105 := ⟨by decide +kernel, rfl⟩
theorem dX7_readPerson_105 : DD cX7_readPerson 105 (.ireturn) 1 106 := ⟨by decide +kernel, rfl⟩
theorem dX7_readPerson_106 : DD cX7_readPerson 106 (.aload_n 0) 1 107 := ⟨by decide +kernel, rfl⟩
theorem dX7_readPerson_107 : DD cX7_readPerson 107 (.getfield 12) 3 110 := ⟨by decide +kernel, rfl⟩
theorem dX7_readPerson_110 : DD cX7_readPerson 110 (.getfield 99) 3 113 := ⟨by decide +kernel, rfl⟩
theorem dX7_readPerson_113 : DD cX7_readPerson 113 (.iload_n 1) 1 114 := ⟨by decide +kernel, rfl⟩
theorem dX7_readPerson_114 : DD cX7_readPerson 114 (.aload_n 0) 1 115 := ⟨by decide +kernel, rfl⟩
theorem dX7_readPerson_115 : DD cX7_readPerson 115 (.getfield 29) 3 118 := ⟨by decide +kernel, rfl⟩
theorem dX7_readPerson_118 : DD cX7_readPerson 118 (.getfield 103) 3 121 := ⟨by decide +kernel, rfl⟩
theorem dX7_readPerson_121 : DD cX7_readPerson 121 (.iastore) 1 122 := ⟨by decide +kernel, rfl⟩
theorem dX7_readPerson_122 : DD cX7_readPerson 122 (.aload_n 0) 1 123 := ⟨by decide +kernel, rfl⟩
theorem dX7_readPerson_123 : DD cX7_readPerson 123 (.getfield 12) 3 126 := ⟨by decide +kernel, rfl⟩
theorem dX7_readPerson_126 : DD cX7_readPerson 126 (.getfield 106) 3 129 := ⟨by decide +kernel, rfl⟩
theorem dX7_readPerson_129 : DD cX7_readPerson 129 (.iload_n 1) 1 130 := ⟨by decide +kernel, rfl⟩
theorem dX7_readPerson_130 : DD cX7_readPerson 130 (.iconst (-1)) 1 131 := ⟨by decide +kernel, rfl⟩
theorem dX7_readPerson_131 : DD cX7_readPerson 131 (.iastore) 1 132 := ⟨by decide +kernel, rfl⟩
theorem dX7_readPerson_132 : DD cX7_readPerson 132 (.aload_n 0) 1 133 := ⟨by decide +kernel, rfl⟩
theorem dX7_readPerson_133 : DD cX7_readPerson 133 (.getfield 29) 3 136 := ⟨by decide +kernel, rfl⟩
theorem dX7_readPerson_136 : DD cX7_readPerson 136 (.invokevirtual 80) 3 139 := ⟨by decide +kernel, rfl⟩
theorem dX7_readPerson_139 : DD cX7_readPerson 139 (.aload_n 0) 1 140 := ⟨by decide +kernel, rfl⟩
theorem dX7_readPerson_140 : DD cX7_readPerson 140 (.getfield 12) 3 143 := ⟨by decide +kernel, rfl⟩
theorem dX7_readPerson_143 : DD cX7_readPerson 143 (.getfield 109) 3 146 := ⟨by decide +kernel, rfl⟩
theorem dX7_readPerson_146 : DD cX7_readPerson 146 (.iload_n 1) 1 147 := ⟨by decide +kernel, rfl⟩
theorem dX7_readPerson_147 : DD cX7_readPerson 147 (.aload_n 0) 1 148 := ⟨by decide +kernel, rfl⟩
theorem dX7_readPerson_148 : DD cX7_readPerson 148 (.invokevirtual 112) 3 151 := ⟨by decide +kernel, rfl⟩
theorem dX7_readPerson_151 : DD cX7_readPerson 151 (.iastore) 1 152 := ⟨by decide +kernel, rfl⟩
theorem dX7_readPerson_152 : DD cX7_readPerson 152 (.aload_n 0) 1 153 := ⟨by decide +kernel, rfl⟩
theorem dX7_readPerson_153 : DD cX7_readPerson 153 (.getfield 12) 3 156 := ⟨by decide +kernel, rfl⟩
theorem dX7_readPerson_156 : DD cX7_readPerson 156 (.dup) 1 157 := ⟨by decide +kernel, rfl⟩
theorem dX7_readPerson_157 : DD cX7_readPerson 157 (.getfield 77) 3 160 := ⟨by decide +kernel, rfl⟩
theorem dX7_readPerson_160 : DD cX7_readPerson 160 (.iconst 1) 1 161 := ⟨by decide +kernel, rfl⟩
theorem dX7_readPerson_161 : DD cX7_readPerson 161 (.iadd) 1 162 := ⟨by decide +kernel, rfl⟩
theorem dX7_readPerson_162 : DD cX7_readPerson 162 (.putfield 77) 3 165 := ⟨by decide +kernel, rfl⟩
theorem dX7_readPerson_165 : DD cX7_readPerson 165 (.aload_n 0) 1 166 := ⟨by decide +kernel, rfl⟩
theorem dX7_readPerson_166 : DD cX7_readPerson 166 (.bipush 59) 2 168 := ⟨by decide +kernel, rfl⟩
theorem dX7_readPerson_168 : DD cX7_readPerson 168 (.invokevirtual 116) 3 171 := ⟨by decide +kernel, rfl⟩
theorem dX7_readPerson_171 : DD cX7_readPerson 171 (.ireturn) 1 172 := ⟨by decide +kernel, rfl⟩
def fX7_readPerson (m : Mem) : Option (Int32 × Mem) := (gPl (m.2.2 4 1) (nm (m.1 (m.2.2 4 1) 0) fun v2 => (if v2 < (7 : Int32) then (cV (fX10_advance m) fun m5 => (if (m5.1 1 4) = (2 : Int32) then (gPl (m5.2.2 4 1) (cP (fX6_find m5 (m5.2.2 4 1) (m5.2.1 1 7)) fun r8 => (if r8 = (-1 : Int32) then (wrL m5 ((m5.2.2 4 1) + 1) 7 v2 (m5.2.1 1 7) fun m11 => (cV (fX10_advance m11) fun m13 => (cI (fX7_isNumberBehind m13 (136 : Int32) (0 : Int32) (9 : Int32)) fun r14 m15 => (if r14 = 0 then (some ((0 : Int32), m15)) else (gPl (m15.2.2 4 1) (wr m15 ((m15.2.2 4 1) + 2) 7 v2 (m15.1 1 6) fun m18 => (gPl (m18.2.2 4 1) (wr m18 ((m18.2.2 4 1) + 4) 7 v2 (-1 : Int32) fun m20 => (cV (fX10_advance m20) fun m22 => (gPl (m22.2.2 4 1) (cI (fX7_readSide m22) fun r24 m25 => (wr m25 ((m22.2.2 4 1) + 3) 7 v2 r24 fun m26 => (gPl (m26.2.2 4 1) (pt (sI m26 (m26.2.2 4 1) 0 ((m26.1 (m26.2.2 4 1) 0) + (1 : Int32))) fun m28 => (cI (fX7_pass m28 (59 : Int32)) fun r29 m30 => (tz r29 (some (r29, m30)))))))))))))))))) else (cI (fX7_refuse m5 (3 : Int32)) fun r31 m32 => (tz r31 (some (r31, m32))))))) else (cI (fX7_refuse m5 (2 : Int32)) fun r33 m34 => (tz r33 (some (r33, m34)))))) else (cI (fX7_refuse m (2 : Int32)) fun r35 m36 => (tz r35 (some (r35, m36)))))))
set_option maxHeartbeats 4000000 in
set_option maxRecDepth 100000 in
theorem kX7_readPerson (l : Launch) (G : Gt) (hD : ∀ m, va_D (inA G nC) (wC G m)) (m : Mem) : ∀ a, fX7_readPerson m = some a → Ct l G wC nC yX7_readPerson cX7_readPerson 2 (some .boolean) 7 [.ref (G.2.2 4)] m (cvI a) := by
  refine ct_of (own := RX7) (ls0 := [some (.ref (G.2.2 4)), none]) (by decide) rfl rfl rfl (Nat.le_of_ble_eq_true rfl) hD (fun X h => ?_) l
  unfold fX7_readPerson
  refine j_aload_n h dX7_readPerson_0 rfl ?_
  refine gC7_12 h dX7_readPerson_1 ?_
  refine j_gPl (fun hg1 => ?_)
  refine gC7_77 h hg1 dX7_readPerson_4 ?_
  refine j_nm (fun v2 hv2 => ?_)
  refine j_istore_n h dX7_readPerson_7 rfl rfl ?_
  refine j_iload_n h dX7_readPerson_8 rfl ?_
  refine j_bipush (v := (7 : Int32)) h dX7_readPerson_9 kbipush_7 ?_
  refine j_icmp_lt (tgt := 20) h dX7_readPerson_11 (by decide) (fun c3 => ?_) (fun c3 => ?_)
  · refine j_aload_n h dX7_readPerson_20 rfl ?_
    refine gC7_29 h dX7_readPerson_21 ?_
    refine j_callVV (q0 := 1) (ci := 10) h [] (kX10_advance _ G h.2.2.2.2.2.2.2.2.2.2 m) okX10_advance inX10_advance ml7_80 rfl rfl rfl rfl (by decide) (by decide) (Nat.le_of_ble_eq_true rfl) rfl dX7_readPerson_24 (fun m5 hm5 => ?_)
    refine j_aload_n h dX7_readPerson_27 rfl ?_
    refine gC7_29 h dX7_readPerson_28 ?_
    refine gC7_44 h dX7_readPerson_31 ?_
    refine j_iconst (v := (2 : Int32)) h dX7_readPerson_34 kiconst_2 ?_
    refine j_icmp_eq (tgt := 44) h dX7_readPerson_35 (by decide) (fun c6 => ?_) (fun c6 => ?_)
    · refine j_aload_n h dX7_readPerson_44 rfl ?_
      refine gC7_12 h dX7_readPerson_45 ?_
      refine j_aload_n h dX7_readPerson_48 rfl ?_
      refine gC7_29 h dX7_readPerson_49 ?_
      refine gC7_83 h dX7_readPerson_52 ?_
      refine j_gPl (fun hg7 => ?_)
      refine j_callVP (q0 := (m5.2.2 4 1)) (ci := 6) h [.long (m5.2.1 1 7)] (kX6_find _ G h.2.2.2.2.2.2.2.2.2.2 m5 (m5.2.2 4 1) (m5.2.1 1 7)) okX6_find inX6_find ml7_87 rfl (at_Pl hg7) rfl rfl (by decide) (by decide) (Nat.le_of_ble_eq_true rfl) rfl dX7_readPerson_55 (fun r8 hr8 => ?_)
      refine j_iconst (v := (-1 : Int32)) h dX7_readPerson_58 kiconst_m1 ?_
      refine j_icmp_eq (tgt := 68) h dX7_readPerson_59 (by decide) (fun c10 => ?_) (fun c10 => ?_)
      · refine j_aload_n h dX7_readPerson_68 rfl ?_
        refine gC7_12 h dX7_readPerson_69 ?_
        refine gC7_91 h hg7 dX7_readPerson_72 ?_
        refine j_iload_n h dX7_readPerson_75 rfl ?_
        refine j_aload_n h dX7_readPerson_76 rfl ?_
        refine gC7_29 h dX7_readPerson_77 ?_
        refine gC7_83 h dX7_readPerson_80 ?_
        refine bC_Pl1 h hg7 dX7_readPerson_83 (fun m11 hm11 => ?_)
        refine j_aload_n h dX7_readPerson_84 rfl ?_
        refine gC7_29 h dX7_readPerson_85 ?_
        refine j_callVV (q0 := 1) (ci := 10) h [] (kX10_advance _ G h.2.2.2.2.2.2.2.2.2.2 m11) okX10_advance inX10_advance ml7_80 rfl rfl rfl rfl (by decide) (by decide) (Nat.le_of_ble_eq_true rfl) rfl dX7_readPerson_88 (fun m13 hm13 => ?_)
        refine j_aload_n h dX7_readPerson_91 rfl ?_
        refine j_sipush (v := (136 : Int32)) h dX7_readPerson_92 ksipush_136 ?_
        refine j_iconst (v := (0 : Int32)) h dX7_readPerson_95 kiconst_0 ?_
        refine j_bipush (v := (9 : Int32)) h dX7_readPerson_96 kbipush_9 ?_
        refine j_callVI (q0 := 4) (ci := 7) h [.int (136 : Int32), .int (0 : Int32), .int (9 : Int32)] (kX7_isNumberBehind _ G h.2.2.2.2.2.2.2.2.2.2 m13 (136 : Int32) (0 : Int32) (9 : Int32)) okX7_isNumberBehind inX7_isNumberBehind ml7_95 rfl rfl rfl rfl (by decide) (by decide) (Nat.le_of_ble_eq_true rfl) rfl dX7_readPerson_98 (fun r14 m15 hr14 => ?_)
        refine j_if_ne (tgt := 106) h dX7_readPerson_101 (by decide) (fun c16 => ?_) (fun c16 => ?_)
        · refine j_aload_n h dX7_readPerson_106 rfl ?_
          refine gC7_12 h dX7_readPerson_107 ?_
          refine j_gPl (fun hg17 => ?_)
          refine gC7_99 h hg17 dX7_readPerson_110 ?_
          refine j_iload_n h dX7_readPerson_113 rfl ?_
          refine j_aload_n h dX7_readPerson_114 rfl ?_
          refine gC7_29 h dX7_readPerson_115 ?_
          refine gC7_103 h dX7_readPerson_118 ?_
          refine bC_Pl2 h hg17 dX7_readPerson_121 (fun m18 hm18 => ?_)
          refine j_aload_n h dX7_readPerson_122 rfl ?_
          refine gC7_12 h dX7_readPerson_123 ?_
          refine j_gPl (fun hg19 => ?_)
          refine gC7_106 h hg19 dX7_readPerson_126 ?_
          refine j_iload_n h dX7_readPerson_129 rfl ?_
          refine j_iconst (v := (-1 : Int32)) h dX7_readPerson_130 kiconst_m1 ?_
          refine bC_Pl4 h hg19 dX7_readPerson_131 (fun m20 hm20 => ?_)
          refine j_aload_n h dX7_readPerson_132 rfl ?_
          refine gC7_29 h dX7_readPerson_133 ?_
          refine j_callVV (q0 := 1) (ci := 10) h [] (kX10_advance _ G h.2.2.2.2.2.2.2.2.2.2 m20) okX10_advance inX10_advance ml7_80 rfl rfl rfl rfl (by decide) (by decide) (Nat.le_of_ble_eq_true rfl) rfl dX7_readPerson_136 (fun m22 hm22 => ?_)
          refine j_aload_n h dX7_readPerson_139 rfl ?_
          refine gC7_12 h dX7_readPerson_140 ?_
          refine j_gPl (fun hg23 => ?_)
          refine gC7_109 h hg23 dX7_readPerson_143 ?_
          refine j_iload_n h dX7_readPerson_146 rfl ?_
          refine j_aload_n h dX7_readPerson_147 rfl ?_
          refine j_callVI (q0 := 4) (ci := 7) h [] (kX7_readSide _ G h.2.2.2.2.2.2.2.2.2.2 m22) okX7_readSide inX7_readSide ml7_112 rfl rfl rfl rfl (by decide) (by decide) (Nat.le_of_ble_eq_true rfl) rfl dX7_readPerson_148 (fun r24 m25 hr24 => ?_)
          refine bC_Pl3 h hg23 dX7_readPerson_151 (fun m26 hm26 => ?_)
          refine j_aload_n h dX7_readPerson_152 rfl ?_
          refine gC7_12 h dX7_readPerson_153 ?_
          refine j_dup h dX7_readPerson_156 rfl ?_
          refine j_gPl (fun hg27 => ?_)
          refine gC7_77 h hg27 dX7_readPerson_157 ?_
          refine j_iconst (v := (1 : Int32)) h dX7_readPerson_160 kiconst_1 ?_
          refine j_iadd h dX7_readPerson_161 ?_
          refine pC7_77 h hg27 dX7_readPerson_162 (fun m28 hm28 => ?_)
          refine j_aload_n h dX7_readPerson_165 rfl ?_
          refine j_bipush (v := (59 : Int32)) h dX7_readPerson_166 kbipush_59 ?_
          refine j_callVI (q0 := 4) (ci := 7) h [.int (59 : Int32)] (kX7_pass _ G h.2.2.2.2.2.2.2.2.2.2 m28 (59 : Int32)) okX7_pass inX7_pass ml7_116 rfl rfl rfl rfl (by decide) (by decide) (Nat.le_of_ble_eq_true rfl) rfl dX7_readPerson_168 (fun r29 m30 hr29 => ?_)
          exact j_zret h rfl dX7_readPerson_171
        · refine j_iconst (v := (0 : Int32)) h dX7_readPerson_104 kiconst_0 ?_
          exact j_zretB h rfl rfl dX7_readPerson_105
      · refine j_aload_n h dX7_readPerson_62 rfl ?_
        refine j_iconst (v := (3 : Int32)) h dX7_readPerson_63 kiconst_3 ?_
        refine j_callVI (q0 := 4) (ci := 7) h [.int (3 : Int32)] (kX7_refuse _ G h.2.2.2.2.2.2.2.2.2.2 m5 (3 : Int32)) okX7_refuse inX7_refuse ml7_73 rfl rfl rfl rfl (by decide) (by decide) (Nat.le_of_ble_eq_true rfl) rfl dX7_readPerson_64 (fun r31 m32 hr31 => ?_)
        exact j_zret h rfl dX7_readPerson_67
    · refine j_aload_n h dX7_readPerson_38 rfl ?_
      refine j_iconst (v := (2 : Int32)) h dX7_readPerson_39 kiconst_2 ?_
      refine j_callVI (q0 := 4) (ci := 7) h [.int (2 : Int32)] (kX7_refuse _ G h.2.2.2.2.2.2.2.2.2.2 m5 (2 : Int32)) okX7_refuse inX7_refuse ml7_73 rfl rfl rfl rfl (by decide) (by decide) (Nat.le_of_ble_eq_true rfl) rfl dX7_readPerson_40 (fun r33 m34 hr33 => ?_)
      exact j_zret h rfl dX7_readPerson_43
  · refine j_aload_n h dX7_readPerson_14 rfl ?_
    refine j_iconst (v := (2 : Int32)) h dX7_readPerson_15 kiconst_2 ?_
    refine j_callVI (q0 := 4) (ci := 7) h [.int (2 : Int32)] (kX7_refuse _ G h.2.2.2.2.2.2.2.2.2.2 m (2 : Int32)) okX7_refuse inX7_refuse ml7_73 rfl rfl rfl rfl (by decide) (by decide) (Nat.le_of_ble_eq_true rfl) rfl dX7_readPerson_16 (fun r35 m36 hr35 => ?_)
    exact j_zret h rfl dX7_readPerson_19
theorem dX7_personHere_0 : DD cX7_personHere 0 (.aload_n 0) 1 1 := ⟨by decide +kernel, rfl⟩
theorem dX7_personHere_1 : DD cX7_personHere 1 (.getfield 29) 3 4 := ⟨by decide +kernel, rfl⟩
theorem dX7_personHere_4 : DD cX7_personHere 4 (.getfield 44) 3 7 := ⟨by decide +kernel, rfl⟩
theorem dX7_personHere_7 : DD cX7_personHere 7 (.iconst 2) 1 8 := ⟨by decide +kernel, rfl⟩
theorem dX7_personHere_8 : DD cX7_personHere 8 (.if_icmp .eq 11) 3 11 := ⟨by decide +kernel, rfl⟩
theorem dX7_personHere_11 : DD cX7_personHere 11 (.aload_n 0) 1 12 := ⟨by decide +kernel, rfl⟩
theorem dX7_personHere_12 : DD cX7_personHere 12 (.iconst 2) 1 13 := ⟨by decide +kernel, rfl⟩
theorem dX7_personHere_13 : DD cX7_personHere 13 (.invokevirtual 73) 3 16 := ⟨by decide +kernel, rfl⟩
theorem dX7_personHere_16 : DD cX7_personHere 16 (.pop) 1 17 := ⟨by decide +kernel, rfl⟩
theorem dX7_personHere_17 : DD cX7_personHere 17 (.iconst (-1)) 1 18 := ⟨by decide +kernel, rfl⟩
theorem dX7_personHere_18 : DD cX7_personHere 18 (.ireturn) 1 19 := ⟨by decide +kernel, rfl⟩
theorem dX7_personHere_19 : DD cX7_personHere 19 (.aload_n 0) 1 20 := ⟨by decide +kernel, rfl⟩
theorem dX7_personHere_20 : DD cX7_personHere 20 (.getfield 12) 3 23 := ⟨by decide +kernel, rfl⟩
theorem dX7_personHere_23 : DD cX7_personHere 23 (.aload_n 0) 1 24 := ⟨by decide +kernel, rfl⟩
theorem dX7_personHere_24 : DD cX7_personHere 24 (.getfield 29) 3 27 := ⟨by decide +kernel, rfl⟩
theorem dX7_personHere_27 : DD cX7_personHere 27 (.getfield 83) 3 30 := ⟨by decide +kernel, rfl⟩
theorem dX7_personHere_30 : DD cX7_personHere 30 (.invokevirtual 87) 3 33 := ⟨by decide +kernel, rfl⟩
theorem dX7_personHere_33 : DD cX7_personHere 33 (.istore_n 1) 1 34 := ⟨by decide +kernel, rfl⟩
theorem dX7_personHere_34 : DD cX7_personHere 34 (.iload_n 1) 1 35 := ⟨by decide +kernel, rfl⟩
theorem dX7_personHere_35 : DD cX7_personHere 35 (.iconst (-1)) 1 36 := ⟨by decide +kernel, rfl⟩
theorem dX7_personHere_36 : DD cX7_personHere 36 (.if_icmp .ne 9) 3 39 := ⟨by decide +kernel, rfl⟩
theorem dX7_personHere_39 : DD cX7_personHere 39 (.aload_n 0) 1 40 := ⟨by decide +kernel, rfl⟩
theorem dX7_personHere_40 : DD cX7_personHere 40 (.iconst 5) 1 41 := ⟨by decide +kernel, rfl⟩
theorem dX7_personHere_41 : DD cX7_personHere 41 (.invokevirtual 73) 3 44 := ⟨by decide +kernel, rfl⟩
theorem dX7_personHere_44 : DD cX7_personHere 44 (.pop) 1 45 := ⟨by decide +kernel, rfl⟩
theorem dX7_personHere_45 : DD cX7_personHere 45 (.iload_n 1) 1 46 := ⟨by decide +kernel, rfl⟩
theorem dX7_personHere_46 : DD cX7_personHere 46 (.ireturn) 1 47 := ⟨by decide +kernel, rfl⟩
def fX7_personHere (m : Mem) : Option (Int32 × Mem) := (if (m.1 1 4) = (2 : Int32) then (gPl (m.2.2 4 1) (cP (fX6_find m (m.2.2 4 1) (m.2.1 1 7)) fun r3 => (if r3 = (-1 : Int32) then (cI (fX7_refuse m (5 : Int32)) fun r6 m7 => (some (r3, m7))) else (some (r3, m))))) else (cI (fX7_refuse m (2 : Int32)) fun r8 m9 => (some ((-1 : Int32), m9))))
set_option maxHeartbeats 4000000 in
set_option maxRecDepth 100000 in
theorem kX7_personHere (l : Launch) (G : Gt) (hD : ∀ m, va_D (inA G nC) (wC G m)) (m : Mem) : ∀ a, fX7_personHere m = some a → Ct l G wC nC yX7_personHere cX7_personHere 2 (some .int) 2 [.ref (G.2.2 4)] m (cvI a) := by
  refine ct_of (own := RX7) (ls0 := [some (.ref (G.2.2 4)), none]) (by decide) rfl rfl rfl (Nat.le_of_ble_eq_true rfl) hD (fun X h => ?_) l
  unfold fX7_personHere
  refine j_aload_n h dX7_personHere_0 rfl ?_
  refine gC7_29 h dX7_personHere_1 ?_
  refine gC7_44 h dX7_personHere_4 ?_
  refine j_iconst (v := (2 : Int32)) h dX7_personHere_7 kiconst_2 ?_
  refine j_icmp_eq (tgt := 19) h dX7_personHere_8 (by decide) (fun c1 => ?_) (fun c1 => ?_)
  · refine j_aload_n h dX7_personHere_19 rfl ?_
    refine gC7_12 h dX7_personHere_20 ?_
    refine j_aload_n h dX7_personHere_23 rfl ?_
    refine gC7_29 h dX7_personHere_24 ?_
    refine gC7_83 h dX7_personHere_27 ?_
    refine j_gPl (fun hg2 => ?_)
    refine j_callVP (q0 := (m.2.2 4 1)) (ci := 6) h [.long (m.2.1 1 7)] (kX6_find _ G h.2.2.2.2.2.2.2.2.2.2 m (m.2.2 4 1) (m.2.1 1 7)) okX6_find inX6_find ml7_87 rfl (at_Pl hg2) rfl rfl (by decide) (by decide) (Nat.le_of_ble_eq_true rfl) rfl dX7_personHere_30 (fun r3 hr3 => ?_)
    refine j_istore_n h dX7_personHere_33 rfl rfl ?_
    refine j_iload_n h dX7_personHere_34 rfl ?_
    refine j_iconst (v := (-1 : Int32)) h dX7_personHere_35 kiconst_m1 ?_
    refine j_icmp_ne (tgt := 45) h dX7_personHere_36 (by decide) (fun c5 => ?_) (fun c5 => ?_)
    · refine j_iload_n h dX7_personHere_45 rfl ?_
      exact j_iret h rfl dX7_personHere_46
    · refine j_aload_n h dX7_personHere_39 rfl ?_
      refine j_iconst (v := (5 : Int32)) h dX7_personHere_40 kiconst_5 ?_
      refine j_callVI (q0 := 4) (ci := 7) h [.int (5 : Int32)] (kX7_refuse _ G h.2.2.2.2.2.2.2.2.2.2 m (5 : Int32)) okX7_refuse inX7_refuse ml7_73 rfl rfl rfl rfl (by decide) (by decide) (Nat.le_of_ble_eq_true rfl) rfl dX7_personHere_41 (fun r6 m7 hr6 => ?_)
      refine j_pop h dX7_personHere_44 rfl ?_
      refine j_iload_n h dX7_personHere_45 rfl ?_
      exact j_iret h rfl dX7_personHere_46
  · refine j_aload_n h dX7_personHere_11 rfl ?_
    refine j_iconst (v := (2 : Int32)) h dX7_personHere_12 kiconst_2 ?_
    refine j_callVI (q0 := 4) (ci := 7) h [.int (2 : Int32)] (kX7_refuse _ G h.2.2.2.2.2.2.2.2.2.2 m (2 : Int32)) okX7_refuse inX7_refuse ml7_73 rfl rfl rfl rfl (by decide) (by decide) (Nat.le_of_ble_eq_true rfl) rfl dX7_personHere_13 (fun r8 m9 hr8 => ?_)
    refine j_pop h dX7_personHere_16 rfl ?_
    refine j_iconst (v := (-1 : Int32)) h dX7_personHere_17 kiconst_m1 ?_
    exact j_iret h rfl dX7_personHere_18
theorem dX7_readMeet_0 : DD cX7_readMeet 0 (.aload_n 0) 1 1 := ⟨by decide +kernel, rfl⟩
theorem dX7_readMeet_1 : DD cX7_readMeet 1 (.getfield 12) 3 4 := ⟨by decide +kernel, rfl⟩
theorem dX7_readMeet_4 : DD cX7_readMeet 4 (.getfield 121) 3 7 := ⟨by decide +kernel, rfl⟩
theorem dX7_readMeet_7 : DD cX7_readMeet 7 (.istore_n 1) 1 8 := ⟨by decide +kernel, rfl⟩
theorem dX7_readMeet_8 : DD cX7_readMeet 8 (.iload_n 1) 1 9 := ⟨by decide +kernel, rfl⟩
theorem dX7_readMeet_9 : DD cX7_readMeet 9 (.bipush 10) 2 11 := ⟨by decide +kernel, rfl⟩
theorem dX7_readMeet_11 : DD cX7_readMeet 11 (.if_icmp .lt 9) 3 14 := ⟨by decide +kernel, rfl⟩
theorem dX7_readMeet_14 : DD cX7_readMeet 14 (.aload_n 0) 1 15 := ⟨by decide +kernel, rfl⟩
theorem dX7_readMeet_15 : DD cX7_readMeet 15 (.iconst 2) 1 16 := ⟨by decide +kernel, rfl⟩
theorem dX7_readMeet_16 : DD cX7_readMeet 16 (.invokevirtual 73) 3 19 := ⟨by decide +kernel, rfl⟩
theorem dX7_readMeet_19 : DD cX7_readMeet 19 (.ireturn) 1 20 := ⟨by decide +kernel, rfl⟩
theorem dX7_readMeet_20 : DD cX7_readMeet 20 (.aload_n 0) 1 21 := ⟨by decide +kernel, rfl⟩
theorem dX7_readMeet_21 : DD cX7_readMeet 21 (.getfield 29) 3 24 := ⟨by decide +kernel, rfl⟩
theorem dX7_readMeet_24 : DD cX7_readMeet 24 (.invokevirtual 80) 3 27 := ⟨by decide +kernel, rfl⟩
theorem dX7_readMeet_27 : DD cX7_readMeet 27 (.aload_n 0) 1 28 := ⟨by decide +kernel, rfl⟩
theorem dX7_readMeet_28 : DD cX7_readMeet 28 (.invokevirtual 124) 3 31 := ⟨by decide +kernel, rfl⟩
theorem dX7_readMeet_31 : DD cX7_readMeet 31 (.istore_n 2) 1 32 := ⟨by decide +kernel, rfl⟩
theorem dX7_readMeet_32 : DD cX7_readMeet 32 (.iload_n 2) 1 33 := ⟨by decide +kernel, rfl⟩
theorem dX7_readMeet_33 : DD cX7_readMeet 33 (.iconst (-1)) 1 34 := ⟨by decide +kernel, rfl⟩
theorem dX7_readMeet_34 : DD cX7_readMeet 34 (.if_icmp .ne 5) 3 37 := ⟨by decide +kernel, rfl⟩
theorem dX7_readMeet_37 : DD cX7_readMeet 37 (.iconst 0) 1 38 := ⟨by decide +kernel, rfl⟩
theorem dX7_readMeet_38 : DD cX7_readMeet 38 (.ireturn) 1 39 := ⟨by decide +kernel, rfl⟩
theorem dX7_readMeet_39 : DD cX7_readMeet 39 (.aload_n 0) 1 40 := ⟨by decide +kernel, rfl⟩
theorem dX7_readMeet_40 : DD cX7_readMeet 40 (.getfield 29) 3 43 := ⟨by decide +kernel, rfl⟩
theorem dX7_readMeet_43 : DD cX7_readMeet 43 (.invokevirtual 80) 3 46 := ⟨by decide +kernel, rfl⟩
theorem dX7_readMeet_46 : DD cX7_readMeet 46 (.aload_n 0) 1 47 := ⟨by decide +kernel, rfl⟩
theorem dX7_readMeet_47 : DD cX7_readMeet 47 (.invokevirtual 124) 3 50 := ⟨by decide +kernel, rfl⟩
theorem dX7_readMeet_50 : DD cX7_readMeet 50 (.istore_n 3) 1 51 := ⟨by decide +kernel, rfl⟩
theorem dX7_readMeet_51 : DD cX7_readMeet 51 (.iload_n 3) 1 52 := ⟨by decide +kernel, rfl⟩
theorem dX7_readMeet_52 : DD cX7_readMeet 52 (.iconst (-1)) 1 53 := ⟨by decide +kernel, rfl⟩
theorem dX7_readMeet_53 : DD cX7_readMeet 53 (.if_icmp .ne 5) 3 56 := ⟨by decide +kernel, rfl⟩
theorem dX7_readMeet_56 : DD cX7_readMeet 56 (.iconst 0) 1 57 := ⟨by decide +kernel, rfl⟩
theorem dX7_readMeet_57 : DD cX7_readMeet 57 (.ireturn) 1 58 := ⟨by decide +kernel, rfl⟩
theorem dX7_readMeet_58 : DD cX7_readMeet 58 (.iload_n 2) 1 59 := ⟨by decide +kernel, rfl⟩
theorem dX7_readMeet_59 : DD cX7_readMeet 59 (.iload_n 3) 1 60 := ⟨by decide +kernel, rfl⟩
theorem dX7_readMeet_60 : DD cX7_readMeet 60 (.if_icmp .eq 15) 3 63 := ⟨by decide +kernel, rfl⟩
theorem dX7_readMeet_63 : DD cX7_readMeet 63 (.aload_n 0) 1 64 := ⟨by decide +kernel, rfl⟩
theorem dX7_readMeet_64 : DD cX7_readMeet 64 (.getfield 12) 3 67 := ⟨by decide +kernel, rfl⟩
theorem dX7_readMeet_67 : DD cX7_readMeet 67 (.iload_n 2) 1 68 := ⟨by decide +kernel, rfl⟩
theorem dX7_readMeet_68 : DD cX7_readMeet 68 (.iload_n 3) 1 69 := ⟨by decide +kernel, rfl⟩
theorem dX7_readMeet_69 : DD cX7_readMeet 69 (.invokevirtual 127) 3 72 := ⟨by decide +kernel, rfl⟩
theorem dX7_readMeet_72 : DD cX7_readMeet 72 (.ifCond .eq 9) 3 75 := ⟨by decide +kernel, rfl⟩
theorem dX7_readMeet_75 : DD cX7_readMeet 75 (.aload_n 0) 1 76 := ⟨by decide +kernel, rfl⟩
theorem dX7_readMeet_76 : DD cX7_readMeet 76 (.iconst 3) 1 77 := ⟨by decide +kernel, rfl⟩
theorem dX7_readMeet_77 : DD cX7_readMeet 77 (.invokevirtual 73) 3 80 := ⟨by decide +kernel, rfl⟩
theorem dX7_readMeet_80 : DD cX7_readMeet 80 (.ireturn) 1 81 := ⟨by decide +kernel, rfl⟩
theorem dX7_readMeet_81 : DD cX7_readMeet 81 (.aload_n 0) 1 82 := ⟨by decide +kernel, rfl⟩
theorem dX7_readMeet_82 : DD cX7_readMeet 82 (.getfield 12) 3 85 := ⟨by decide +kernel, rfl⟩
theorem dX7_readMeet_85 : DD cX7_readMeet 85 (.getfield 131) 3 88 := ⟨by decide +kernel, rfl⟩
theorem dX7_readMeet_88 : DD cX7_readMeet 88 (.iload_n 1) 1 89 := ⟨by decide +kernel, rfl⟩
theorem dX7_readMeet_89 : DD cX7_readMeet 89 (.iload_n 2) 1 90 := ⟨by decide +kernel, rfl⟩
theorem dX7_readMeet_90 : DD cX7_readMeet 90 (.iastore) 1 91 := ⟨by decide +kernel, rfl⟩
theorem dX7_readMeet_91 : DD cX7_readMeet 91 (.aload_n 0) 1 92 := ⟨by decide +kernel, rfl⟩
theorem dX7_readMeet_92 : DD cX7_readMeet 92 (.getfield 12) 3 95 := ⟨by decide +kernel, rfl⟩
theorem dX7_readMeet_95 : DD cX7_readMeet 95 (.getfield 134) 3 98 := ⟨by decide +kernel, rfl⟩
theorem dX7_readMeet_98 : DD cX7_readMeet 98 (.iload_n 1) 1 99 := ⟨by decide +kernel, rfl⟩
theorem dX7_readMeet_99 : DD cX7_readMeet 99 (.iload_n 3) 1 100 := ⟨by decide +kernel, rfl⟩
theorem dX7_readMeet_100 : DD cX7_readMeet 100 (.iastore) 1 101 := ⟨by decide +kernel, rfl⟩
theorem dX7_readMeet_101 : DD cX7_readMeet 101 (.aload_n 0) 1 102 := ⟨by decide +kernel, rfl⟩
theorem dX7_readMeet_102 : DD cX7_readMeet 102 (.getfield 29) 3 105 := ⟨by decide +kernel, rfl⟩
theorem dX7_readMeet_105 : DD cX7_readMeet 105 (.invokevirtual 80) 3 108 := ⟨by decide +kernel, rfl⟩
theorem dX7_readMeet_108 : DD cX7_readMeet 108 (.aload_n 0) 1 109 := ⟨by decide +kernel, rfl⟩
theorem dX7_readMeet_109 : DD cX7_readMeet 109 (.sipush 139) 3 112 := ⟨by decide +kernel, rfl⟩
theorem dX7_readMeet_112 : DD cX7_readMeet 112 (.iconst 1) 1 113 := ⟨by decide +kernel, rfl⟩
theorem dX7_readMeet_113 : DD cX7_readMeet 113 (.bipush 24) 2 115 := ⟨by decide +kernel, rfl⟩
theorem dX7_readMeet_115 : DD cX7_readMeet 115 (.invokevirtual 95) 3 118 := ⟨by decide +kernel, rfl⟩
theorem dX7_readMeet_118 : DD cX7_readMeet 118 (.ifCond .ne 5) 3 121 := ⟨by decide +kernel, rfl⟩
theorem dX7_readMeet_121 : DD cX7_readMeet 121 (.iconst 0) 1 122 := ⟨by decide +kernel, rfl⟩
theorem dX7_readMeet_122 : DD cX7_readMeet 122 (.ireturn) 1 123 := ⟨by decide +kernel, rfl⟩
theorem dX7_readMeet_123 : DD cX7_readMeet 123 (.aload_n 0) 1 124 := ⟨by decide +kernel, rfl⟩
theorem dX7_readMeet_124 : DD cX7_readMeet 124 (.getfield 12) 3 127 := ⟨by decide +kernel, rfl⟩
theorem dX7_readMeet_127 : DD cX7_readMeet 127 (.getfield 137) 3 130 := ⟨by decide +kernel, rfl⟩
theorem dX7_readMeet_130 : DD cX7_readMeet 130 (.iload_n 1) 1 131 := ⟨by decide +kernel, rfl⟩
theorem dX7_readMeet_131 : DD cX7_readMeet 131 (.aload_n 0) 1 132 := ⟨by decide +kernel, rfl⟩
theorem dX7_readMeet_132 : DD cX7_readMeet 132 (.getfield 29) 3 135 := ⟨by decide +kernel, rfl⟩
theorem dX7_readMeet_135 : DD cX7_readMeet 135 (.getfield 103) 3 138 := ⟨by decide +kernel, rfl⟩
theorem dX7_readMeet_138 : DD cX7_readMeet 138 (.iastore) 1 139 := ⟨by decide +kernel, rfl⟩
theorem dX7_readMeet_139 : DD cX7_readMeet 139 (.aload_n 0) 1 140 := ⟨by decide +kernel, rfl⟩
theorem dX7_readMeet_140 : DD cX7_readMeet 140 (.getfield 29) 3 143 := ⟨by decide +kernel, rfl⟩
theorem dX7_readMeet_143 : DD cX7_readMeet 143 (.invokevirtual 80) 3 146 := ⟨by decide +kernel, rfl⟩
theorem dX7_readMeet_146 : DD cX7_readMeet 146 (.aload_n 0) 1 147 := ⟨by decide +kernel, rfl⟩
theorem dX7_readMeet_147 : DD cX7_readMeet 147 (.sipush 140) 3 150 := ⟨by decide +kernel, rfl⟩
theorem dX7_readMeet_150 : DD cX7_readMeet 150 (.iconst 1) 1 151 := ⟨by decide +kernel, rfl⟩
theorem dX7_readMeet_151 : DD cX7_readMeet 151 (.bipush 99) 2 153 := ⟨by decide +kernel, rfl⟩
theorem dX7_readMeet_153 : DD cX7_readMeet 153 (.invokevirtual 95) 3 156 := ⟨by decide +kernel, rfl⟩
theorem dX7_readMeet_156 : DD cX7_readMeet 156 (.ifCond .ne 5) 3 159 := ⟨by decide +kernel, rfl⟩
theorem dX7_readMeet_159 : DD cX7_readMeet 159 (.iconst 0) 1 160 := ⟨by decide +kernel, rfl⟩
theorem dX7_readMeet_160 : DD cX7_readMeet 160 (.ireturn) 1 161 := ⟨by decide +kernel, rfl⟩
theorem dX7_readMeet_161 : DD cX7_readMeet 161 (.aload_n 0) 1 162 := ⟨by decide +kernel, rfl⟩
theorem dX7_readMeet_162 : DD cX7_readMeet 162 (.getfield 12) 3 165 := ⟨by decide +kernel, rfl⟩
theorem dX7_readMeet_165 : DD cX7_readMeet 165 (.getfield 140) 3 168 := ⟨by decide +kernel, rfl⟩
theorem dX7_readMeet_168 : DD cX7_readMeet 168 (.iload_n 1) 1 169 := ⟨by decide +kernel, rfl⟩
theorem dX7_readMeet_169 : DD cX7_readMeet 169 (.aload_n 0) 1 170 := ⟨by decide +kernel, rfl⟩
theorem dX7_readMeet_170 : DD cX7_readMeet 170 (.getfield 29) 3 173 := ⟨by decide +kernel, rfl⟩
theorem dX7_readMeet_173 : DD cX7_readMeet 173 (.getfield 103) 3 176 := ⟨by decide +kernel, rfl⟩
theorem dX7_readMeet_176 : DD cX7_readMeet 176 (.iastore) 1 177 := ⟨by decide +kernel, rfl⟩
theorem dX7_readMeet_177 : DD cX7_readMeet 177 (.aload_n 0) 1 178 := ⟨by decide +kernel, rfl⟩
theorem dX7_readMeet_178 : DD cX7_readMeet 178 (.getfield 12) 3 181 := ⟨by decide +kernel, rfl⟩
theorem dX7_readMeet_181 : DD cX7_readMeet 181 (.dup) 1 182 := ⟨by decide +kernel, rfl⟩
theorem dX7_readMeet_182 : DD cX7_readMeet 182 (.getfield 121) 3 185 := ⟨by decide +kernel, rfl⟩
theorem dX7_readMeet_185 : DD cX7_readMeet 185 (.iconst 1) 1 186 := ⟨by decide +kernel, rfl⟩
theorem dX7_readMeet_186 : DD cX7_readMeet 186 (.iadd) 1 187 := ⟨by decide +kernel, rfl⟩
theorem dX7_readMeet_187 : DD cX7_readMeet 187 (.putfield 121) 3 190 := ⟨by decide +kernel, rfl⟩
theorem dX7_readMeet_190 : DD cX7_readMeet 190 (.aload_n 0) 1 191 := ⟨by decide +kernel, rfl⟩
theorem dX7_readMeet_191 : DD cX7_readMeet 191 (.getfield 29) 3 194 := ⟨by decide +kernel, rfl⟩
theorem dX7_readMeet_194 : DD cX7_readMeet 194 (.invokevirtual 80) 3 197 := ⟨by decide +kernel, rfl⟩
theorem dX7_readMeet_197 : DD cX7_readMeet 197 (.aload_n 0) 1 198 := ⟨by decide +kernel, rfl⟩
theorem dX7_readMeet_198 : DD cX7_readMeet 198 (.bipush 59) 2 200 := ⟨by decide +kernel, rfl⟩
theorem dX7_readMeet_200 : DD cX7_readMeet 200 (.invokevirtual 116) 3 203 := ⟨by decide +kernel, rfl⟩
theorem dX7_readMeet_203 : DD cX7_readMeet 203 (.ireturn) 1 204 := ⟨by decide +kernel, rfl⟩
def fX7_readMeet (m : Mem) : Option (Int32 × Mem) := (gPl (m.2.2 4 1) (nm (m.1 (m.2.2 4 1) 5) fun v2 => (if v2 < (10 : Int32) then (cV (fX10_advance m) fun m5 => (cI (fX7_personHere m5) fun r6 m7 => (if r6 = (-1 : Int32) then (some ((0 : Int32), m7)) else (cV (fX10_advance m7) fun m10 => (cI (fX7_personHere m10) fun r11 m12 => (if r11 = (-1 : Int32) then (some ((0 : Int32), m12)) else (if r6 = r11 then (cI (fX7_refuse m12 (3 : Int32)) fun r15 m16 => (tz r15 (some (r15, m16)))) else (gPl (m12.2.2 4 1) (cP (fX6_hasMeetOf m12 (m12.2.2 4 1) r6 r11) fun r18 => (if r18 = 0 then (wr m12 ((m12.2.2 4 1) + 5) 10 v2 r6 fun m21 => (gPl (m21.2.2 4 1) (wr m21 ((m21.2.2 4 1) + 6) 10 v2 r11 fun m23 => (cV (fX10_advance m23) fun m25 => (cI (fX7_isNumberBehind m25 (139 : Int32) (1 : Int32) (24 : Int32)) fun r26 m27 => (if r26 = 0 then (some ((0 : Int32), m27)) else (gPl (m27.2.2 4 1) (wr m27 ((m27.2.2 4 1) + 7) 10 v2 (m27.1 1 6) fun m30 => (cV (fX10_advance m30) fun m32 => (cI (fX7_isNumberBehind m32 (140 : Int32) (1 : Int32) (99 : Int32)) fun r33 m34 => (if r33 = 0 then (some ((0 : Int32), m34)) else (gPl (m34.2.2 4 1) (wr m34 ((m34.2.2 4 1) + 8) 10 v2 (m34.1 1 6) fun m37 => (gPl (m37.2.2 4 1) (pt (sI m37 (m37.2.2 4 1) 5 ((m37.1 (m37.2.2 4 1) 5) + (1 : Int32))) fun m39 => (cV (fX10_advance m39) fun m41 => (cI (fX7_pass m41 (59 : Int32)) fun r42 m43 => (tz r42 (some (r42, m43)))))))))))))))))))) else (cI (fX7_refuse m12 (3 : Int32)) fun r44 m45 => (tz r44 (some (r44, m45)))))))))))))) else (cI (fX7_refuse m (2 : Int32)) fun r46 m47 => (tz r46 (some (r46, m47)))))))
set_option maxHeartbeats 4000000 in
set_option maxRecDepth 100000 in
theorem kX7_readMeet (l : Launch) (G : Gt) (hD : ∀ m, va_D (inA G nC) (wC G m)) (m : Mem) : ∀ a, fX7_readMeet m = some a → Ct l G wC nC yX7_readMeet cX7_readMeet 4 (some .boolean) 7 [.ref (G.2.2 4)] m (cvI a) := by
  refine ct_of (own := RX7) (ls0 := [some (.ref (G.2.2 4)), none, none, none]) (by decide) rfl rfl rfl (Nat.le_of_ble_eq_true rfl) hD (fun X h => ?_) l
  unfold fX7_readMeet
  refine j_aload_n h dX7_readMeet_0 rfl ?_
  refine gC7_12 h dX7_readMeet_1 ?_
  refine j_gPl (fun hg1 => ?_)
  refine gC7_121 h hg1 dX7_readMeet_4 ?_
  refine j_nm (fun v2 hv2 => ?_)
  refine j_istore_n h dX7_readMeet_7 rfl rfl ?_
  refine j_iload_n h dX7_readMeet_8 rfl ?_
  refine j_bipush (v := (10 : Int32)) h dX7_readMeet_9 kbipush_10 ?_
  refine j_icmp_lt (tgt := 20) h dX7_readMeet_11 (by decide) (fun c3 => ?_) (fun c3 => ?_)
  · refine j_aload_n h dX7_readMeet_20 rfl ?_
    refine gC7_29 h dX7_readMeet_21 ?_
    refine j_callVV (q0 := 1) (ci := 10) h [] (kX10_advance _ G h.2.2.2.2.2.2.2.2.2.2 m) okX10_advance inX10_advance ml7_80 rfl rfl rfl rfl (by decide) (by decide) (Nat.le_of_ble_eq_true rfl) rfl dX7_readMeet_24 (fun m5 hm5 => ?_)
    refine j_aload_n h dX7_readMeet_27 rfl ?_
    refine j_callVI (q0 := 4) (ci := 7) h [] (kX7_personHere _ G h.2.2.2.2.2.2.2.2.2.2 m5) okX7_personHere inX7_personHere ml7_124 rfl rfl rfl rfl (by decide) (by decide) (Nat.le_of_ble_eq_true rfl) rfl dX7_readMeet_28 (fun r6 m7 hr6 => ?_)
    refine j_istore_n h dX7_readMeet_31 rfl rfl ?_
    refine j_iload_n h dX7_readMeet_32 rfl ?_
    refine j_iconst (v := (-1 : Int32)) h dX7_readMeet_33 kiconst_m1 ?_
    refine j_icmp_ne (tgt := 39) h dX7_readMeet_34 (by decide) (fun c8 => ?_) (fun c8 => ?_)
    · refine j_aload_n h dX7_readMeet_39 rfl ?_
      refine gC7_29 h dX7_readMeet_40 ?_
      refine j_callVV (q0 := 1) (ci := 10) h [] (kX10_advance _ G h.2.2.2.2.2.2.2.2.2.2 m7) okX10_advance inX10_advance ml7_80 rfl rfl rfl rfl (by decide) (by decide) (Nat.le_of_ble_eq_true rfl) rfl dX7_readMeet_43 (fun m10 hm10 => ?_)
      refine j_aload_n h dX7_readMeet_46 rfl ?_
      refine j_callVI (q0 := 4) (ci := 7) h [] (kX7_personHere _ G h.2.2.2.2.2.2.2.2.2.2 m10) okX7_personHere inX7_personHere ml7_124 rfl rfl rfl rfl (by decide) (by decide) (Nat.le_of_ble_eq_true rfl) rfl dX7_readMeet_47 (fun r11 m12 hr11 => ?_)
      refine j_istore_n h dX7_readMeet_50 rfl rfl ?_
      refine j_iload_n h dX7_readMeet_51 rfl ?_
      refine j_iconst (v := (-1 : Int32)) h dX7_readMeet_52 kiconst_m1 ?_
      refine j_icmp_ne (tgt := 58) h dX7_readMeet_53 (by decide) (fun c13 => ?_) (fun c13 => ?_)
      · refine j_iload_n h dX7_readMeet_58 rfl ?_
        refine j_iload_n h dX7_readMeet_59 rfl ?_
        refine j_icmp_eq (tgt := 75) h dX7_readMeet_60 (by decide) (fun c14 => ?_) (fun c14 => ?_)
        · refine j_aload_n h dX7_readMeet_75 rfl ?_
          refine j_iconst (v := (3 : Int32)) h dX7_readMeet_76 kiconst_3 ?_
          refine j_callVI (q0 := 4) (ci := 7) h [.int (3 : Int32)] (kX7_refuse _ G h.2.2.2.2.2.2.2.2.2.2 m12 (3 : Int32)) okX7_refuse inX7_refuse ml7_73 rfl rfl rfl rfl (by decide) (by decide) (Nat.le_of_ble_eq_true rfl) rfl dX7_readMeet_77 (fun r15 m16 hr15 => ?_)
          exact j_zret h rfl dX7_readMeet_80
        · refine j_aload_n h dX7_readMeet_63 rfl ?_
          refine gC7_12 h dX7_readMeet_64 ?_
          refine j_iload_n h dX7_readMeet_67 rfl ?_
          refine j_iload_n h dX7_readMeet_68 rfl ?_
          refine j_gPl (fun hg17 => ?_)
          refine j_callVP (q0 := (m12.2.2 4 1)) (ci := 6) h [.int r6, .int r11] (kX6_hasMeetOf _ G h.2.2.2.2.2.2.2.2.2.2 m12 (m12.2.2 4 1) r6 r11) okX6_hasMeetOf inX6_hasMeetOf ml7_127 rfl (at_Pl hg17) rfl rfl (by decide) (by decide) (Nat.le_of_ble_eq_true rfl) rfl dX7_readMeet_69 (fun r18 hr18 => ?_)
          refine j_if_eq (tgt := 81) h dX7_readMeet_72 (by decide) (fun c20 => ?_) (fun c20 => ?_)
          · refine j_aload_n h dX7_readMeet_81 rfl ?_
            refine gC7_12 h dX7_readMeet_82 ?_
            refine gC7_131 h hg17 dX7_readMeet_85 ?_
            refine j_iload_n h dX7_readMeet_88 rfl ?_
            refine j_iload_n h dX7_readMeet_89 rfl ?_
            refine bC_Pl5 h hg17 dX7_readMeet_90 (fun m21 hm21 => ?_)
            refine j_aload_n h dX7_readMeet_91 rfl ?_
            refine gC7_12 h dX7_readMeet_92 ?_
            refine j_gPl (fun hg22 => ?_)
            refine gC7_134 h hg22 dX7_readMeet_95 ?_
            refine j_iload_n h dX7_readMeet_98 rfl ?_
            refine j_iload_n h dX7_readMeet_99 rfl ?_
            refine bC_Pl6 h hg22 dX7_readMeet_100 (fun m23 hm23 => ?_)
            refine j_aload_n h dX7_readMeet_101 rfl ?_
            refine gC7_29 h dX7_readMeet_102 ?_
            refine j_callVV (q0 := 1) (ci := 10) h [] (kX10_advance _ G h.2.2.2.2.2.2.2.2.2.2 m23) okX10_advance inX10_advance ml7_80 rfl rfl rfl rfl (by decide) (by decide) (Nat.le_of_ble_eq_true rfl) rfl dX7_readMeet_105 (fun m25 hm25 => ?_)
            refine j_aload_n h dX7_readMeet_108 rfl ?_
            refine j_sipush (v := (139 : Int32)) h dX7_readMeet_109 ksipush_139 ?_
            refine j_iconst (v := (1 : Int32)) h dX7_readMeet_112 kiconst_1 ?_
            refine j_bipush (v := (24 : Int32)) h dX7_readMeet_113 kbipush_24 ?_
            refine j_callVI (q0 := 4) (ci := 7) h [.int (139 : Int32), .int (1 : Int32), .int (24 : Int32)] (kX7_isNumberBehind _ G h.2.2.2.2.2.2.2.2.2.2 m25 (139 : Int32) (1 : Int32) (24 : Int32)) okX7_isNumberBehind inX7_isNumberBehind ml7_95 rfl rfl rfl rfl (by decide) (by decide) (Nat.le_of_ble_eq_true rfl) rfl dX7_readMeet_115 (fun r26 m27 hr26 => ?_)
            refine j_if_ne (tgt := 123) h dX7_readMeet_118 (by decide) (fun c28 => ?_) (fun c28 => ?_)
            · refine j_aload_n h dX7_readMeet_123 rfl ?_
              refine gC7_12 h dX7_readMeet_124 ?_
              refine j_gPl (fun hg29 => ?_)
              refine gC7_137 h hg29 dX7_readMeet_127 ?_
              refine j_iload_n h dX7_readMeet_130 rfl ?_
              refine j_aload_n h dX7_readMeet_131 rfl ?_
              refine gC7_29 h dX7_readMeet_132 ?_
              refine gC7_103 h dX7_readMeet_135 ?_
              refine bC_Pl7 h hg29 dX7_readMeet_138 (fun m30 hm30 => ?_)
              refine j_aload_n h dX7_readMeet_139 rfl ?_
              refine gC7_29 h dX7_readMeet_140 ?_
              refine j_callVV (q0 := 1) (ci := 10) h [] (kX10_advance _ G h.2.2.2.2.2.2.2.2.2.2 m30) okX10_advance inX10_advance ml7_80 rfl rfl rfl rfl (by decide) (by decide) (Nat.le_of_ble_eq_true rfl) rfl dX7_readMeet_143 (fun m32 hm32 => ?_)
              refine j_aload_n h dX7_readMeet_146 rfl ?_
              refine j_sipush (v := (140 : Int32)) h dX7_readMeet_147 ksipush_140 ?_
              refine j_iconst (v := (1 : Int32)) h dX7_readMeet_150 kiconst_1 ?_
              refine j_bipush (v := (99 : Int32)) h dX7_readMeet_151 kbipush_99 ?_
              refine j_callVI (q0 := 4) (ci := 7) h [.int (140 : Int32), .int (1 : Int32), .int (99 : Int32)] (kX7_isNumberBehind _ G h.2.2.2.2.2.2.2.2.2.2 m32 (140 : Int32) (1 : Int32) (99 : Int32)) okX7_isNumberBehind inX7_isNumberBehind ml7_95 rfl rfl rfl rfl (by decide) (by decide) (Nat.le_of_ble_eq_true rfl) rfl dX7_readMeet_153 (fun r33 m34 hr33 => ?_)
              refine j_if_ne (tgt := 161) h dX7_readMeet_156 (by decide) (fun c35 => ?_) (fun c35 => ?_)
              · refine j_aload_n h dX7_readMeet_161 rfl ?_
                refine gC7_12 h dX7_readMeet_162 ?_
                refine j_gPl (fun hg36 => ?_)
                refine gC7_140 h hg36 dX7_readMeet_165 ?_
                refine j_iload_n h dX7_readMeet_168 rfl ?_
                refine j_aload_n h dX7_readMeet_169 rfl ?_
                refine gC7_29 h dX7_readMeet_170 ?_
                refine gC7_103 h dX7_readMeet_173 ?_
                refine bC_Pl8 h hg36 dX7_readMeet_176 (fun m37 hm37 => ?_)
                refine j_aload_n h dX7_readMeet_177 rfl ?_
                refine gC7_12 h dX7_readMeet_178 ?_
                refine j_dup h dX7_readMeet_181 rfl ?_
                refine j_gPl (fun hg38 => ?_)
                refine gC7_121 h hg38 dX7_readMeet_182 ?_
                refine j_iconst (v := (1 : Int32)) h dX7_readMeet_185 kiconst_1 ?_
                refine j_iadd h dX7_readMeet_186 ?_
                refine pC7_121 h hg38 dX7_readMeet_187 (fun m39 hm39 => ?_)
                refine j_aload_n h dX7_readMeet_190 rfl ?_
                refine gC7_29 h dX7_readMeet_191 ?_
                refine j_callVV (q0 := 1) (ci := 10) h [] (kX10_advance _ G h.2.2.2.2.2.2.2.2.2.2 m39) okX10_advance inX10_advance ml7_80 rfl rfl rfl rfl (by decide) (by decide) (Nat.le_of_ble_eq_true rfl) rfl dX7_readMeet_194 (fun m41 hm41 => ?_)
                refine j_aload_n h dX7_readMeet_197 rfl ?_
                refine j_bipush (v := (59 : Int32)) h dX7_readMeet_198 kbipush_59 ?_
                refine j_callVI (q0 := 4) (ci := 7) h [.int (59 : Int32)] (kX7_pass _ G h.2.2.2.2.2.2.2.2.2.2 m41 (59 : Int32)) okX7_pass inX7_pass ml7_116 rfl rfl rfl rfl (by decide) (by decide) (Nat.le_of_ble_eq_true rfl) rfl dX7_readMeet_200 (fun r42 m43 hr42 => ?_)
                exact j_zret h rfl dX7_readMeet_203
              · refine j_iconst (v := (0 : Int32)) h dX7_readMeet_159 kiconst_0 ?_
                exact j_zretB h rfl rfl dX7_readMeet_160
            · refine j_iconst (v := (0 : Int32)) h dX7_readMeet_121 kiconst_0 ?_
              exact j_zretB h rfl rfl dX7_readMeet_122
          · refine j_aload_n h dX7_readMeet_75 rfl ?_
            refine j_iconst (v := (3 : Int32)) h dX7_readMeet_76 kiconst_3 ?_
            refine j_callVI (q0 := 4) (ci := 7) h [.int (3 : Int32)] (kX7_refuse _ G h.2.2.2.2.2.2.2.2.2.2 m12 (3 : Int32)) okX7_refuse inX7_refuse ml7_73 rfl rfl rfl rfl (by decide) (by decide) (Nat.le_of_ble_eq_true rfl) rfl dX7_readMeet_77 (fun r44 m45 hr44 => ?_)
            exact j_zret h rfl dX7_readMeet_80
      · refine j_iconst (v := (0 : Int32)) h dX7_readMeet_56 kiconst_0 ?_
        exact j_zretB h rfl rfl dX7_readMeet_57
    · refine j_iconst (v := (0 : Int32)) h dX7_readMeet_37 kiconst_0 ?_
      exact j_zretB h rfl rfl dX7_readMeet_38
  · refine j_aload_n h dX7_readMeet_14 rfl ?_
    refine j_iconst (v := (2 : Int32)) h dX7_readMeet_15 kiconst_2 ?_
    refine j_callVI (q0 := 4) (ci := 7) h [.int (2 : Int32)] (kX7_refuse _ G h.2.2.2.2.2.2.2.2.2.2 m (2 : Int32)) okX7_refuse inX7_refuse ml7_73 rfl rfl rfl rfl (by decide) (by decide) (Nat.le_of_ble_eq_true rfl) rfl dX7_readMeet_16 (fun r46 m47 hr46 => ?_)
    exact j_zret h rfl dX7_readMeet_19
theorem dX7_readNoise_0 : DD cX7_readNoise 0 (.aload_n 0) 1 1 := ⟨by decide +kernel, rfl⟩
theorem dX7_readNoise_1 : DD cX7_readNoise 1 (.getfield 12) 3 4 := ⟨by decide +kernel, rfl⟩
theorem dX7_readNoise_4 : DD cX7_readNoise 4 (.getfield 143) 3 7 := ⟨by decide +kernel, rfl⟩
theorem dX7_readNoise_7 : DD cX7_readNoise 7 (.istore_n 1) 1 8 := ⟨by decide +kernel, rfl⟩
theorem dX7_readNoise_8 : DD cX7_readNoise 8 (.iload_n 1) 1 9 := ⟨by decide +kernel, rfl⟩
theorem dX7_readNoise_9 : DD cX7_readNoise 9 (.bipush 8) 2 11 := ⟨by decide +kernel, rfl⟩
theorem dX7_readNoise_11 : DD cX7_readNoise 11 (.if_icmp .lt 9) 3 14 := ⟨by decide +kernel, rfl⟩
theorem dX7_readNoise_14 : DD cX7_readNoise 14 (.aload_n 0) 1 15 := ⟨by decide +kernel, rfl⟩
theorem dX7_readNoise_15 : DD cX7_readNoise 15 (.iconst 2) 1 16 := ⟨by decide +kernel, rfl⟩
theorem dX7_readNoise_16 : DD cX7_readNoise 16 (.invokevirtual 73) 3 19 := ⟨by decide +kernel, rfl⟩
theorem dX7_readNoise_19 : DD cX7_readNoise 19 (.ireturn) 1 20 := ⟨by decide +kernel, rfl⟩
theorem dX7_readNoise_20 : DD cX7_readNoise 20 (.aload_n 0) 1 21 := ⟨by decide +kernel, rfl⟩
theorem dX7_readNoise_21 : DD cX7_readNoise 21 (.getfield 29) 3 24 := ⟨by decide +kernel, rfl⟩
theorem dX7_readNoise_24 : DD cX7_readNoise 24 (.invokevirtual 80) 3 27 := ⟨by decide +kernel, rfl⟩
theorem dX7_readNoise_27 : DD cX7_readNoise 27 (.aload_n 0) 1 28 := ⟨by decide +kernel, rfl⟩
theorem dX7_readNoise_28 : DD cX7_readNoise 28 (.invokevirtual 124) 3 31 := ⟨by decide +kernel, rfl⟩
theorem dX7_readNoise_31 : DD cX7_readNoise 31 (.istore_n 2) 1 32 := ⟨by decide +kernel, rfl⟩
theorem dX7_readNoise_32 : DD cX7_readNoise 32 (.iload_n 2) 1 33 := ⟨by decide +kernel, rfl⟩
theorem dX7_readNoise_33 : DD cX7_readNoise 33 (.iconst (-1)) 1 34 := ⟨by decide +kernel, rfl⟩
theorem dX7_readNoise_34 : DD cX7_readNoise 34 (.if_icmp .ne 5) 3 37 := ⟨by decide +kernel, rfl⟩
theorem dX7_readNoise_37 : DD cX7_readNoise 37 (.iconst 0) 1 38 := ⟨by decide +kernel, rfl⟩
theorem dX7_readNoise_38 : DD cX7_readNoise 38 (.ireturn) 1 39 := ⟨by decide +kernel, rfl⟩
theorem dX7_readNoise_39 : DD cX7_readNoise 39 (.aload_n 0) 1 40 := ⟨by decide +kernel, rfl⟩
theorem dX7_readNoise_40 : DD cX7_readNoise 40 (.getfield 29) 3 43 := ⟨by decide +kernel, rfl⟩
theorem dX7_readNoise_43 : DD cX7_readNoise 43 (.invokevirtual 80) 3 46 := ⟨by decide +kernel, rfl⟩
theorem dX7_readNoise_46 : DD cX7_readNoise 46 (.aload_n 0) 1 47 := ⟨by decide +kernel, rfl⟩
theorem dX7_readNoise_47 : DD cX7_readNoise 47 (.sipush 136) 3 50 := ⟨by decide +kernel, rfl⟩
theorem dX7_readNoise_50 : DD cX7_readNoise 50 (.iconst 0) 1 51 := ⟨by decide +kernel, rfl⟩
theorem dX7_readNoise_51 : DD cX7_readNoise 51 (.bipush 23) 2 53 := ⟨by decide +kernel, rfl⟩
theorem dX7_readNoise_53 : DD cX7_readNoise 53 (.invokevirtual 95) 3 56 := ⟨by decide +kernel, rfl⟩
theorem dX7_readNoise_56 : DD cX7_readNoise 56 (.ifCond .ne 5) 3 59 := ⟨by decide +kernel, rfl⟩
theorem dX7_readNoise_59 : DD cX7_readNoise 59 (.iconst 0) 1 60 := ⟨by decide +kernel, rfl⟩
theorem dX7_readNoise_60 : DD cX7_readNoise 60 (.ireturn) 1 61 := ⟨by decide +kernel, rfl⟩
theorem dX7_readNoise_61 : DD cX7_readNoise 61 (.aload_n 0) 1 62 := ⟨by decide +kernel, rfl⟩
theorem dX7_readNoise_62 : DD cX7_readNoise 62 (.getfield 12) 3 65 := ⟨by decide +kernel, rfl⟩
theorem dX7_readNoise_65 : DD cX7_readNoise 65 (.iload_n 2) 1 66 := ⟨by decide +kernel, rfl⟩
theorem dX7_readNoise_66 : DD cX7_readNoise 66 (.aload_n 0) 1 67 := ⟨by decide +kernel, rfl⟩
theorem dX7_readNoise_67 : DD cX7_readNoise 67 (.getfield 29) 3 70 := ⟨by decide +kernel, rfl⟩
theorem dX7_readNoise_70 : DD cX7_readNoise 70 (.getfield 103) 3 73 := ⟨by decide +kernel, rfl⟩
theorem dX7_readNoise_73 : DD cX7_readNoise 73 (.invokevirtual 146) 3 76 := ⟨by decide +kernel, rfl⟩
theorem dX7_readNoise_76 : DD cX7_readNoise 76 (.iconst (-1)) 1 77 := ⟨by decide +kernel, rfl⟩
theorem dX7_readNoise_77 : DD cX7_readNoise 77 (.if_icmp .eq 9) 3 80 := ⟨by decide +kernel, rfl⟩
theorem dX7_readNoise_80 : DD cX7_readNoise 80 (.aload_n 0) 1 81 := ⟨by decide +kernel, rfl⟩
theorem dX7_readNoise_81 : DD cX7_readNoise 81 (.iconst 3) 1 82 := ⟨by decide +kernel, rfl⟩
theorem dX7_readNoise_82 : DD cX7_readNoise 82 (.invokevirtual 73) 3 85 := ⟨by decide +kernel, rfl⟩
theorem dX7_readNoise_85 : DD cX7_readNoise 85 (.ireturn) 1 86 := ⟨by decide +kernel, rfl⟩
theorem dX7_readNoise_86 : DD cX7_readNoise 86 (.aload_n 0) 1 87 := ⟨by decide +kernel, rfl⟩
theorem dX7_readNoise_87 : DD cX7_readNoise 87 (.getfield 12) 3 90 := ⟨by decide +kernel, rfl⟩
theorem dX7_readNoise_90 : DD cX7_readNoise 90 (.getfield 150) 3 93 := ⟨by decide +kernel, rfl⟩
theorem dX7_readNoise_93 : DD cX7_readNoise 93 (.iload_n 1) 1 94 := ⟨by decide +kernel, rfl⟩
theorem dX7_readNoise_94 : DD cX7_readNoise 94 (.iload_n 2) 1 95 := ⟨by decide +kernel, rfl⟩
theorem dX7_readNoise_95 : DD cX7_readNoise 95 (.iastore) 1 96 := ⟨by decide +kernel, rfl⟩
theorem dX7_readNoise_96 : DD cX7_readNoise 96 (.aload_n 0) 1 97 := ⟨by decide +kernel, rfl⟩
theorem dX7_readNoise_97 : DD cX7_readNoise 97 (.getfield 12) 3 100 := ⟨by decide +kernel, rfl⟩
theorem dX7_readNoise_100 : DD cX7_readNoise 100 (.getfield 153) 3 103 := ⟨by decide +kernel, rfl⟩
theorem dX7_readNoise_103 : DD cX7_readNoise 103 (.iload_n 1) 1 104 := ⟨by decide +kernel, rfl⟩
theorem dX7_readNoise_104 : DD cX7_readNoise 104 (.aload_n 0) 1 105 := ⟨by decide +kernel, rfl⟩
theorem dX7_readNoise_105 : DD cX7_readNoise 105 (.getfield 29) 3 108 := ⟨by decide +kernel, rfl⟩
theorem dX7_readNoise_108 : DD cX7_readNoise 108 (.getfield 103) 3 111 := ⟨by decide +kernel, rfl⟩
theorem dX7_readNoise_111 : DD cX7_readNoise 111 (.iastore) 1 112 := ⟨by decide +kernel, rfl⟩
theorem dX7_readNoise_112 : DD cX7_readNoise 112 (.aload_n 0) 1 113 := ⟨by decide +kernel, rfl⟩
theorem dX7_readNoise_113 : DD cX7_readNoise 113 (.getfield 29) 3 116 := ⟨by decide +kernel, rfl⟩
theorem dX7_readNoise_116 : DD cX7_readNoise 116 (.invokevirtual 80) 3 119 := ⟨by decide +kernel, rfl⟩
theorem dX7_readNoise_119 : DD cX7_readNoise 119 (.aload_n 0) 1 120 := ⟨by decide +kernel, rfl⟩
theorem dX7_readNoise_120 : DD cX7_readNoise 120 (.sipush 141) 3 123 := ⟨by decide +kernel, rfl⟩
theorem dX7_readNoise_123 : DD cX7_readNoise 123 (.iconst 1) 1 124 := ⟨by decide +kernel, rfl⟩
theorem dX7_readNoise_124 : DD cX7_readNoise 124 (.bipush 20) 2 126 := ⟨by decide +kernel, rfl⟩
theorem dX7_readNoise_126 : DD cX7_readNoise 126 (.invokevirtual 95) 3 129 := ⟨by decide +kernel, rfl⟩
theorem dX7_readNoise_129 : DD cX7_readNoise 129 (.ifCond .ne 5) 3 132 := ⟨by decide +kernel, rfl⟩
theorem dX7_readNoise_132 : DD cX7_readNoise 132 (.iconst 0) 1 133 := ⟨by decide +kernel, rfl⟩
theorem dX7_readNoise_133 : DD cX7_readNoise 133 (.ireturn) 1 134 := ⟨by decide +kernel, rfl⟩
theorem dX7_readNoise_134 : DD cX7_readNoise 134 (.aload_n 0) 1 135 := ⟨by decide +kernel, rfl⟩
theorem dX7_readNoise_135 : DD cX7_readNoise 135 (.getfield 12) 3 138 := ⟨by decide +kernel, rfl⟩
theorem dX7_readNoise_138 : DD cX7_readNoise 138 (.getfield 156) 3 141 := ⟨by decide +kernel, rfl⟩
theorem dX7_readNoise_141 : DD cX7_readNoise 141 (.iload_n 1) 1 142 := ⟨by decide +kernel, rfl⟩
theorem dX7_readNoise_142 : DD cX7_readNoise 142 (.aload_n 0) 1 143 := ⟨by decide +kernel, rfl⟩
theorem dX7_readNoise_143 : DD cX7_readNoise 143 (.getfield 29) 3 146 := ⟨by decide +kernel, rfl⟩
theorem dX7_readNoise_146 : DD cX7_readNoise 146 (.getfield 103) 3 149 := ⟨by decide +kernel, rfl⟩
theorem dX7_readNoise_149 : DD cX7_readNoise 149 (.iastore) 1 150 := ⟨by decide +kernel, rfl⟩
theorem dX7_readNoise_150 : DD cX7_readNoise 150 (.aload_n 0) 1 151 := ⟨by decide +kernel, rfl⟩
theorem dX7_readNoise_151 : DD cX7_readNoise 151 (.getfield 12) 3 154 := ⟨by decide +kernel, rfl⟩
theorem dX7_readNoise_154 : DD cX7_readNoise 154 (.dup) 1 155 := ⟨by decide +kernel, rfl⟩
theorem dX7_readNoise_155 : DD cX7_readNoise 155 (.getfield 143) 3 158 := ⟨by decide +kernel, rfl⟩
theorem dX7_readNoise_158 : DD cX7_readNoise 158 (.iconst 1) 1 159 := ⟨by decide +kernel, rfl⟩
theorem dX7_readNoise_159 : DD cX7_readNoise 159 (.iadd) 1 160 := ⟨by decide +kernel, rfl⟩
theorem dX7_readNoise_160 : DD cX7_readNoise 160 (.putfield 143) 3 163 := ⟨by decide +kernel, rfl⟩
theorem dX7_readNoise_163 : DD cX7_readNoise 163 (.aload_n 0) 1 164 := ⟨by decide +kernel, rfl⟩
theorem dX7_readNoise_164 : DD cX7_readNoise 164 (.getfield 29) 3 167 := ⟨by decide +kernel, rfl⟩
theorem dX7_readNoise_167 : DD cX7_readNoise 167 (.invokevirtual 80) 3 170 := ⟨by decide +kernel, rfl⟩
theorem dX7_readNoise_170 : DD cX7_readNoise 170 (.aload_n 0) 1 171 := ⟨by decide +kernel, rfl⟩
theorem dX7_readNoise_171 : DD cX7_readNoise 171 (.bipush 59) 2 173 := ⟨by decide +kernel, rfl⟩
theorem dX7_readNoise_173 : DD cX7_readNoise 173 (.invokevirtual 116) 3 176 := ⟨by decide +kernel, rfl⟩
theorem dX7_readNoise_176 : DD cX7_readNoise 176 (.ireturn) 1 177 := ⟨by decide +kernel, rfl⟩
def fX7_readNoise (m : Mem) : Option (Int32 × Mem) := (gPl (m.2.2 4 1) (nm (m.1 (m.2.2 4 1) 10) fun v2 => (if v2 < (8 : Int32) then (cV (fX10_advance m) fun m5 => (cI (fX7_personHere m5) fun r6 m7 => (if r6 = (-1 : Int32) then (some ((0 : Int32), m7)) else (cV (fX10_advance m7) fun m10 => (cI (fX7_isNumberBehind m10 (136 : Int32) (0 : Int32) (23 : Int32)) fun r11 m12 => (if r11 = 0 then (some ((0 : Int32), m12)) else (gPl (m12.2.2 4 1) (cP (fX6_noiseOf m12 (m12.2.2 4 1) r6 (m12.1 1 6)) fun r15 => (if r15 = (-1 : Int32) then (wr m12 ((m12.2.2 4 1) + 9) 8 v2 r6 fun m18 => (gPl (m18.2.2 4 1) (wr m18 ((m18.2.2 4 1) + 10) 8 v2 (m18.1 1 6) fun m20 => (cV (fX10_advance m20) fun m22 => (cI (fX7_isNumberBehind m22 (141 : Int32) (1 : Int32) (20 : Int32)) fun r23 m24 => (if r23 = 0 then (some ((0 : Int32), m24)) else (gPl (m24.2.2 4 1) (wr m24 ((m24.2.2 4 1) + 11) 8 v2 (m24.1 1 6) fun m27 => (gPl (m27.2.2 4 1) (pt (sI m27 (m27.2.2 4 1) 10 ((m27.1 (m27.2.2 4 1) 10) + (1 : Int32))) fun m29 => (cV (fX10_advance m29) fun m31 => (cI (fX7_pass m31 (59 : Int32)) fun r32 m33 => (tz r32 (some (r32, m33))))))))))))))) else (cI (fX7_refuse m12 (3 : Int32)) fun r34 m35 => (tz r34 (some (r34, m35))))))))))))) else (cI (fX7_refuse m (2 : Int32)) fun r36 m37 => (tz r36 (some (r36, m37)))))))
set_option maxHeartbeats 4000000 in
set_option maxRecDepth 100000 in
theorem kX7_readNoise (l : Launch) (G : Gt) (hD : ∀ m, va_D (inA G nC) (wC G m)) (m : Mem) : ∀ a, fX7_readNoise m = some a → Ct l G wC nC yX7_readNoise cX7_readNoise 3 (some .boolean) 7 [.ref (G.2.2 4)] m (cvI a) := by
  refine ct_of (own := RX7) (ls0 := [some (.ref (G.2.2 4)), none, none]) (by decide) rfl rfl rfl (Nat.le_of_ble_eq_true rfl) hD (fun X h => ?_) l
  unfold fX7_readNoise
  refine j_aload_n h dX7_readNoise_0 rfl ?_
  refine gC7_12 h dX7_readNoise_1 ?_
  refine j_gPl (fun hg1 => ?_)
  refine gC7_143 h hg1 dX7_readNoise_4 ?_
  refine j_nm (fun v2 hv2 => ?_)
  refine j_istore_n h dX7_readNoise_7 rfl rfl ?_
  refine j_iload_n h dX7_readNoise_8 rfl ?_
  refine j_bipush (v := (8 : Int32)) h dX7_readNoise_9 kbipush_8 ?_
  refine j_icmp_lt (tgt := 20) h dX7_readNoise_11 (by decide) (fun c3 => ?_) (fun c3 => ?_)
  · refine j_aload_n h dX7_readNoise_20 rfl ?_
    refine gC7_29 h dX7_readNoise_21 ?_
    refine j_callVV (q0 := 1) (ci := 10) h [] (kX10_advance _ G h.2.2.2.2.2.2.2.2.2.2 m) okX10_advance inX10_advance ml7_80 rfl rfl rfl rfl (by decide) (by decide) (Nat.le_of_ble_eq_true rfl) rfl dX7_readNoise_24 (fun m5 hm5 => ?_)
    refine j_aload_n h dX7_readNoise_27 rfl ?_
    refine j_callVI (q0 := 4) (ci := 7) h [] (kX7_personHere _ G h.2.2.2.2.2.2.2.2.2.2 m5) okX7_personHere inX7_personHere ml7_124 rfl rfl rfl rfl (by decide) (by decide) (Nat.le_of_ble_eq_true rfl) rfl dX7_readNoise_28 (fun r6 m7 hr6 => ?_)
    refine j_istore_n h dX7_readNoise_31 rfl rfl ?_
    refine j_iload_n h dX7_readNoise_32 rfl ?_
    refine j_iconst (v := (-1 : Int32)) h dX7_readNoise_33 kiconst_m1 ?_
    refine j_icmp_ne (tgt := 39) h dX7_readNoise_34 (by decide) (fun c8 => ?_) (fun c8 => ?_)
    · refine j_aload_n h dX7_readNoise_39 rfl ?_
      refine gC7_29 h dX7_readNoise_40 ?_
      refine j_callVV (q0 := 1) (ci := 10) h [] (kX10_advance _ G h.2.2.2.2.2.2.2.2.2.2 m7) okX10_advance inX10_advance ml7_80 rfl rfl rfl rfl (by decide) (by decide) (Nat.le_of_ble_eq_true rfl) rfl dX7_readNoise_43 (fun m10 hm10 => ?_)
      refine j_aload_n h dX7_readNoise_46 rfl ?_
      refine j_sipush (v := (136 : Int32)) h dX7_readNoise_47 ksipush_136 ?_
      refine j_iconst (v := (0 : Int32)) h dX7_readNoise_50 kiconst_0 ?_
      refine j_bipush (v := (23 : Int32)) h dX7_readNoise_51 kbipush_23 ?_
      refine j_callVI (q0 := 4) (ci := 7) h [.int (136 : Int32), .int (0 : Int32), .int (23 : Int32)] (kX7_isNumberBehind _ G h.2.2.2.2.2.2.2.2.2.2 m10 (136 : Int32) (0 : Int32) (23 : Int32)) okX7_isNumberBehind inX7_isNumberBehind ml7_95 rfl rfl rfl rfl (by decide) (by decide) (Nat.le_of_ble_eq_true rfl) rfl dX7_readNoise_53 (fun r11 m12 hr11 => ?_)
      refine j_if_ne (tgt := 61) h dX7_readNoise_56 (by decide) (fun c13 => ?_) (fun c13 => ?_)
      · refine j_aload_n h dX7_readNoise_61 rfl ?_
        refine gC7_12 h dX7_readNoise_62 ?_
        refine j_iload_n h dX7_readNoise_65 rfl ?_
        refine j_aload_n h dX7_readNoise_66 rfl ?_
        refine gC7_29 h dX7_readNoise_67 ?_
        refine gC7_103 h dX7_readNoise_70 ?_
        refine j_gPl (fun hg14 => ?_)
        refine j_callVP (q0 := (m12.2.2 4 1)) (ci := 6) h [.int r6, .int (m12.1 1 6)] (kX6_noiseOf _ G h.2.2.2.2.2.2.2.2.2.2 m12 (m12.2.2 4 1) r6 (m12.1 1 6)) okX6_noiseOf inX6_noiseOf ml7_146 rfl (at_Pl hg14) rfl rfl (by decide) (by decide) (Nat.le_of_ble_eq_true rfl) rfl dX7_readNoise_73 (fun r15 hr15 => ?_)
        refine j_iconst (v := (-1 : Int32)) h dX7_readNoise_76 kiconst_m1 ?_
        refine j_icmp_eq (tgt := 86) h dX7_readNoise_77 (by decide) (fun c17 => ?_) (fun c17 => ?_)
        · refine j_aload_n h dX7_readNoise_86 rfl ?_
          refine gC7_12 h dX7_readNoise_87 ?_
          refine gC7_150 h hg14 dX7_readNoise_90 ?_
          refine j_iload_n h dX7_readNoise_93 rfl ?_
          refine j_iload_n h dX7_readNoise_94 rfl ?_
          refine bC_Pl9 h hg14 dX7_readNoise_95 (fun m18 hm18 => ?_)
          refine j_aload_n h dX7_readNoise_96 rfl ?_
          refine gC7_12 h dX7_readNoise_97 ?_
          refine j_gPl (fun hg19 => ?_)
          refine gC7_153 h hg19 dX7_readNoise_100 ?_
          refine j_iload_n h dX7_readNoise_103 rfl ?_
          refine j_aload_n h dX7_readNoise_104 rfl ?_
          refine gC7_29 h dX7_readNoise_105 ?_
          refine gC7_103 h dX7_readNoise_108 ?_
          refine bC_Pl10 h hg19 dX7_readNoise_111 (fun m20 hm20 => ?_)
          refine j_aload_n h dX7_readNoise_112 rfl ?_
          refine gC7_29 h dX7_readNoise_113 ?_
          refine j_callVV (q0 := 1) (ci := 10) h [] (kX10_advance _ G h.2.2.2.2.2.2.2.2.2.2 m20) okX10_advance inX10_advance ml7_80 rfl rfl rfl rfl (by decide) (by decide) (Nat.le_of_ble_eq_true rfl) rfl dX7_readNoise_116 (fun m22 hm22 => ?_)
          refine j_aload_n h dX7_readNoise_119 rfl ?_
          refine j_sipush (v := (141 : Int32)) h dX7_readNoise_120 ksipush_141 ?_
          refine j_iconst (v := (1 : Int32)) h dX7_readNoise_123 kiconst_1 ?_
          refine j_bipush (v := (20 : Int32)) h dX7_readNoise_124 kbipush_20 ?_
          refine j_callVI (q0 := 4) (ci := 7) h [.int (141 : Int32), .int (1 : Int32), .int (20 : Int32)] (kX7_isNumberBehind _ G h.2.2.2.2.2.2.2.2.2.2 m22 (141 : Int32) (1 : Int32) (20 : Int32)) okX7_isNumberBehind inX7_isNumberBehind ml7_95 rfl rfl rfl rfl (by decide) (by decide) (Nat.le_of_ble_eq_true rfl) rfl dX7_readNoise_126 (fun r23 m24 hr23 => ?_)
          refine j_if_ne (tgt := 134) h dX7_readNoise_129 (by decide) (fun c25 => ?_) (fun c25 => ?_)
          · refine j_aload_n h dX7_readNoise_134 rfl ?_
            refine gC7_12 h dX7_readNoise_135 ?_
            refine j_gPl (fun hg26 => ?_)
            refine gC7_156 h hg26 dX7_readNoise_138 ?_
            refine j_iload_n h dX7_readNoise_141 rfl ?_
            refine j_aload_n h dX7_readNoise_142 rfl ?_
            refine gC7_29 h dX7_readNoise_143 ?_
            refine gC7_103 h dX7_readNoise_146 ?_
            refine bC_Pl11 h hg26 dX7_readNoise_149 (fun m27 hm27 => ?_)
            refine j_aload_n h dX7_readNoise_150 rfl ?_
            refine gC7_12 h dX7_readNoise_151 ?_
            refine j_dup h dX7_readNoise_154 rfl ?_
            refine j_gPl (fun hg28 => ?_)
            refine gC7_143 h hg28 dX7_readNoise_155 ?_
            refine j_iconst (v := (1 : Int32)) h dX7_readNoise_158 kiconst_1 ?_
            refine j_iadd h dX7_readNoise_159 ?_
            refine pC7_143 h hg28 dX7_readNoise_160 (fun m29 hm29 => ?_)
            refine j_aload_n h dX7_readNoise_163 rfl ?_
            refine gC7_29 h dX7_readNoise_164 ?_
            refine j_callVV (q0 := 1) (ci := 10) h [] (kX10_advance _ G h.2.2.2.2.2.2.2.2.2.2 m29) okX10_advance inX10_advance ml7_80 rfl rfl rfl rfl (by decide) (by decide) (Nat.le_of_ble_eq_true rfl) rfl dX7_readNoise_167 (fun m31 hm31 => ?_)
            refine j_aload_n h dX7_readNoise_170 rfl ?_
            refine j_bipush (v := (59 : Int32)) h dX7_readNoise_171 kbipush_59 ?_
            refine j_callVI (q0 := 4) (ci := 7) h [.int (59 : Int32)] (kX7_pass _ G h.2.2.2.2.2.2.2.2.2.2 m31 (59 : Int32)) okX7_pass inX7_pass ml7_116 rfl rfl rfl rfl (by decide) (by decide) (Nat.le_of_ble_eq_true rfl) rfl dX7_readNoise_173 (fun r32 m33 hr32 => ?_)
            exact j_zret h rfl dX7_readNoise_176
          · refine j_iconst (v := (0 : Int32)) h dX7_readNoise_132 kiconst_0 ?_
            exact j_zretB h rfl rfl dX7_readNoise_133
        · refine j_aload_n h dX7_readNoise_80 rfl ?_
          refine j_iconst (v := (3 : Int32)) h dX7_readNoise_81 kiconst_3 ?_
          refine j_callVI (q0 := 4) (ci := 7) h [.int (3 : Int32)] (kX7_refuse _ G h.2.2.2.2.2.2.2.2.2.2 m12 (3 : Int32)) okX7_refuse inX7_refuse ml7_73 rfl rfl rfl rfl (by decide) (by decide) (Nat.le_of_ble_eq_true rfl) rfl dX7_readNoise_82 (fun r34 m35 hr34 => ?_)
          exact j_zret h rfl dX7_readNoise_85
      · refine j_iconst (v := (0 : Int32)) h dX7_readNoise_59 kiconst_0 ?_
        exact j_zretB h rfl rfl dX7_readNoise_60
    · refine j_iconst (v := (0 : Int32)) h dX7_readNoise_37 kiconst_0 ?_
      exact j_zretB h rfl rfl dX7_readNoise_38
  · refine j_aload_n h dX7_readNoise_14 rfl ?_
    refine j_iconst (v := (2 : Int32)) h dX7_readNoise_15 kiconst_2 ?_
    refine j_callVI (q0 := 4) (ci := 7) h [.int (2 : Int32)] (kX7_refuse _ G h.2.2.2.2.2.2.2.2.2.2 m (2 : Int32)) okX7_refuse inX7_refuse ml7_73 rfl rfl rfl rfl (by decide) (by decide) (Nat.le_of_ble_eq_true rfl) rfl dX7_readNoise_16 (fun r36 m37 hr36 => ?_)
    exact j_zret h rfl dX7_readNoise_19
theorem dX7_readWakeful_0 : DD cX7_readWakeful 0 (.aload_n 0) 1 1 := ⟨by decide +kernel, rfl⟩
theorem dX7_readWakeful_1 : DD cX7_readWakeful 1 (.getfield 29) 3 4 := ⟨by decide +kernel, rfl⟩
theorem dX7_readWakeful_4 : DD cX7_readWakeful 4 (.invokevirtual 80) 3 7 := ⟨by decide +kernel, rfl⟩
theorem dX7_readWakeful_7 : DD cX7_readWakeful 7 (.aload_n 0) 1 8 := ⟨by decide +kernel, rfl⟩
theorem dX7_readWakeful_8 : DD cX7_readWakeful 8 (.invokevirtual 124) 3 11 := ⟨by decide +kernel, rfl⟩
theorem dX7_readWakeful_11 : DD cX7_readWakeful 11 (.istore_n 1) 1 12 := ⟨by decide +kernel, rfl⟩
theorem dX7_readWakeful_12 : DD cX7_readWakeful 12 (.iload_n 1) 1 13 := ⟨by decide +kernel, rfl⟩
theorem dX7_readWakeful_13 : DD cX7_readWakeful 13 (.iconst (-1)) 1 14 := ⟨by decide +kernel, rfl⟩
theorem dX7_readWakeful_14 : DD cX7_readWakeful 14 (.if_icmp .ne 5) 3 17 := ⟨by decide +kernel, rfl⟩
theorem dX7_readWakeful_17 : DD cX7_readWakeful 17 (.iconst 0) 1 18 := ⟨by decide +kernel, rfl⟩
theorem dX7_readWakeful_18 : DD cX7_readWakeful 18 (.ireturn) 1 19 := ⟨by decide +kernel, rfl⟩
theorem dX7_readWakeful_19 : DD cX7_readWakeful 19 (.aload_n 0) 1 20 := ⟨by decide +kernel, rfl⟩
theorem dX7_readWakeful_20 : DD cX7_readWakeful 20 (.getfield 12) 3 23 := ⟨by decide +kernel, rfl⟩
theorem dX7_readWakeful_23 : DD cX7_readWakeful 23 (.getfield 106) 3 26 := ⟨by decide +kernel, rfl⟩
theorem dX7_readWakeful_26 : DD cX7_readWakeful 26 (.iload_n 1) 1 27 := ⟨by decide +kernel, rfl⟩
theorem dX7_readWakeful_27 : DD cX7_readWakeful 27 (.iaload) 1 28 := ⟨by decide +kernel, rfl⟩
theorem dX7_readWakeful_28 : DD cX7_readWakeful 28 (.iconst (-1)) 1 29 := ⟨by decide +kernel, rfl⟩
theorem dX7_readWakeful_29 : DD cX7_readWakeful 29 (.if_icmp .eq 9) 3 32 := ⟨by decide +kernel, rfl⟩
theorem dX7_readWakeful_32 : DD cX7_readWakeful 32 (.aload_n 0) 1 33 := ⟨by decide +kernel, rfl⟩
theorem dX7_readWakeful_33 : DD cX7_readWakeful 33 (.iconst 3) 1 34 := ⟨by decide +kernel, rfl⟩
theorem dX7_readWakeful_34 : DD cX7_readWakeful 34 (.invokevirtual 73) 3 37 := ⟨by decide +kernel, rfl⟩
theorem dX7_readWakeful_37 : DD cX7_readWakeful 37 (.ireturn) 1 38 := ⟨by decide +kernel, rfl⟩
theorem dX7_readWakeful_38 : DD cX7_readWakeful 38 (.aload_n 0) 1 39 := ⟨by decide +kernel, rfl⟩
theorem dX7_readWakeful_39 : DD cX7_readWakeful 39 (.getfield 29) 3 42 := ⟨by decide +kernel, rfl⟩
theorem dX7_readWakeful_42 : DD cX7_readWakeful 42 (.invokevirtual 80) 3 45 := ⟨by decide +kernel, rfl⟩
theorem dX7_readWakeful_45 : DD cX7_readWakeful 45 (.aload_n 0) 1 46 := ⟨by decide +kernel, rfl⟩
theorem dX7_readWakeful_46 : DD cX7_readWakeful 46 (.iconst 0) 1 47 := ⟨by decide +kernel, rfl⟩
theorem dX7_readWakeful_47 : DD cX7_readWakeful 47 (.bipush 100) 2 49 := ⟨by decide +kernel, rfl⟩
theorem dX7_readWakeful_49 : DD cX7_readWakeful 49 (.invokevirtual 159) 3 52 := ⟨by decide +kernel, rfl⟩
theorem dX7_readWakeful_52 : DD cX7_readWakeful 52 (.ifCond .ne 5) 3 55 := ⟨by decide +kernel, rfl⟩
theorem dX7_readWakeful_55 : DD cX7_readWakeful 55 (.iconst 0) 1 56 := ⟨by decide +kernel, rfl⟩
theorem dX7_readWakeful_56 : DD cX7_readWakeful 56 (.ireturn) 1 57 := ⟨by decide +kernel, rfl⟩
theorem dX7_readWakeful_57 : DD cX7_readWakeful 57 (.aload_n 0) 1 58 := ⟨by decide +kernel, rfl⟩
theorem dX7_readWakeful_58 : DD cX7_readWakeful 58 (.getfield 12) 3 61 := ⟨by decide +kernel, rfl⟩
theorem dX7_readWakeful_61 : DD cX7_readWakeful 61 (.getfield 106) 3 64 := ⟨by decide +kernel, rfl⟩
theorem dX7_readWakeful_64 : DD cX7_readWakeful 64 (.iload_n 1) 1 65 := ⟨by decide +kernel, rfl⟩
theorem dX7_readWakeful_65 : DD cX7_readWakeful 65 (.aload_n 0) 1 66 := ⟨by decide +kernel, rfl⟩
theorem dX7_readWakeful_66 : DD cX7_readWakeful 66 (.getfield 29) 3 69 := ⟨by decide +kernel, rfl⟩
theorem dX7_readWakeful_69 : DD cX7_readWakeful 69 (.getfield 103) 3 72 := ⟨by decide +kernel, rfl⟩
theorem dX7_readWakeful_72 : DD cX7_readWakeful 72 (.iastore) 1 73 := ⟨by decide +kernel, rfl⟩
theorem dX7_readWakeful_73 : DD cX7_readWakeful 73 (.aload_n 0) 1 74 := ⟨by decide +kernel, rfl⟩
theorem dX7_readWakeful_74 : DD cX7_readWakeful 74 (.getfield 29) 3 77 := ⟨by decide +kernel, rfl⟩
theorem dX7_readWakeful_77 : DD cX7_readWakeful 77 (.invokevirtual 80) 3 80 := ⟨by decide +kernel, rfl⟩
theorem dX7_readWakeful_80 : DD cX7_readWakeful 80 (.aload_n 0) 1 81 := ⟨by decide +kernel, rfl⟩
theorem dX7_readWakeful_81 : DD cX7_readWakeful 81 (.bipush 59) 2 83 := ⟨by decide +kernel, rfl⟩
theorem dX7_readWakeful_83 : DD cX7_readWakeful 83 (.invokevirtual 116) 3 86 := ⟨by decide +kernel, rfl⟩
theorem dX7_readWakeful_86 : DD cX7_readWakeful 86 (.ireturn) 1 87 := ⟨by decide +kernel, rfl⟩
def fX7_readWakeful (m : Mem) : Option (Int32 × Mem) := (cV (fX10_advance m) fun m2 => (cI (fX7_personHere m2) fun r3 m4 => (if r3 = (-1 : Int32) then (some ((0 : Int32), m4)) else (gPl (m4.2.2 4 1) (rd (m4.1 ((m4.2.2 4 1) + 4)) 7 r3 fun v7 => (if v7 = (-1 : Int32) then (cV (fX10_advance m4) fun m10 => (cI (fX7_isNumberHere m10 (0 : Int32) (100 : Int32)) fun r11 m12 => (if r11 = 0 then (some ((0 : Int32), m12)) else (gPl (m12.2.2 4 1) (wr m12 ((m12.2.2 4 1) + 4) 7 r3 (m12.1 1 6) fun m15 => (cV (fX10_advance m15) fun m17 => (cI (fX7_pass m17 (59 : Int32)) fun r18 m19 => (tz r18 (some (r18, m19)))))))))) else (cI (fX7_refuse m4 (3 : Int32)) fun r20 m21 => (tz r20 (some (r20, m21))))))))))
set_option maxHeartbeats 4000000 in
set_option maxRecDepth 100000 in
theorem kX7_readWakeful (l : Launch) (G : Gt) (hD : ∀ m, va_D (inA G nC) (wC G m)) (m : Mem) : ∀ a, fX7_readWakeful m = some a → Ct l G wC nC yX7_readWakeful cX7_readWakeful 2 (some .boolean) 6 [.ref (G.2.2 4)] m (cvI a) := by
  refine ct_of (own := RX7) (ls0 := [some (.ref (G.2.2 4)), none]) (by decide) rfl rfl rfl (Nat.le_of_ble_eq_true rfl) hD (fun X h => ?_) l
  unfold fX7_readWakeful
  refine j_aload_n h dX7_readWakeful_0 rfl ?_
  refine gC7_29 h dX7_readWakeful_1 ?_
  refine j_callVV (q0 := 1) (ci := 10) h [] (kX10_advance _ G h.2.2.2.2.2.2.2.2.2.2 m) okX10_advance inX10_advance ml7_80 rfl rfl rfl rfl (by decide) (by decide) (Nat.le_of_ble_eq_true rfl) rfl dX7_readWakeful_4 (fun m2 hm2 => ?_)
  refine j_aload_n h dX7_readWakeful_7 rfl ?_
  refine j_callVI (q0 := 4) (ci := 7) h [] (kX7_personHere _ G h.2.2.2.2.2.2.2.2.2.2 m2) okX7_personHere inX7_personHere ml7_124 rfl rfl rfl rfl (by decide) (by decide) (Nat.le_of_ble_eq_true rfl) rfl dX7_readWakeful_8 (fun r3 m4 hr3 => ?_)
  refine j_istore_n h dX7_readWakeful_11 rfl rfl ?_
  refine j_iload_n h dX7_readWakeful_12 rfl ?_
  refine j_iconst (v := (-1 : Int32)) h dX7_readWakeful_13 kiconst_m1 ?_
  refine j_icmp_ne (tgt := 19) h dX7_readWakeful_14 (by decide) (fun c5 => ?_) (fun c5 => ?_)
  · refine j_aload_n h dX7_readWakeful_19 rfl ?_
    refine gC7_12 h dX7_readWakeful_20 ?_
    refine j_gPl (fun hg6 => ?_)
    refine gC7_106 h hg6 dX7_readWakeful_23 ?_
    refine j_iload_n h dX7_readWakeful_26 rfl ?_
    refine aC_Pl4 h hg6 dX7_readWakeful_27 (fun v7 hv7 => ?_)
    refine j_iconst (v := (-1 : Int32)) h dX7_readWakeful_28 kiconst_m1 ?_
    refine j_icmp_eq (tgt := 38) h dX7_readWakeful_29 (by decide) (fun c8 => ?_) (fun c8 => ?_)
    · refine j_aload_n h dX7_readWakeful_38 rfl ?_
      refine gC7_29 h dX7_readWakeful_39 ?_
      refine j_callVV (q0 := 1) (ci := 10) h [] (kX10_advance _ G h.2.2.2.2.2.2.2.2.2.2 m4) okX10_advance inX10_advance ml7_80 rfl rfl rfl rfl (by decide) (by decide) (Nat.le_of_ble_eq_true rfl) rfl dX7_readWakeful_42 (fun m10 hm10 => ?_)
      refine j_aload_n h dX7_readWakeful_45 rfl ?_
      refine j_iconst (v := (0 : Int32)) h dX7_readWakeful_46 kiconst_0 ?_
      refine j_bipush (v := (100 : Int32)) h dX7_readWakeful_47 kbipush_100 ?_
      refine j_callVI (q0 := 4) (ci := 7) h [.int (0 : Int32), .int (100 : Int32)] (kX7_isNumberHere _ G h.2.2.2.2.2.2.2.2.2.2 m10 (0 : Int32) (100 : Int32)) okX7_isNumberHere inX7_isNumberHere ml7_159 rfl rfl rfl rfl (by decide) (by decide) (Nat.le_of_ble_eq_true rfl) rfl dX7_readWakeful_49 (fun r11 m12 hr11 => ?_)
      refine j_if_ne (tgt := 57) h dX7_readWakeful_52 (by decide) (fun c13 => ?_) (fun c13 => ?_)
      · refine j_aload_n h dX7_readWakeful_57 rfl ?_
        refine gC7_12 h dX7_readWakeful_58 ?_
        refine j_gPl (fun hg14 => ?_)
        refine gC7_106 h hg14 dX7_readWakeful_61 ?_
        refine j_iload_n h dX7_readWakeful_64 rfl ?_
        refine j_aload_n h dX7_readWakeful_65 rfl ?_
        refine gC7_29 h dX7_readWakeful_66 ?_
        refine gC7_103 h dX7_readWakeful_69 ?_
        refine bC_Pl4 h hg14 dX7_readWakeful_72 (fun m15 hm15 => ?_)
        refine j_aload_n h dX7_readWakeful_73 rfl ?_
        refine gC7_29 h dX7_readWakeful_74 ?_
        refine j_callVV (q0 := 1) (ci := 10) h [] (kX10_advance _ G h.2.2.2.2.2.2.2.2.2.2 m15) okX10_advance inX10_advance ml7_80 rfl rfl rfl rfl (by decide) (by decide) (Nat.le_of_ble_eq_true rfl) rfl dX7_readWakeful_77 (fun m17 hm17 => ?_)
        refine j_aload_n h dX7_readWakeful_80 rfl ?_
        refine j_bipush (v := (59 : Int32)) h dX7_readWakeful_81 kbipush_59 ?_
        refine j_callVI (q0 := 4) (ci := 7) h [.int (59 : Int32)] (kX7_pass _ G h.2.2.2.2.2.2.2.2.2.2 m17 (59 : Int32)) okX7_pass inX7_pass ml7_116 rfl rfl rfl rfl (by decide) (by decide) (Nat.le_of_ble_eq_true rfl) rfl dX7_readWakeful_83 (fun r18 m19 hr18 => ?_)
        exact j_zret h rfl dX7_readWakeful_86
      · refine j_iconst (v := (0 : Int32)) h dX7_readWakeful_55 kiconst_0 ?_
        exact j_zretB h rfl rfl dX7_readWakeful_56
    · refine j_aload_n h dX7_readWakeful_32 rfl ?_
      refine j_iconst (v := (3 : Int32)) h dX7_readWakeful_33 kiconst_3 ?_
      refine j_callVI (q0 := 4) (ci := 7) h [.int (3 : Int32)] (kX7_refuse _ G h.2.2.2.2.2.2.2.2.2.2 m4 (3 : Int32)) okX7_refuse inX7_refuse ml7_73 rfl rfl rfl rfl (by decide) (by decide) (Nat.le_of_ble_eq_true rfl) rfl dX7_readWakeful_34 (fun r20 m21 hr20 => ?_)
      exact j_zret h rfl dX7_readWakeful_37
  · refine j_iconst (v := (0 : Int32)) h dX7_readWakeful_17 kiconst_0 ?_
    exact j_zretB h rfl rfl dX7_readWakeful_18
theorem dX7_readFormula_0 : DD cX7_readFormula 0 (.aload_n 1) 1 1 := ⟨by decide +kernel, rfl⟩
theorem dX7_readFormula_1 : DD cX7_readFormula 1 (.getfield 165) 3 4 := ⟨by decide +kernel, rfl⟩
theorem dX7_readFormula_4 : DD cX7_readFormula 4 (.ifCond .eq 9) 3 7 := ⟨by decide +kernel, rfl⟩
theorem dX7_readFormula_7 : DD cX7_readFormula 7 (.aload_n 0) 1 8 := ⟨by decide +kernel, rfl⟩
theorem dX7_readFormula_8 : DD cX7_readFormula 8 (.iconst 2) 1 9 := ⟨by decide +kernel, rfl⟩
theorem dX7_readFormula_9 : DD cX7_readFormula 9 (.invokevirtual 73) 3 12 := ⟨by decide +kernel, rfl⟩
theorem dX7_readFormula_12 : DD cX7_readFormula 12 (.ireturn) 1 13 := ⟨by decide +kernel, rfl⟩
theorem dX7_readFormula_13 : DD cX7_readFormula 13 (.aload_n 1) 1 14 := ⟨by decide +kernel, rfl⟩
theorem dX7_readFormula_14 : DD cX7_readFormula 14 (.iconst 1) 1 15 := ⟨by decide +kernel, rfl⟩
theorem dX7_readFormula_15 : DD cX7_readFormula 15 (.putfield 165) 3 18 := ⟨by decide +kernel, rfl⟩
theorem dX7_readFormula_18 : DD cX7_readFormula 18 (.aload_n 0) 1 19 := ⟨by decide +kernel, rfl⟩
theorem dX7_readFormula_19 : DD cX7_readFormula 19 (.aload_n 1) 1 20 := ⟨by decide +kernel, rfl⟩
theorem dX7_readFormula_20 : DD cX7_readFormula 20 (.putfield 22) 3 23 := ⟨by decide +kernel, rfl⟩
theorem dX7_readFormula_23 : DD cX7_readFormula 23 (.aload_n 0) 1 24 := ⟨by decide +kernel, rfl⟩
theorem dX7_readFormula_24 : DD cX7_readFormula 24 (.iconst 0) 1 25 := ⟨by decide +kernel, rfl⟩
theorem dX7_readFormula_25 : DD cX7_readFormula 25 (.putfield 171) 3 28 := ⟨by decide +kernel, rfl⟩
theorem dX7_readFormula_28 : DD cX7_readFormula 28 (.aload_n 0) 1 29 := ⟨by decide +kernel, rfl⟩
theorem dX7_readFormula_29 : DD cX7_readFormula 29 (.getfield 29) 3 32 := ⟨by decide +kernel, rfl⟩
theorem dX7_readFormula_32 : DD cX7_readFormula 32 (.invokevirtual 80) 3 35 := ⟨by decide +kernel, rfl⟩
theorem dX7_readFormula_35 : DD cX7_readFormula 35 (.aload_n 0) 1 36 := ⟨by decide +kernel, rfl⟩
theorem dX7_readFormula_36 : DD cX7_readFormula 36 (.iconst 0) 1 37 := ⟨by decide +kernel, rfl⟩
theorem dX7_readFormula_37 : DD cX7_readFormula 37 (.invokevirtual 174) 3 40 := ⟨by decide +kernel, rfl⟩
theorem dX7_readFormula_40 : DD cX7_readFormula 40 (.ifCond .eq 16) 3 43 := ⟨by decide +kernel, rfl⟩
theorem dX7_readFormula_43 : DD cX7_readFormula 43 (.aload_n 0) 1 44 := ⟨by decide +kernel, rfl⟩
theorem dX7_readFormula_44 : DD cX7_readFormula 44 (.bipush 59) 2 46 := ⟨by decide +kernel, rfl⟩
theorem dX7_readFormula_46 : DD cX7_readFormula 46 (.invokevirtual 116) 3 49 := ⟨by decide +kernel, rfl⟩
theorem dX7_readFormula_49 : DD cX7_readFormula 49 (.ifCond .eq 7) 3 52 := ⟨by decide +kernel, rfl⟩
theorem dX7_readFormula_52 : DD cX7_readFormula 52 (.iconst 1) 1 53 := ⟨by decide +kernel, rfl⟩
theorem dX7_readFormula_53 : DD cX7_readFormula 53 (.goto 4) 3 56 := ⟨by decide +kernel, rfl⟩
theorem dX7_readFormula_56 : DD cX7_readFormula 56 (.iconst 0) 1 57 := ⟨by decide +kernel, rfl⟩
theorem dX7_readFormula_57 : DD cX7_readFormula 57 (.ireturn) 1 58 := ⟨by decide +kernel, rfl⟩
def fX7_readFormula (m : Mem) (x1 : Nat) : Option (Int32 × Mem) := (gFm x1 (if (m.1 x1 3) = 0 then (pt (sI m x1 3 (1 : Int32)) fun m3 => (pt (sR m3 4 2 x1) fun m4 => (pt (sI m4 4 3 (0 : Int32)) fun m5 => (cV (fX10_advance m5) fun m7 => (cI (fX7_either 10 m7 (0 : Int32)) fun r8 m9 => (if r8 = 0 then (some ((0 : Int32), m9)) else (cI (fX7_pass m9 (59 : Int32)) fun r11 m12 => (if r11 = 0 then (some ((0 : Int32), m12)) else (some ((1 : Int32), m12)))))))))) else (cI (fX7_refuse m (2 : Int32)) fun r14 m15 => (tz r14 (some (r14, m15))))))
set_option maxHeartbeats 4000000 in
set_option maxRecDepth 100000 in
theorem kX7_readFormula (l : Launch) (G : Gt) (hD : ∀ m, va_D (inA G nC) (wC G m)) (m : Mem) (x1 : Nat) : ∀ a, fX7_readFormula m x1 = some a → Ct l G wC nC yX7_readFormula cX7_readFormula 2 (some .boolean) 101 [.ref (G.2.2 4), .ref (G.2.2 x1)] m (cvI a) := by
  refine ct_of (own := RX7) (ls0 := [some (.ref (G.2.2 4)), some (.ref (G.2.2 x1))]) (by decide) rfl rfl rfl (Nat.le_of_ble_eq_true rfl) hD (fun X h => ?_) l
  unfold fX7_readFormula
  refine j_aload_n h dX7_readFormula_0 rfl ?_
  refine j_gFm (fun hg1 => ?_)
  refine gC7_165 h hg1 dX7_readFormula_1 ?_
  refine j_if_eq (tgt := 13) h dX7_readFormula_4 (by decide) (fun c2 => ?_) (fun c2 => ?_)
  · refine j_aload_n h dX7_readFormula_13 rfl ?_
    refine j_iconst (v := (1 : Int32)) h dX7_readFormula_14 kiconst_1 ?_
    refine pC7_165 h hg1 rfl rfl dX7_readFormula_15 (fun m3 hm3 => ?_)
    refine j_aload_n h dX7_readFormula_18 rfl ?_
    refine j_aload_n h dX7_readFormula_19 rfl ?_
    refine pC7_22 h dX7_readFormula_20 (fun m4 hm4 => ?_)
    refine j_aload_n h dX7_readFormula_23 rfl ?_
    refine j_iconst (v := (0 : Int32)) h dX7_readFormula_24 kiconst_0 ?_
    refine pC7_171 h dX7_readFormula_25 (fun m5 hm5 => ?_)
    refine j_aload_n h dX7_readFormula_28 rfl ?_
    refine gC7_29 h dX7_readFormula_29 ?_
    refine j_callVV (q0 := 1) (ci := 10) h [] (kX10_advance _ G h.2.2.2.2.2.2.2.2.2.2 m5) okX10_advance inX10_advance ml7_80 rfl rfl rfl rfl (by decide) (by decide) (Nat.le_of_ble_eq_true rfl) rfl dX7_readFormula_32 (fun m7 hm7 => ?_)
    refine j_aload_n h dX7_readFormula_35 rfl ?_
    refine j_iconst (v := (0 : Int32)) h dX7_readFormula_36 kiconst_0 ?_
    refine j_callVI (q0 := 4) (ci := 7) h [.int (0 : Int32)] (kX7_either G h.2.2.2.2.2.2.2.2.2.2 10 _ m7 (0 : Int32)) okX7_readEither inX7_readEither ml7_174 rfl rfl rfl rfl (by decide) (by decide) (Nat.le_of_ble_eq_true rfl) rfl dX7_readFormula_37 (fun r8 m9 hr8 => ?_)
    refine j_if_eq (tgt := 56) h dX7_readFormula_40 (by decide) (fun c10 => ?_) (fun c10 => ?_)
    · refine j_iconst (v := (0 : Int32)) h dX7_readFormula_56 kiconst_0 ?_
      exact j_zretB h rfl rfl dX7_readFormula_57
    · refine j_aload_n h dX7_readFormula_43 rfl ?_
      refine j_bipush (v := (59 : Int32)) h dX7_readFormula_44 kbipush_59 ?_
      refine j_callVI (q0 := 4) (ci := 7) h [.int (59 : Int32)] (kX7_pass _ G h.2.2.2.2.2.2.2.2.2.2 m9 (59 : Int32)) okX7_pass inX7_pass ml7_116 rfl rfl rfl rfl (by decide) (by decide) (Nat.le_of_ble_eq_true rfl) rfl dX7_readFormula_46 (fun r11 m12 hr11 => ?_)
      refine j_if_eq (tgt := 56) h dX7_readFormula_49 (by decide) (fun c13 => ?_) (fun c13 => ?_)
      · refine j_iconst (v := (0 : Int32)) h dX7_readFormula_56 kiconst_0 ?_
        exact j_zretB h rfl rfl dX7_readFormula_57
      · refine j_iconst (v := (1 : Int32)) h dX7_readFormula_52 kiconst_1 ?_
        refine j_goto (tgt := 57) h dX7_readFormula_53 (by decide) ?_
        exact j_zretB h rfl rfl dX7_readFormula_57
  · refine j_aload_n h dX7_readFormula_7 rfl ?_
    refine j_iconst (v := (2 : Int32)) h dX7_readFormula_8 kiconst_2 ?_
    refine j_callVI (q0 := 4) (ci := 7) h [.int (2 : Int32)] (kX7_refuse _ G h.2.2.2.2.2.2.2.2.2.2 m (2 : Int32)) okX7_refuse inX7_refuse ml7_73 rfl rfl rfl rfl (by decide) (by decide) (Nat.le_of_ble_eq_true rfl) rfl dX7_readFormula_9 (fun r14 m15 hr14 => ?_)
    exact j_zret h rfl dX7_readFormula_12
