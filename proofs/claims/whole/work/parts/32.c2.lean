theorem dX9_within_0 : DD cX9_within 0 (.iload_n 1) 1 1 := ⟨by decide +kernel, rfl⟩
theorem dX9_within_1 : DD cX9_within 1 (.iload_n 0) 1 2 := ⟨by decide +kernel, rfl⟩
theorem dX9_within_2 : DD cX9_within 2 (.iload_n 2) 1 3 := ⟨by decide +kernel, rfl⟩
theorem dX9_within_3 : DD cX9_within 3 (.invokestatic 90) 3 6 := ⟨by decide +kernel, rfl⟩
theorem dX9_within_6 : DD cX9_within 6 (.invokestatic 96) 3 9 := ⟨by decide +kernel, rfl⟩
theorem dX9_within_9 : DD cX9_within 9 (.ireturn) 1 10 := ⟨by decide +kernel, rfl⟩
def fX9_within (x0 : Int32) (x1 : Int32) (x2 : Int32) : Option Int32 := (some (imax x1 (imin x0 x2)))
set_option maxHeartbeats 4000000 in
set_option maxRecDepth 100000 in
theorem kX9_within (l : Launch) (G : Gt) (hD : ∀ m, va_D (inA G nC) (wC G m)) (m : Mem) (x0 : Int32) (x1 : Int32) (x2 : Int32) : ∀ a, fX9_within x0 x1 x2 = some a → Ct l G wC nC yX9_within cX9_within 3 (some .int) 2 [.int x0, .int x1, .int x2] m ((cvP m) a) := by
  refine ct_of (own := RX9) (ls0 := [some (.int x0), some (.int x1), some (.int x2)]) (by decide) rfl rfl rfl (Nat.le_of_ble_eq_true rfl) hD (fun X h => ?_) l
  unfold fX9_within
  refine j_iload_n h dX9_within_0 rfl ?_
  refine j_iload_n h dX9_within_1 rfl ?_
  refine j_iload_n h dX9_within_2 rfl ?_
  refine j_mmin h ml9_90 (Nat.le_of_ble_eq_true rfl) rfl (by decide) dX9_within_3 ?_
  refine j_mmax h ml9_96 (Nat.le_of_ble_eq_true rfl) rfl (by decide) dX9_within_6 ?_
  exact j_iret h rfl dX9_within_9
theorem dX9_reckonSun_0 : DD cX9_reckonSun 0 (.aload_n 0) 1 1 := ⟨by decide +kernel, rfl⟩
theorem dX9_reckonSun_1 : DD cX9_reckonSun 1 (.getfield 21) 3 4 := ⟨by decide +kernel, rfl⟩
theorem dX9_reckonSun_4 : DD cX9_reckonSun 4 (.getfield 69) 3 7 := ⟨by decide +kernel, rfl⟩
theorem dX9_reckonSun_7 : DD cX9_reckonSun 7 (.getfield 73) 3 10 := ⟨by decide +kernel, rfl⟩
theorem dX9_reckonSun_10 : DD cX9_reckonSun 10 (.ifCond .eq 20) 3 13 := ⟨by decide +kernel, rfl⟩
theorem dX9_reckonSun_13 : DD cX9_reckonSun 13 (.aload_n 0) 1 14 := ⟨by decide +kernel, rfl⟩
theorem dX9_reckonSun_14 : DD cX9_reckonSun 14 (.getfield 21) 3 17 := ⟨by decide +kernel, rfl⟩
theorem dX9_reckonSun_17 : DD cX9_reckonSun 17 (.getfield 69) 3 20 := ⟨by decide +kernel, rfl⟩
theorem dX9_reckonSun_20 : DD cX9_reckonSun 20 (.iload_n 1) 1 21 := ⟨by decide +kernel, rfl⟩
theorem dX9_reckonSun_21 : DD cX9_reckonSun 21 (.iconst 0) 1 22 := ⟨by decide +kernel, rfl⟩
theorem dX9_reckonSun_22 : DD cX9_reckonSun 22 (.iconst 0) 1 23 := ⟨by decide +kernel, rfl⟩
theorem dX9_reckonSun_23 : DD cX9_reckonSun 23 (.iconst 0) 1 24 := ⟨by decide +kernel, rfl⟩
theorem dX9_reckonSun_24 : DD cX9_reckonSun 24 (.invokevirtual 79) 3 27 := ⟨by decide +kernel, rfl⟩
theorem dX9_reckonSun_27 : DD cX9_reckonSun 27 (.goto 5) 3 30 := ⟨by decide +kernel, rfl⟩
theorem dX9_reckonSun_30 : DD cX9_reckonSun 30 (.bipush 6) 2 32 := ⟨by decide +kernel, rfl⟩
theorem dX9_reckonSun_32 : DD cX9_reckonSun 32 (.istore_n 2) 1 33 := ⟨by decide +kernel, rfl⟩
theorem dX9_reckonSun_33 : DD cX9_reckonSun 33 (.aload_n 0) 1 34 := ⟨by decide +kernel, rfl⟩
theorem dX9_reckonSun_34 : DD cX9_reckonSun 34 (.getfield 21) 3 37 := ⟨by decide +kernel, rfl⟩
theorem dX9_reckonSun_37 : DD cX9_reckonSun 37 (.getfield 83) 3 40 := ⟨by decide +kernel, rfl⟩
theorem dX9_reckonSun_40 : DD cX9_reckonSun 40 (.getfield 73) 3 43 := ⟨by decide +kernel, rfl⟩
theorem dX9_reckonSun_43 : DD cX9_reckonSun 43 (.ifCond .eq 20) 3 46 := ⟨by decide +kernel, rfl⟩
theorem dX9_reckonSun_46 : DD cX9_reckonSun 46 (.aload_n 0) 1 47 := ⟨by decide +kernel, rfl⟩
theorem dX9_reckonSun_47 : DD cX9_reckonSun 47 (.getfield 21) 3 50 := ⟨by decide +kernel, rfl⟩
theorem dX9_reckonSun_50 : DD cX9_reckonSun 50 (.getfield 83) 3 53 := ⟨by decide +kernel, rfl⟩
theorem dX9_reckonSun_53 : DD cX9_reckonSun 53 (.iload_n 1) 1 54 := ⟨by decide +kernel, rfl⟩
theorem dX9_reckonSun_54 : DD cX9_reckonSun 54 (.iconst 0) 1 55 := ⟨by decide +kernel, rfl⟩
theorem dX9_reckonSun_55 : DD cX9_reckonSun 55 (.iconst 0) 1 56 := ⟨by decide +kernel, rfl⟩
theorem dX9_reckonSun_56 : DD cX9_reckonSun 56 (.iconst 0) 1 57 := ⟨by decide +kernel, rfl⟩
theorem dX9_reckonSun_57 : DD cX9_reckonSun 57 (.invokevirtual 79) 3 60 := ⟨by decide +kernel, rfl⟩
theorem dX9_reckonSun_60 : DD cX9_reckonSun 60 (.goto 5) 3 63 := ⟨by decide +kernel, rfl⟩
theorem dX9_reckonSun_63 : DD cX9_reckonSun 63 (.bipush 18) 2 65 := ⟨by decide +kernel, rfl⟩
theorem dX9_reckonSun_65 : DD cX9_reckonSun 65 (.istore_n 3) 1 66 := ⟨by decide +kernel, rfl⟩
theorem dX9_reckonSun_66 : DD cX9_reckonSun 66 (.iload_n 2) 1 67 := ⟨by decide +kernel, rfl⟩
theorem dX9_reckonSun_67 : DD cX9_reckonSun 67 (.iconst 0) 1 68 := ⟨by decide +kernel, rfl⟩
theorem dX9_reckonSun_68 : DD cX9_reckonSun 68 (.bipush 11) 2 70 := ⟨by decide +kernel, rfl⟩
theorem dX9_reckonSun_70 : DD cX9_reckonSun 70 (.invokestatic 86) 3 73 := ⟨by decide +kernel, rfl⟩
theorem dX9_reckonSun_73 : DD cX9_reckonSun 73 (.bipush 32) 2 75 := ⟨by decide +kernel, rfl⟩
theorem dX9_reckonSun_75 : DD cX9_reckonSun 75 (.imul) 1 76 := ⟨by decide +kernel, rfl⟩
theorem dX9_reckonSun_76 : DD cX9_reckonSun 76 (.iload_n 3) 1 77 := ⟨by decide +kernel, rfl⟩
theorem dX9_reckonSun_77 : DD cX9_reckonSun 77 (.bipush 12) 2 79 := ⟨by decide +kernel, rfl⟩
theorem dX9_reckonSun_79 : DD cX9_reckonSun 79 (.bipush 23) 2 81 := ⟨by decide +kernel, rfl⟩
theorem dX9_reckonSun_81 : DD cX9_reckonSun 81 (.invokestatic 86) 3 84 := ⟨by decide +kernel, rfl⟩
theorem dX9_reckonSun_84 : DD cX9_reckonSun 84 (.iadd) 1 85 := ⟨by decide +kernel, rfl⟩
theorem dX9_reckonSun_85 : DD cX9_reckonSun 85 (.ireturn) 1 86 := ⟨by decide +kernel, rfl⟩
def fX9_reckonSun (m : Mem) (x1 : Int32) : Option (Int32 × Mem) := (gPl (m.2.2 26 1) (if (m.1 ((m.2.2 26 1) + 12) 3) = 0 then (if (m.1 ((m.2.2 26 1) + 15) 3) = 0 then (cP (fX9_within (6 : Int32) (0 : Int32) (11 : Int32)) fun r4 => (cP (fX9_within (18 : Int32) (12 : Int32) (23 : Int32)) fun r6 => (some (((r4 * (32 : Int32)) + r6), m)))) else (cI (fX3_valueOf m ((m.2.2 26 1) + 15) x1 (0 : Int32) (0 : Int32) (0 : Int32)) fun r8 m9 => (cP (fX9_within (6 : Int32) (0 : Int32) (11 : Int32)) fun r10 => (cP (fX9_within r8 (12 : Int32) (23 : Int32)) fun r12 => (some (((r10 * (32 : Int32)) + r12), m9)))))) else (cI (fX3_valueOf m ((m.2.2 26 1) + 12) x1 (0 : Int32) (0 : Int32) (0 : Int32)) fun r14 m15 => (gPl (m15.2.2 26 1) (if (m15.1 ((m15.2.2 26 1) + 15) 3) = 0 then (cP (fX9_within r14 (0 : Int32) (11 : Int32)) fun r18 => (cP (fX9_within (18 : Int32) (12 : Int32) (23 : Int32)) fun r20 => (some (((r18 * (32 : Int32)) + r20), m15)))) else (cI (fX3_valueOf m15 ((m15.2.2 26 1) + 15) x1 (0 : Int32) (0 : Int32) (0 : Int32)) fun r22 m23 => (cP (fX9_within r14 (0 : Int32) (11 : Int32)) fun r24 => (cP (fX9_within r22 (12 : Int32) (23 : Int32)) fun r26 => (some (((r24 * (32 : Int32)) + r26), m23))))))))))
set_option maxHeartbeats 4000000 in
set_option maxRecDepth 100000 in
theorem kX9_reckonSun (l : Launch) (G : Gt) (hD : ∀ m, va_D (inA G nC) (wC G m)) (m : Mem) (x1 : Int32) : ∀ a, fX9_reckonSun m x1 = some a → Ct l G wC nC yX9_reckonSun cX9_reckonSun 4 (some .int) 3 [.ref (G.2.2 26), .int x1] m (cvI a) := by
  refine ct_of (own := RX9) (ls0 := [some (.ref (G.2.2 26)), some (.int x1), none, none]) (by decide) rfl rfl rfl (Nat.le_of_ble_eq_true rfl) hD (fun X h => ?_) l
  unfold fX9_reckonSun
  refine j_aload_n h dX9_reckonSun_0 rfl ?_
  refine gC9_21 h dX9_reckonSun_1 ?_
  refine j_gPl (fun hg1 => ?_)
  refine gC9_69 h hg1 dX9_reckonSun_4 ?_
  refine gC9_73 h (fm_pl12 hg1) dX9_reckonSun_7 ?_
  refine j_if_eq (tgt := 30) h dX9_reckonSun_10 (by decide) (fun c2 => ?_) (fun c2 => ?_)
  · refine j_bipush (v := (6 : Int32)) h dX9_reckonSun_30 kbipush_6 ?_
    refine j_istore_n h dX9_reckonSun_32 rfl rfl ?_
    refine j_aload_n h dX9_reckonSun_33 rfl ?_
    refine gC9_21 h dX9_reckonSun_34 ?_
    refine gC9_83 h hg1 dX9_reckonSun_37 ?_
    refine gC9_73 h (fm_pl15 hg1) dX9_reckonSun_40 ?_
    refine j_if_eq (tgt := 63) h dX9_reckonSun_43 (by decide) (fun c3 => ?_) (fun c3 => ?_)
    · refine j_bipush (v := (18 : Int32)) h dX9_reckonSun_63 kbipush_18 ?_
      refine j_istore_n h dX9_reckonSun_65 rfl rfl ?_
      refine j_iload_n h dX9_reckonSun_66 rfl ?_
      refine j_iconst (v := (0 : Int32)) h dX9_reckonSun_67 kiconst_0 ?_
      refine j_bipush (v := (11 : Int32)) h dX9_reckonSun_68 kbipush_11 ?_
      refine j_callSP h [.int (6 : Int32), .int (0 : Int32), .int (11 : Int32)] (kX9_within _ G h.2.2.2.2.2.2.2.2.2.2 m (6 : Int32) (0 : Int32) (11 : Int32)) okX9_within stX9_within ml9_86 rfl rfl (by decide) (by decide) (Nat.le_of_ble_eq_true rfl) rfl dX9_reckonSun_70 (fun r4 hr4 => ?_)
      refine j_bipush (v := (32 : Int32)) h dX9_reckonSun_73 kbipush_32 ?_
      refine j_imul h dX9_reckonSun_75 ?_
      refine j_iload_n h dX9_reckonSun_76 rfl ?_
      refine j_bipush (v := (12 : Int32)) h dX9_reckonSun_77 kbipush_12 ?_
      refine j_bipush (v := (23 : Int32)) h dX9_reckonSun_79 kbipush_23 ?_
      refine j_callSP h [.int (18 : Int32), .int (12 : Int32), .int (23 : Int32)] (kX9_within _ G h.2.2.2.2.2.2.2.2.2.2 m (18 : Int32) (12 : Int32) (23 : Int32)) okX9_within stX9_within ml9_86 rfl rfl (by decide) (by decide) (Nat.le_of_ble_eq_true rfl) rfl dX9_reckonSun_81 (fun r6 hr6 => ?_)
      refine j_iadd h dX9_reckonSun_84 ?_
      exact j_iret h rfl dX9_reckonSun_85
    · refine j_aload_n h dX9_reckonSun_46 rfl ?_
      refine gC9_21 h dX9_reckonSun_47 ?_
      refine gC9_83 h hg1 dX9_reckonSun_50 ?_
      refine j_iload_n h dX9_reckonSun_53 rfl ?_
      refine j_iconst (v := (0 : Int32)) h dX9_reckonSun_54 kiconst_0 ?_
      refine j_iconst (v := (0 : Int32)) h dX9_reckonSun_55 kiconst_0 ?_
      refine j_iconst (v := (0 : Int32)) h dX9_reckonSun_56 kiconst_0 ?_
      refine j_callVI (q0 := ((m.2.2 26 1) + 15)) (ci := 3) h [.int x1, .int (0 : Int32), .int (0 : Int32), .int (0 : Int32)] (kX3_valueOf _ G h.2.2.2.2.2.2.2.2.2.2 m ((m.2.2 26 1) + 15) x1 (0 : Int32) (0 : Int32) (0 : Int32)) okX3_valueOf inX3_valueOf ml9_79 rfl (at_Fm (fm_pl15 hg1)) rfl rfl (by decide) (by decide) (Nat.le_of_ble_eq_true rfl) rfl dX9_reckonSun_57 (fun r8 m9 hr8 => ?_)
      refine j_goto (tgt := 65) h dX9_reckonSun_60 (by decide) ?_
      refine j_istore_n h dX9_reckonSun_65 rfl rfl ?_
      refine j_iload_n h dX9_reckonSun_66 rfl ?_
      refine j_iconst (v := (0 : Int32)) h dX9_reckonSun_67 kiconst_0 ?_
      refine j_bipush (v := (11 : Int32)) h dX9_reckonSun_68 kbipush_11 ?_
      refine j_callSP h [.int (6 : Int32), .int (0 : Int32), .int (11 : Int32)] (kX9_within _ G h.2.2.2.2.2.2.2.2.2.2 m9 (6 : Int32) (0 : Int32) (11 : Int32)) okX9_within stX9_within ml9_86 rfl rfl (by decide) (by decide) (Nat.le_of_ble_eq_true rfl) rfl dX9_reckonSun_70 (fun r10 hr10 => ?_)
      refine j_bipush (v := (32 : Int32)) h dX9_reckonSun_73 kbipush_32 ?_
      refine j_imul h dX9_reckonSun_75 ?_
      refine j_iload_n h dX9_reckonSun_76 rfl ?_
      refine j_bipush (v := (12 : Int32)) h dX9_reckonSun_77 kbipush_12 ?_
      refine j_bipush (v := (23 : Int32)) h dX9_reckonSun_79 kbipush_23 ?_
      refine j_callSP h [.int r8, .int (12 : Int32), .int (23 : Int32)] (kX9_within _ G h.2.2.2.2.2.2.2.2.2.2 m9 r8 (12 : Int32) (23 : Int32)) okX9_within stX9_within ml9_86 rfl rfl (by decide) (by decide) (Nat.le_of_ble_eq_true rfl) rfl dX9_reckonSun_81 (fun r12 hr12 => ?_)
      refine j_iadd h dX9_reckonSun_84 ?_
      exact j_iret h rfl dX9_reckonSun_85
  · refine j_aload_n h dX9_reckonSun_13 rfl ?_
    refine gC9_21 h dX9_reckonSun_14 ?_
    refine gC9_69 h hg1 dX9_reckonSun_17 ?_
    refine j_iload_n h dX9_reckonSun_20 rfl ?_
    refine j_iconst (v := (0 : Int32)) h dX9_reckonSun_21 kiconst_0 ?_
    refine j_iconst (v := (0 : Int32)) h dX9_reckonSun_22 kiconst_0 ?_
    refine j_iconst (v := (0 : Int32)) h dX9_reckonSun_23 kiconst_0 ?_
    refine j_callVI (q0 := ((m.2.2 26 1) + 12)) (ci := 3) h [.int x1, .int (0 : Int32), .int (0 : Int32), .int (0 : Int32)] (kX3_valueOf _ G h.2.2.2.2.2.2.2.2.2.2 m ((m.2.2 26 1) + 12) x1 (0 : Int32) (0 : Int32) (0 : Int32)) okX3_valueOf inX3_valueOf ml9_79 rfl (at_Fm (fm_pl12 hg1)) rfl rfl (by decide) (by decide) (Nat.le_of_ble_eq_true rfl) rfl dX9_reckonSun_24 (fun r14 m15 hr14 => ?_)
    refine j_goto (tgt := 32) h dX9_reckonSun_27 (by decide) ?_
    refine j_istore_n h dX9_reckonSun_32 rfl rfl ?_
    refine j_aload_n h dX9_reckonSun_33 rfl ?_
    refine gC9_21 h dX9_reckonSun_34 ?_
    refine j_gPl (fun hg16 => ?_)
    refine gC9_83 h hg16 dX9_reckonSun_37 ?_
    refine gC9_73 h (fm_pl15 hg16) dX9_reckonSun_40 ?_
    refine j_if_eq (tgt := 63) h dX9_reckonSun_43 (by decide) (fun c17 => ?_) (fun c17 => ?_)
    · refine j_bipush (v := (18 : Int32)) h dX9_reckonSun_63 kbipush_18 ?_
      refine j_istore_n h dX9_reckonSun_65 rfl rfl ?_
      refine j_iload_n h dX9_reckonSun_66 rfl ?_
      refine j_iconst (v := (0 : Int32)) h dX9_reckonSun_67 kiconst_0 ?_
      refine j_bipush (v := (11 : Int32)) h dX9_reckonSun_68 kbipush_11 ?_
      refine j_callSP h [.int r14, .int (0 : Int32), .int (11 : Int32)] (kX9_within _ G h.2.2.2.2.2.2.2.2.2.2 m15 r14 (0 : Int32) (11 : Int32)) okX9_within stX9_within ml9_86 rfl rfl (by decide) (by decide) (Nat.le_of_ble_eq_true rfl) rfl dX9_reckonSun_70 (fun r18 hr18 => ?_)
      refine j_bipush (v := (32 : Int32)) h dX9_reckonSun_73 kbipush_32 ?_
      refine j_imul h dX9_reckonSun_75 ?_
      refine j_iload_n h dX9_reckonSun_76 rfl ?_
      refine j_bipush (v := (12 : Int32)) h dX9_reckonSun_77 kbipush_12 ?_
      refine j_bipush (v := (23 : Int32)) h dX9_reckonSun_79 kbipush_23 ?_
      refine j_callSP h [.int (18 : Int32), .int (12 : Int32), .int (23 : Int32)] (kX9_within _ G h.2.2.2.2.2.2.2.2.2.2 m15 (18 : Int32) (12 : Int32) (23 : Int32)) okX9_within stX9_within ml9_86 rfl rfl (by decide) (by decide) (Nat.le_of_ble_eq_true rfl) rfl dX9_reckonSun_81 (fun r20 hr20 => ?_)
      refine j_iadd h dX9_reckonSun_84 ?_
      exact j_iret h rfl dX9_reckonSun_85
    · refine j_aload_n h dX9_reckonSun_46 rfl ?_
      refine gC9_21 h dX9_reckonSun_47 ?_
      refine gC9_83 h hg16 dX9_reckonSun_50 ?_
      refine j_iload_n h dX9_reckonSun_53 rfl ?_
      refine j_iconst (v := (0 : Int32)) h dX9_reckonSun_54 kiconst_0 ?_
      refine j_iconst (v := (0 : Int32)) h dX9_reckonSun_55 kiconst_0 ?_
      refine j_iconst (v := (0 : Int32)) h dX9_reckonSun_56 kiconst_0 ?_
      refine j_callVI (q0 := ((m15.2.2 26 1) + 15)) (ci := 3) h [.int x1, .int (0 : Int32), .int (0 : Int32), .int (0 : Int32)] (kX3_valueOf _ G h.2.2.2.2.2.2.2.2.2.2 m15 ((m15.2.2 26 1) + 15) x1 (0 : Int32) (0 : Int32) (0 : Int32)) okX3_valueOf inX3_valueOf ml9_79 rfl (at_Fm (fm_pl15 hg16)) rfl rfl (by decide) (by decide) (Nat.le_of_ble_eq_true rfl) rfl dX9_reckonSun_57 (fun r22 m23 hr22 => ?_)
      refine j_goto (tgt := 65) h dX9_reckonSun_60 (by decide) ?_
      refine j_istore_n h dX9_reckonSun_65 rfl rfl ?_
      refine j_iload_n h dX9_reckonSun_66 rfl ?_
      refine j_iconst (v := (0 : Int32)) h dX9_reckonSun_67 kiconst_0 ?_
      refine j_bipush (v := (11 : Int32)) h dX9_reckonSun_68 kbipush_11 ?_
      refine j_callSP h [.int r14, .int (0 : Int32), .int (11 : Int32)] (kX9_within _ G h.2.2.2.2.2.2.2.2.2.2 m23 r14 (0 : Int32) (11 : Int32)) okX9_within stX9_within ml9_86 rfl rfl (by decide) (by decide) (Nat.le_of_ble_eq_true rfl) rfl dX9_reckonSun_70 (fun r24 hr24 => ?_)
      refine j_bipush (v := (32 : Int32)) h dX9_reckonSun_73 kbipush_32 ?_
      refine j_imul h dX9_reckonSun_75 ?_
      refine j_iload_n h dX9_reckonSun_76 rfl ?_
      refine j_bipush (v := (12 : Int32)) h dX9_reckonSun_77 kbipush_12 ?_
      refine j_bipush (v := (23 : Int32)) h dX9_reckonSun_79 kbipush_23 ?_
      refine j_callSP h [.int r22, .int (12 : Int32), .int (23 : Int32)] (kX9_within _ G h.2.2.2.2.2.2.2.2.2.2 m23 r22 (12 : Int32) (23 : Int32)) okX9_within stX9_within ml9_86 rfl rfl (by decide) (by decide) (Nat.le_of_ble_eq_true rfl) rfl dX9_reckonSun_81 (fun r26 hr26 => ?_)
      refine j_iadd h dX9_reckonSun_84 ?_
      exact j_iret h rfl dX9_reckonSun_85
theorem dX2_hoursAround_0 : DD cX2_hoursAround 0 (.iconst 0) 1 1 := ⟨by decide +kernel, rfl⟩
theorem dX2_hoursAround_1 : DD cX2_hoursAround 1 (.istore_n 1) 1 2 := ⟨by decide +kernel, rfl⟩
theorem dX2_hoursAround_2 : DD cX2_hoursAround 2 (.bipush (-2)) 2 4 := ⟨by decide +kernel, rfl⟩
theorem dX2_hoursAround_4 : DD cX2_hoursAround 4 (.istore_n 2) 1 5 := ⟨by decide +kernel, rfl⟩
theorem dX2_hoursAround_5 : DD cX2_hoursAround 5 (.iload_n 2) 1 6 := ⟨by decide +kernel, rfl⟩
theorem dX2_hoursAround_6 : DD cX2_hoursAround 6 (.iconst 2) 1 7 := ⟨by decide +kernel, rfl⟩
theorem dX2_hoursAround_7 : DD cX2_hoursAround 7 (.if_icmp .gt 23) 3 10 := ⟨by decide +kernel, rfl⟩
theorem dX2_hoursAround_10 : DD cX2_hoursAround 10 (.iload_n 1) 1 11 := ⟨by decide +kernel, rfl⟩
theorem dX2_hoursAround_11 : DD cX2_hoursAround 11 (.iconst 1) 1 12 := ⟨by decide +kernel, rfl⟩
theorem dX2_hoursAround_12 : DD cX2_hoursAround 12 (.iload_n 0) 1 13 := ⟨by decide +kernel, rfl⟩
theorem dX2_hoursAround_13 : DD cX2_hoursAround 13 (.iload_n 2) 1 14 := ⟨by decide +kernel, rfl⟩
theorem dX2_hoursAround_14 : DD cX2_hoursAround 14 (.iadd) 1 15 := ⟨by decide +kernel, rfl⟩
theorem dX2_hoursAround_15 : DD cX2_hoursAround 15 (.bipush 24) 2 17 := ⟨by decide +kernel, rfl⟩
theorem dX2_hoursAround_17 : DD cX2_hoursAround 17 (.iadd) 1 18 := ⟨by decide +kernel, rfl⟩
theorem dX2_hoursAround_18 : DD cX2_hoursAround 18 (.bipush 24) 2 20 := ⟨by decide +kernel, rfl⟩
theorem dX2_hoursAround_20 : DD cX2_hoursAround 20 (.irem) 1 21 := ⟨by decide +kernel, rfl⟩
theorem dX2_hoursAround_21 : DD cX2_hoursAround 21 (.ishl) 1 22 := ⟨by decide +kernel, rfl⟩
theorem dX2_hoursAround_22 : DD cX2_hoursAround 22 (.ior) 1 23 := ⟨by decide +kernel, rfl⟩
theorem dX2_hoursAround_23 : DD cX2_hoursAround 23 (.istore_n 1) 1 24 := ⟨by decide +kernel, rfl⟩
theorem dX2_hoursAround_24 : DD cX2_hoursAround 24 (.iinc 2 1) 3 27 := ⟨by decide +kernel, rfl⟩
theorem dX2_hoursAround_27 : DD cX2_hoursAround 27 (.goto (-22)) 3 30 := ⟨by decide +kernel, rfl⟩
theorem dX2_hoursAround_30 : DD cX2_hoursAround 30 (.iload_n 1) 1 31 := ⟨by decide +kernel, rfl⟩
theorem dX2_hoursAround_31 : DD cX2_hoursAround 31 (.ireturn) 1 32 := ⟨by decide +kernel, rfl⟩
def gX2_hoursAround : Nat → Int32 → Int32 → Int32 → Option Int32
  | 0, _, _, _ => none
  | f + 1, x0, x1, x2 => (if (2 : Int32) < x2 then (some x1) else (nm (x1 ||| ((1 : Int32) <<< ((((x0 + x2) + (24 : Int32)) - ((x0 + x2) + (24 : Int32)) / (24 : Int32) * (24 : Int32)) &&& 31))) fun v2 => (gX2_hoursAround f x0 v2 (x2 + (1 : Int32)))))
def fX2_hoursAround (x0 : Int32) : Option Int32 := (gX2_hoursAround 5000 x0 (0 : Int32) (-2 : Int32))
set_option maxHeartbeats 4000000 in
set_option maxRecDepth 100000 in
theorem wX2_hoursAround {X : Cx} {G : Gt} (h : OkX (X, G, wC, nC) cX2_hoursAround RX2 3 (some .int) 1) (m : Mem) : ∀ f : Nat, (∀ (x0 : Int32) (x1 : Int32) (x2 : Int32), JR (X, G, wC, nC) (cvP m) m 5 [some (.int x0), some (.int x1), some (.int x2)] [] (gX2_hoursAround f x0 x1 x2)) := by
  intro f
  induction f with
  | zero => exact (fun _ _ _ => j_none)
  | succ f ih =>
    intro x0 x1 x2
    rw [gX2_hoursAround]
    refine j_iload_n h dX2_hoursAround_5 rfl ?_
    refine j_iconst (v := (2 : Int32)) h dX2_hoursAround_6 kiconst_2 ?_
    refine j_icmp_gt (tgt := 30) h dX2_hoursAround_7 (by decide) (fun c1 => ?_) (fun c1 => ?_)
    · refine j_iload_n h dX2_hoursAround_30 rfl ?_
      exact j_iret h rfl dX2_hoursAround_31
    · refine j_iload_n h dX2_hoursAround_10 rfl ?_
      refine j_iconst (v := (1 : Int32)) h dX2_hoursAround_11 kiconst_1 ?_
      refine j_iload_n h dX2_hoursAround_12 rfl ?_
      refine j_iload_n h dX2_hoursAround_13 rfl ?_
      refine j_iadd h dX2_hoursAround_14 ?_
      refine j_bipush (v := (24 : Int32)) h dX2_hoursAround_15 kbipush_24 ?_
      refine j_iadd h dX2_hoursAround_17 ?_
      refine j_bipush (v := (24 : Int32)) h dX2_hoursAround_18 kbipush_24 ?_
      refine j_iremB h dX2_hoursAround_20 (by decide) ?_
      refine j_ishl h dX2_hoursAround_21 ?_
      refine j_ior h dX2_hoursAround_22 ?_
      refine j_nm (fun v2 hv2 => ?_)
      refine j_istore_n h dX2_hoursAround_23 rfl rfl ?_
      refine j_iinc (v := (x2 + (1 : Int32))) h dX2_hoursAround_24 rfl (by rw [kiconst_1]) rfl ?_
      refine j_goto (tgt := 5) h dX2_hoursAround_27 (by decide) ?_
      refine j_wk (ls' := [some (.int x0), some (.int v2), some (.int (x2 + (1 : Int32)))]) (And.intro rfl (And.intro rfl (And.intro rfl trivial))) ?_
      exact ih x0 v2 (x2 + (1 : Int32))
set_option maxHeartbeats 4000000 in
set_option maxRecDepth 100000 in
theorem kX2_hoursAround (l : Launch) (G : Gt) (hD : ∀ m, va_D (inA G nC) (wC G m)) (m : Mem) (x0 : Int32) : ∀ a, fX2_hoursAround x0 = some a → Ct l G wC nC yX2_hoursAround cX2_hoursAround 3 (some .int) 1 [.int x0] m ((cvP m) a) := by
  refine ct_of (own := RX2) (ls0 := [some (.int x0), none, none]) (by decide) rfl rfl rfl (Nat.le_of_ble_eq_true rfl) hD (fun X h => ?_) l
  unfold fX2_hoursAround
  refine j_iconst (v := (0 : Int32)) h dX2_hoursAround_0 kiconst_0 ?_
  refine j_istore_n h dX2_hoursAround_1 rfl rfl ?_
  refine j_bipush (v := (-2 : Int32)) h dX2_hoursAround_2 kbipush_m2 ?_
  refine j_istore_n h dX2_hoursAround_4 rfl rfl ?_
  refine j_wk (ls' := [some (.int x0), some (.int (0 : Int32)), some (.int (-2 : Int32))]) (And.intro rfl (And.intro rfl (And.intro rfl trivial))) ?_
  exact (wX2_hoursAround h m 5000) x0 (0 : Int32) (-2 : Int32)
theorem dX2_become_0 : DD cX2_become 0 (.aload_n 0) 1 1 := ⟨by decide +kernel, rfl⟩
theorem dX2_become_1 : DD cX2_become 1 (.iload_n 1) 1 2 := ⟨by decide +kernel, rfl⟩
theorem dX2_become_2 : DD cX2_become 2 (.putfield 9) 3 5 := ⟨by decide +kernel, rfl⟩
theorem dX2_become_5 : DD cX2_become 5 (.aload_n 0) 1 6 := ⟨by decide +kernel, rfl⟩
theorem dX2_become_6 : DD cX2_become 6 (.iload_n 2) 1 7 := ⟨by decide +kernel, rfl⟩
theorem dX2_become_7 : DD cX2_become 7 (.putfield 21) 3 10 := ⟨by decide +kernel, rfl⟩
theorem dX2_become_10 : DD cX2_become 10 (.aload_n 0) 1 11 := ⟨by decide +kernel, rfl⟩
theorem dX2_become_11 : DD cX2_become 11 (.iload_n 3) 1 12 := ⟨by decide +kernel, rfl⟩
theorem dX2_become_12 : DD cX2_become 12 (.putfield 24) 3 15 := ⟨by decide +kernel, rfl⟩
theorem dX2_become_15 : DD cX2_become 15 (.aload_n 0) 1 16 := ⟨by decide +kernel, rfl⟩
theorem dX2_become_16 : DD cX2_become 16 (.getfield 17) 3 19 := ⟨by decide +kernel, rfl⟩
theorem dX2_become_19 : DD cX2_become 19 (.iconst 0) 1 20 := ⟨by decide +kernel, rfl⟩
theorem dX2_become_20 : DD cX2_become 20 (.iconst 1) 1 21 := ⟨by decide +kernel, rfl⟩
theorem dX2_become_21 : DD cX2_become 21 (.aload_n 0) 1 22 := ⟨by decide +kernel, rfl⟩
theorem dX2_become_22 : DD cX2_become 22 (.getfield 24) 3 25 := ⟨by decide +kernel, rfl⟩
theorem dX2_become_25 : DD cX2_become 25 (.ishl) 1 26 := ⟨by decide +kernel, rfl⟩
theorem dX2_become_26 : DD cX2_become 26 (.iconst 1) 1 27 := ⟨by decide +kernel, rfl⟩
theorem dX2_become_27 : DD cX2_become 27 (.aload_n 0) 1 28 := ⟨by decide +kernel, rfl⟩
theorem dX2_become_28 : DD cX2_become 28 (.getfield 21) 3 31 := ⟨by decide +kernel, rfl⟩
theorem dX2_become_31 : DD cX2_become 31 (.ishl) 1 32 := ⟨by decide +kernel, rfl⟩
theorem dX2_become_32 : DD cX2_become 32 (.isub) 1 33 := ⟨by decide +kernel, rfl⟩
theorem dX2_become_33 : DD cX2_become 33 (.iastore) 1 34 := ⟨by decide +kernel, rfl⟩
theorem dX2_become_34 : DD cX2_become 34 (.aload_n 0) 1 35 := ⟨by decide +kernel, rfl⟩
theorem dX2_become_35 : DD cX2_become 35 (.getfield 17) 3 38 := ⟨by decide +kernel, rfl⟩
theorem dX2_become_38 : DD cX2_become 38 (.iconst 1) 1 39 := ⟨by decide +kernel, rfl⟩
theorem dX2_become_39 : DD cX2_become 39 (.ldc 27) 2 41 := ⟨by decide +kernel, rfl⟩
theorem dX2_become_41 : DD cX2_become 41 (.aload_n 0) 1 42 := ⟨by decide +kernel, rfl⟩
theorem dX2_become_42 : DD cX2_become 42 (.getfield 17) 3 45 := ⟨by decide +kernel, rfl⟩
theorem dX2_become_45 : DD cX2_become 45 (.iconst 0) 1 46 := ⟨by decide +kernel, rfl⟩
theorem dX2_become_46 : DD cX2_become 46 (.iaload) 1 47 := ⟨by decide +kernel, rfl⟩
theorem dX2_become_47 : DD cX2_become 47 (.iconst (-1)) 1 48 := ⟨by decide +kernel, rfl⟩
theorem dX2_become_48 : DD cX2_become 48 (.ixor) 1 49 := ⟨by decide +kernel, rfl⟩
theorem dX2_become_49 : DD cX2_become 49 (.iand) 1 50 := ⟨by decide +kernel, rfl⟩
theorem dX2_become_50 : DD cX2_become 50 (.iastore) 1 51 := ⟨by decide +kernel, rfl⟩
theorem dX2_become_51 : DD cX2_become 51 (.aload_n 0) 1 52 := ⟨by decide +kernel, rfl⟩
theorem dX2_become_52 : DD cX2_become 52 (.getfield 17) 3 55 := ⟨by decide +kernel, rfl⟩
theorem dX2_become_55 : DD cX2_become 55 (.iconst 2) 1 56 := ⟨by decide +kernel, rfl⟩
theorem dX2_become_56 : DD cX2_become 56 (.aload_n 0) 1 57 := ⟨by decide +kernel, rfl⟩
theorem dX2_become_57 : DD cX2_become 57 (.getfield 21) 3 60 := ⟨by decide +kernel, rfl⟩
theorem dX2_become_60 : DD cX2_become 60 (.invokestatic 28) 3 63 := ⟨by decide +kernel, rfl⟩
theorem dX2_become_63 : DD cX2_become 63 (.aload_n 0) 1 64 := ⟨by decide +kernel, rfl⟩
theorem dX2_become_64 : DD cX2_become 64 (.getfield 24) 3 67 := ⟨by decide +kernel, rfl⟩
theorem dX2_become_67 : DD cX2_become 67 (.invokestatic 28) 3 70 := ⟨by decide +kernel, rfl⟩
theorem dX2_become_70 : DD cX2_become 70 (.ior) 1 71 := ⟨by decide +kernel, rfl⟩
theorem dX2_become_71 : DD cX2_become 71 (.iastore) 1 72 := ⟨by decide +kernel, rfl⟩
theorem dX2_become_72 : DD cX2_become 72 (.return_) 1 73 := ⟨by decide +kernel, rfl⟩
def fX2_become (m : Mem) (x1 : Int32) (x2 : Int32) (x3 : Int32) : Option Mem := (pt (sI m 53 0 x1) fun m1 => (pt (sI m1 53 1 x2) fun m2 => (pt (sI m2 53 2 x3) fun m3 => (wr m3 54 3 (0 : Int32) (((1 : Int32) <<< ((m3.1 53 2) &&& 31)) - ((1 : Int32) <<< ((m3.1 53 1) &&& 31))) fun m4 => (rd (m4.1 54) 3 (0 : Int32) fun v5 => (wr m4 54 3 (1 : Int32) ((16777215 : Int32) &&& (v5 ^^^ (-1 : Int32))) fun m6 => (cP (fX2_hoursAround (m6.1 53 1)) fun r7 => (cP (fX2_hoursAround (m6.1 53 2)) fun r9 => (wr m6 54 3 (2 : Int32) (r7 ||| r9) fun m11 => (some m11))))))))))
set_option maxHeartbeats 4000000 in
set_option maxRecDepth 100000 in
theorem kX2_become (l : Launch) (G : Gt) (hD : ∀ m, va_D (inA G nC) (wC G m)) (m : Mem) (x1 : Int32) (x2 : Int32) (x3 : Int32) : ∀ a, fX2_become m x1 x2 x3 = some a → Ct l G wC nC yX2_become cX2_become 4 none 2 [.ref (G.2.2 53), .int x1, .int x2, .int x3] m (cvV a) := by
  refine ct_of (own := RX2) (ls0 := [some (.ref (G.2.2 53)), some (.int x1), some (.int x2), some (.int x3)]) (by decide) rfl rfl rfl (Nat.le_of_ble_eq_true rfl) hD (fun X h => ?_) l
  unfold fX2_become
  refine j_aload_n h dX2_become_0 rfl ?_
  refine j_iload_n h dX2_become_1 rfl ?_
  refine pC2_9 h dX2_become_2 (fun m1 hm1 => ?_)
  refine j_aload_n h dX2_become_5 rfl ?_
  refine j_iload_n h dX2_become_6 rfl ?_
  refine pC2_21 h dX2_become_7 (fun m2 hm2 => ?_)
  refine j_aload_n h dX2_become_10 rfl ?_
  refine j_iload_n h dX2_become_11 rfl ?_
  refine pC2_24 h dX2_become_12 (fun m3 hm3 => ?_)
  refine j_aload_n h dX2_become_15 rfl ?_
  refine gC2_17 h dX2_become_16 ?_
  refine j_iconst (v := (0 : Int32)) h dX2_become_19 kiconst_0 ?_
  refine j_iconst (v := (1 : Int32)) h dX2_become_20 kiconst_1 ?_
  refine j_aload_n h dX2_become_21 rfl ?_
  refine gC2_24 h dX2_become_22 ?_
  refine j_ishl h dX2_become_25 ?_
  refine j_iconst (v := (1 : Int32)) h dX2_become_26 kiconst_1 ?_
  refine j_aload_n h dX2_become_27 rfl ?_
  refine gC2_21 h dX2_become_28 ?_
  refine j_ishl h dX2_become_31 ?_
  refine j_isub h dX2_become_32 ?_
  refine bC_54 h dX2_become_33 (fun m4 hm4 => ?_)
  refine j_aload_n h dX2_become_34 rfl ?_
  refine gC2_17 h dX2_become_35 ?_
  refine j_iconst (v := (1 : Int32)) h dX2_become_38 kiconst_1 ?_
  refine j_ldc (v := (16777215 : Int32)) h dX2_become_39 cn2_27 ?_
  refine j_aload_n h dX2_become_41 rfl ?_
  refine gC2_17 h dX2_become_42 ?_
  refine j_iconst (v := (0 : Int32)) h dX2_become_45 kiconst_0 ?_
  refine aC_54 h dX2_become_46 (fun v5 hv5 => ?_)
  refine j_iconst (v := (-1 : Int32)) h dX2_become_47 kiconst_m1 ?_
  refine j_ixor h dX2_become_48 ?_
  refine j_iand h dX2_become_49 ?_
  refine bC_54 h dX2_become_50 (fun m6 hm6 => ?_)
  refine j_aload_n h dX2_become_51 rfl ?_
  refine gC2_17 h dX2_become_52 ?_
  refine j_iconst (v := (2 : Int32)) h dX2_become_55 kiconst_2 ?_
  refine j_aload_n h dX2_become_56 rfl ?_
  refine gC2_21 h dX2_become_57 ?_
  refine j_callSP h [.int (m6.1 53 1)] (kX2_hoursAround _ G h.2.2.2.2.2.2.2.2.2.2 m6 (m6.1 53 1)) okX2_hoursAround stX2_hoursAround ml2_28 rfl rfl (by decide) (by decide) (Nat.le_of_ble_eq_true rfl) rfl dX2_become_60 (fun r7 hr7 => ?_)
  refine j_aload_n h dX2_become_63 rfl ?_
  refine gC2_24 h dX2_become_64 ?_
  refine j_callSP h [.int (m6.1 53 2)] (kX2_hoursAround _ G h.2.2.2.2.2.2.2.2.2.2 m6 (m6.1 53 2)) okX2_hoursAround stX2_hoursAround ml2_28 rfl rfl (by decide) (by decide) (Nat.le_of_ble_eq_true rfl) rfl dX2_become_67 (fun r9 hr9 => ?_)
  refine j_ior h dX2_become_70 ?_
  refine bC_54 h dX2_become_71 (fun m11 hm11 => ?_)
  exact j_vret h rfl dX2_become_72
theorem dX9_dayOf_0 : DD cX9_dayOf 0 (.aload_n 0) 1 1 := ⟨by decide +kernel, rfl⟩
theorem dX9_dayOf_1 : DD cX9_dayOf 1 (.getfield 28) 3 4 := ⟨by decide +kernel, rfl⟩
theorem dX9_dayOf_4 : DD cX9_dayOf 4 (.getfield 36) 3 7 := ⟨by decide +kernel, rfl⟩
theorem dX9_dayOf_7 : DD cX9_dayOf 7 (.iload_n 1) 1 8 := ⟨by decide +kernel, rfl⟩
theorem dX9_dayOf_8 : DD cX9_dayOf 8 (.if_icmp .eq 49) 3 11 := ⟨by decide +kernel, rfl⟩
theorem dX9_dayOf_11 : DD cX9_dayOf 11 (.aload_n 0) 1 12 := ⟨by decide +kernel, rfl⟩
theorem dX9_dayOf_12 : DD cX9_dayOf 12 (.getfield 32) 3 15 := ⟨by decide +kernel, rfl⟩
theorem dX9_dayOf_15 : DD cX9_dayOf 15 (.iload_n 1) 1 16 := ⟨by decide +kernel, rfl⟩
theorem dX9_dayOf_16 : DD cX9_dayOf 16 (.iaload) 1 17 := ⟨by decide +kernel, rfl⟩
theorem dX9_dayOf_17 : DD cX9_dayOf 17 (.ifCond .ne 14) 3 20 := ⟨by decide +kernel, rfl⟩
theorem dX9_dayOf_20 : DD cX9_dayOf 20 (.aload_n 0) 1 21 := ⟨by decide +kernel, rfl⟩
theorem dX9_dayOf_21 : DD cX9_dayOf 21 (.getfield 32) 3 24 := ⟨by decide +kernel, rfl⟩
theorem dX9_dayOf_24 : DD cX9_dayOf 24 (.iload_n 1) 1 25 := ⟨by decide +kernel, rfl⟩
theorem dX9_dayOf_25 : DD cX9_dayOf 25 (.aload_n 0) 1 26 := ⟨by decide +kernel, rfl⟩
theorem dX9_dayOf_26 : DD cX9_dayOf 26 (.iload_n 1) 1 27 := ⟨by decide +kernel, rfl⟩
theorem dX9_dayOf_27 : DD cX9_dayOf 27 (.invokevirtual 56) 3 30 := ⟨by decide +kernel, rfl⟩
theorem dX9_dayOf_30 : DD cX9_dayOf 30 (.iastore) 1 31 := ⟨by decide +kernel, rfl⟩
theorem dX9_dayOf_31 : DD cX9_dayOf 31 (.aload_n 0) 1 32 := ⟨by decide +kernel, rfl⟩
theorem dX9_dayOf_32 : DD cX9_dayOf 32 (.getfield 28) 3 35 := ⟨by decide +kernel, rfl⟩
theorem dX9_dayOf_35 : DD cX9_dayOf 35 (.iload_n 1) 1 36 := ⟨by decide +kernel, rfl⟩
theorem dX9_dayOf_36 : DD cX9_dayOf 36 (.aload_n 0) 1 37 := ⟨by decide +kernel, rfl⟩
theorem dX9_dayOf_37 : DD cX9_dayOf 37 (.getfield 32) 3 40 := ⟨by decide +kernel, rfl⟩
theorem dX9_dayOf_40 : DD cX9_dayOf 40 (.iload_n 1) 1 41 := ⟨by decide +kernel, rfl⟩
theorem dX9_dayOf_41 : DD cX9_dayOf 41 (.iaload) 1 42 := ⟨by decide +kernel, rfl⟩
theorem dX9_dayOf_42 : DD cX9_dayOf 42 (.bipush 32) 2 44 := ⟨by decide +kernel, rfl⟩
theorem dX9_dayOf_44 : DD cX9_dayOf 44 (.idiv) 1 45 := ⟨by decide +kernel, rfl⟩
theorem dX9_dayOf_45 : DD cX9_dayOf 45 (.aload_n 0) 1 46 := ⟨by decide +kernel, rfl⟩
theorem dX9_dayOf_46 : DD cX9_dayOf 46 (.getfield 32) 3 49 := ⟨by decide +kernel, rfl⟩
theorem dX9_dayOf_49 : DD cX9_dayOf 49 (.iload_n 1) 1 50 := ⟨by decide +kernel, rfl⟩
theorem dX9_dayOf_50 : DD cX9_dayOf 50 (.iaload) 1 51 := ⟨by decide +kernel, rfl⟩
theorem dX9_dayOf_51 : DD cX9_dayOf 51 (.bipush 32) 2 53 := ⟨by decide +kernel, rfl⟩
theorem dX9_dayOf_53 : DD cX9_dayOf 53 (.irem) 1 54 := ⟨by decide +kernel, rfl⟩
theorem dX9_dayOf_54 : DD cX9_dayOf 54 (.invokevirtual 60) 3 57 := ⟨by decide +kernel, rfl⟩
theorem dX9_dayOf_57 : DD cX9_dayOf 57 (.aload_n 0) 1 58 := ⟨by decide +kernel, rfl⟩
theorem dX9_dayOf_58 : DD cX9_dayOf 58 (.getfield 28) 3 61 := ⟨by decide +kernel, rfl⟩
theorem dX9_dayOf_61 : DD cX9_dayOf 61 (.areturn) 1 62 := ⟨by decide +kernel, rfl⟩
def fX9_dayOf (m : Mem) (x1 : Int32) : Option (Nat × Mem) := (if (m.1 53 0) = x1 then (some (53, m)) else (rd (m.1 55) 365 x1 fun v2 => (if v2 = 0 then (cI (fX9_reckonSun m x1) fun r8 m9 => (wr m9 55 365 x1 r8 fun m10 => (rd (m10.1 55) 365 x1 fun v11 => (rd (m10.1 55) 365 x1 fun v12 => (cV (fX2_become m10 x1 (v11 / (32 : Int32)) (v12 - v12 / (32 : Int32) * (32 : Int32))) fun m14 => (some (53, m14))))))) else (rd (m.1 55) 365 x1 fun v4 => (rd (m.1 55) 365 x1 fun v5 => (cV (fX2_become m x1 (v4 / (32 : Int32)) (v5 - v5 / (32 : Int32) * (32 : Int32))) fun m7 => (some (53, m7))))))))
set_option maxHeartbeats 4000000 in
set_option maxRecDepth 100000 in
theorem kX9_dayOf (l : Launch) (G : Gt) (hD : ∀ m, va_D (inA G nC) (wC G m)) (m : Mem) (x1 : Int32) : ∀ a, fX9_dayOf m x1 = some a → Ct l G wC nC yX9_dayOf cX9_dayOf 2 (some (.object "HingeTown$Day")) 4 [.ref (G.2.2 26), .int x1] m ((cvR G) a) := by
  refine ct_of (own := RX9) (ls0 := [some (.ref (G.2.2 26)), some (.int x1)]) (by decide) rfl rfl rfl (Nat.le_of_ble_eq_true rfl) hD (fun X h => ?_) l
  unfold fX9_dayOf
  refine j_aload_n h dX9_dayOf_0 rfl ?_
  refine gC9_28 h dX9_dayOf_1 ?_
  refine gC9_36 h dX9_dayOf_4 ?_
  refine j_iload_n h dX9_dayOf_7 rfl ?_
  refine j_icmp_eq (tgt := 57) h dX9_dayOf_8 (by decide) (fun c1 => ?_) (fun c1 => ?_)
  · refine j_aload_n h dX9_dayOf_57 rfl ?_
    refine gC9_28 h dX9_dayOf_58 ?_
    exact j_aret h rfl dX9_dayOf_61
  · refine j_aload_n h dX9_dayOf_11 rfl ?_
    refine gC9_32 h dX9_dayOf_12 ?_
    refine j_iload_n h dX9_dayOf_15 rfl ?_
    refine aC_55 h dX9_dayOf_16 (fun v2 hv2 => ?_)
    refine j_if_ne (tgt := 31) h dX9_dayOf_17 (by decide) (fun c3 => ?_) (fun c3 => ?_)
    · refine j_aload_n h dX9_dayOf_31 rfl ?_
      refine gC9_28 h dX9_dayOf_32 ?_
      refine j_iload_n h dX9_dayOf_35 rfl ?_
      refine j_aload_n h dX9_dayOf_36 rfl ?_
      refine gC9_32 h dX9_dayOf_37 ?_
      refine j_iload_n h dX9_dayOf_40 rfl ?_
      refine aC_55 h dX9_dayOf_41 (fun v4 hv4 => ?_)
      refine j_bipush (v := (32 : Int32)) h dX9_dayOf_42 kbipush_32 ?_
      refine j_idivB h dX9_dayOf_44 (by decide) ?_
      refine j_aload_n h dX9_dayOf_45 rfl ?_
      refine gC9_32 h dX9_dayOf_46 ?_
      refine j_iload_n h dX9_dayOf_49 rfl ?_
      refine aC_55 h dX9_dayOf_50 (fun v5 hv5 => ?_)
      refine j_bipush (v := (32 : Int32)) h dX9_dayOf_51 kbipush_32 ?_
      refine j_iremB h dX9_dayOf_53 (by decide) ?_
      refine j_callVV (q0 := 53) (ci := 2) h [.int x1, .int (v4 / (32 : Int32)), .int (v5 - v5 / (32 : Int32) * (32 : Int32))] (kX2_become _ G h.2.2.2.2.2.2.2.2.2.2 m x1 (v4 / (32 : Int32)) (v5 - v5 / (32 : Int32) * (32 : Int32))) okX2_become inX2_become ml9_60 rfl rfl rfl rfl (by decide) (by decide) (Nat.le_of_ble_eq_true rfl) rfl dX9_dayOf_54 (fun m7 hm7 => ?_)
      refine j_aload_n h dX9_dayOf_57 rfl ?_
      refine gC9_28 h dX9_dayOf_58 ?_
      exact j_aret h rfl dX9_dayOf_61
    · refine j_aload_n h dX9_dayOf_20 rfl ?_
      refine gC9_32 h dX9_dayOf_21 ?_
      refine j_iload_n h dX9_dayOf_24 rfl ?_
      refine j_aload_n h dX9_dayOf_25 rfl ?_
      refine j_iload_n h dX9_dayOf_26 rfl ?_
      refine j_callVI (q0 := 26) (ci := 9) h [.int x1] (kX9_reckonSun _ G h.2.2.2.2.2.2.2.2.2.2 m x1) okX9_reckonSun inX9_reckonSun ml9_56 rfl rfl rfl rfl (by decide) (by decide) (Nat.le_of_ble_eq_true rfl) rfl dX9_dayOf_27 (fun r8 m9 hr8 => ?_)
      refine bC_55 h dX9_dayOf_30 (fun m10 hm10 => ?_)
      refine j_aload_n h dX9_dayOf_31 rfl ?_
      refine gC9_28 h dX9_dayOf_32 ?_
      refine j_iload_n h dX9_dayOf_35 rfl ?_
      refine j_aload_n h dX9_dayOf_36 rfl ?_
      refine gC9_32 h dX9_dayOf_37 ?_
      refine j_iload_n h dX9_dayOf_40 rfl ?_
      refine aC_55 h dX9_dayOf_41 (fun v11 hv11 => ?_)
      refine j_bipush (v := (32 : Int32)) h dX9_dayOf_42 kbipush_32 ?_
      refine j_idivB h dX9_dayOf_44 (by decide) ?_
      refine j_aload_n h dX9_dayOf_45 rfl ?_
      refine gC9_32 h dX9_dayOf_46 ?_
      refine j_iload_n h dX9_dayOf_49 rfl ?_
      refine aC_55 h dX9_dayOf_50 (fun v12 hv12 => ?_)
      refine j_bipush (v := (32 : Int32)) h dX9_dayOf_51 kbipush_32 ?_
      refine j_iremB h dX9_dayOf_53 (by decide) ?_
      refine j_callVV (q0 := 53) (ci := 2) h [.int x1, .int (v11 / (32 : Int32)), .int (v12 - v12 / (32 : Int32) * (32 : Int32))] (kX2_become _ G h.2.2.2.2.2.2.2.2.2.2 m10 x1 (v11 / (32 : Int32)) (v12 - v12 / (32 : Int32) * (32 : Int32))) okX2_become inX2_become ml9_60 rfl rfl rfl rfl (by decide) (by decide) (Nat.le_of_ble_eq_true rfl) rfl dX9_dayOf_54 (fun m14 hm14 => ?_)
      refine j_aload_n h dX9_dayOf_57 rfl ?_
      refine gC9_28 h dX9_dayOf_58 ?_
      exact j_aret h rfl dX9_dayOf_61
theorem dX9_today_0 : DD cX9_today 0 (.aload_n 0) 1 1 := ⟨by decide +kernel, rfl⟩
theorem dX9_today_1 : DD cX9_today 1 (.aload_n 0) 1 2 := ⟨by decide +kernel, rfl⟩
theorem dX9_today_2 : DD cX9_today 2 (.getfield 14) 3 5 := ⟨by decide +kernel, rfl⟩
theorem dX9_today_5 : DD cX9_today 5 (.getfield 64) 3 8 := ⟨by decide +kernel, rfl⟩
theorem dX9_today_8 : DD cX9_today 8 (.invokevirtual 65) 3 11 := ⟨by decide +kernel, rfl⟩
theorem dX9_today_11 : DD cX9_today 11 (.areturn) 1 12 := ⟨by decide +kernel, rfl⟩
def fX9_today (m : Mem) : Option (Nat × Mem) := (cR (fX9_dayOf m (m.1 27 6)) fun r1 m2 => (gEq r1 53 (some (53, m2))))
set_option maxHeartbeats 4000000 in
set_option maxRecDepth 100000 in
theorem kX9_today (l : Launch) (G : Gt) (hD : ∀ m, va_D (inA G nC) (wC G m)) (m : Mem) : ∀ a, fX9_today m = some a → Ct l G wC nC yX9_today cX9_today 1 (some (.object "HingeTown$Day")) 5 [.ref (G.2.2 26)] m ((cvR G) a) := by
  refine ct_of (own := RX9) (ls0 := [some (.ref (G.2.2 26))]) (by decide) rfl rfl rfl (Nat.le_of_ble_eq_true rfl) hD (fun X h => ?_) l
  unfold fX9_today
  refine j_aload_n h dX9_today_0 rfl ?_
  refine j_aload_n h dX9_today_1 rfl ?_
  refine gC9_14 h dX9_today_2 ?_
  refine gC9_64 h dX9_today_5 ?_
  refine j_callVR (q0 := 26) (ci := 9) h [.int (m.1 27 6)] (kX9_dayOf _ G h.2.2.2.2.2.2.2.2.2.2 m (m.1 27 6)) okX9_dayOf inX9_dayOf ml9_65 rfl rfl rfl rfl (by decide) (by decide) (Nat.le_of_ble_eq_true rfl) rfl dX9_today_8 (fun r1 m2 hr1 => ?_)
  refine j_gEq (fun hg3 => ?_)
  subst hg3
  exact j_aret h rfl dX9_today_11
theorem dX1_placeOf_0 : DD cX1_placeOf 0 (.iload_n 0) 1 1 := ⟨by decide +kernel, rfl⟩
theorem dX1_placeOf_1 : DD cX1_placeOf 1 (.iconst 3) 1 2 := ⟨by decide +kernel, rfl⟩
theorem dX1_placeOf_2 : DD cX1_placeOf 2 (.imul) 1 3 := ⟨by decide +kernel, rfl⟩
theorem dX1_placeOf_3 : DD cX1_placeOf 3 (.iload_n 1) 1 4 := ⟨by decide +kernel, rfl⟩
theorem dX1_placeOf_4 : DD cX1_placeOf 4 (.iadd) 1 5 := ⟨by decide +kernel, rfl⟩
theorem dX1_placeOf_5 : DD cX1_placeOf 5 (.ireturn) 1 6 := ⟨by decide +kernel, rfl⟩
def fX1_placeOf (x0 : Int32) (x1 : Int32) : Option Int32 := (some ((x0 * (3 : Int32)) + x1))
set_option maxHeartbeats 4000000 in
set_option maxRecDepth 100000 in
theorem kX1_placeOf (l : Launch) (G : Gt) (hD : ∀ m, va_D (inA G nC) (wC G m)) (m : Mem) (x0 : Int32) (x1 : Int32) : ∀ a, fX1_placeOf x0 x1 = some a → Ct l G wC nC yX1_placeOf cX1_placeOf 2 (some .int) 1 [.int x0, .int x1] m ((cvP m) a) := by
  refine ct_of (own := RX1) (ls0 := [some (.int x0), some (.int x1)]) (by decide) rfl rfl rfl (Nat.le_of_ble_eq_true rfl) hD (fun X h => ?_) l
  unfold fX1_placeOf
  refine j_iload_n h dX1_placeOf_0 rfl ?_
  refine j_iconst (v := (3 : Int32)) h dX1_placeOf_1 kiconst_3 ?_
  refine j_imul h dX1_placeOf_2 ?_
  refine j_iload_n h dX1_placeOf_3 rfl ?_
  refine j_iadd h dX1_placeOf_4 ?_
  exact j_iret h rfl dX1_placeOf_5
theorem dX1_weighMeet_0 : DD cX1_weighMeet 0 (.iconst 0) 1 1 := ⟨by decide +kernel, rfl⟩
theorem dX1_weighMeet_1 : DD cX1_weighMeet 1 (.istore 4) 2 3 := ⟨by decide +kernel, rfl⟩
theorem dX1_weighMeet_3 : DD cX1_weighMeet 3 (.iload 4) 2 5 := ⟨by decide +kernel, rfl⟩
theorem dX1_weighMeet_5 : DD cX1_weighMeet 5 (.bipush 9) 2 7 := ⟨by decide +kernel, rfl⟩
theorem dX1_weighMeet_7 : DD cX1_weighMeet 7 (.if_icmp .ge 158) 3 10 := ⟨by decide +kernel, rfl⟩
theorem dX1_weighMeet_10 : DD cX1_weighMeet 10 (.iload 4) 2 12 := ⟨by decide +kernel, rfl⟩
theorem dX1_weighMeet_12 : DD cX1_weighMeet 12 (.iconst 3) 1 13 := ⟨by decide +kernel, rfl⟩
theorem dX1_weighMeet_13 : DD cX1_weighMeet 13 (.idiv) 1 14 := ⟨by decide +kernel, rfl⟩
theorem dX1_weighMeet_14 : DD cX1_weighMeet 14 (.istore 5) 2 16 := ⟨by decide +kernel, rfl⟩
theorem dX1_weighMeet_16 : DD cX1_weighMeet 16 (.iload 4) 2 18 := ⟨by decide +kernel, rfl⟩
theorem dX1_weighMeet_18 : DD cX1_weighMeet 18 (.iconst 3) 1 19 := ⟨by decide +kernel, rfl⟩
theorem dX1_weighMeet_19 : DD cX1_weighMeet 19 (.irem) 1 20 := ⟨by decide +kernel, rfl⟩
theorem dX1_weighMeet_20 : DD cX1_weighMeet 20 (.istore 6) 2 22 := ⟨by decide +kernel, rfl⟩
theorem dX1_weighMeet_22 : DD cX1_weighMeet 22 (.aload_n 3) 1 23 := ⟨by decide +kernel, rfl⟩
theorem dX1_weighMeet_23 : DD cX1_weighMeet 23 (.getfield 89) 3 26 := ⟨by decide +kernel, rfl⟩
theorem dX1_weighMeet_26 : DD cX1_weighMeet 26 (.iload 5) 2 28 := ⟨by decide +kernel, rfl⟩
theorem dX1_weighMeet_28 : DD cX1_weighMeet 28 (.iaload) 1 29 := ⟨by decide +kernel, rfl⟩
theorem dX1_weighMeet_29 : DD cX1_weighMeet 29 (.aload_n 3) 1 30 := ⟨by decide +kernel, rfl⟩
theorem dX1_weighMeet_30 : DD cX1_weighMeet 30 (.getfield 89) 3 33 := ⟨by decide +kernel, rfl⟩
theorem dX1_weighMeet_33 : DD cX1_weighMeet 33 (.iload 6) 2 35 := ⟨by decide +kernel, rfl⟩
theorem dX1_weighMeet_35 : DD cX1_weighMeet 35 (.iaload) 1 36 := ⟨by decide +kernel, rfl⟩
theorem dX1_weighMeet_36 : DD cX1_weighMeet 36 (.iand) 1 37 := ⟨by decide +kernel, rfl⟩
theorem dX1_weighMeet_37 : DD cX1_weighMeet 37 (.istore 7) 2 39 := ⟨by decide +kernel, rfl⟩
theorem dX1_weighMeet_39 : DD cX1_weighMeet 39 (.iload 7) 2 41 := ⟨by decide +kernel, rfl⟩
theorem dX1_weighMeet_41 : DD cX1_weighMeet 41 (.invokestatic 94) 3 44 := ⟨by decide +kernel, rfl⟩
theorem dX1_weighMeet_44 : DD cX1_weighMeet 44 (.aload_n 1) 1 45 := ⟨by decide +kernel, rfl⟩
theorem dX1_weighMeet_45 : DD cX1_weighMeet 45 (.getfield 100) 3 48 := ⟨by decide +kernel, rfl⟩
theorem dX1_weighMeet_48 : DD cX1_weighMeet 48 (.iload_n 2) 1 49 := ⟨by decide +kernel, rfl⟩
theorem dX1_weighMeet_49 : DD cX1_weighMeet 49 (.iaload) 1 50 := ⟨by decide +kernel, rfl⟩
theorem dX1_weighMeet_50 : DD cX1_weighMeet 50 (.if_icmp .lt 109) 3 53 := ⟨by decide +kernel, rfl⟩
theorem dX1_weighMeet_53 : DD cX1_weighMeet 53 (.aload_n 1) 1 54 := ⟨by decide +kernel, rfl⟩
theorem dX1_weighMeet_54 : DD cX1_weighMeet 54 (.getfield 101) 3 57 := ⟨by decide +kernel, rfl⟩
theorem dX1_weighMeet_57 : DD cX1_weighMeet 57 (.iload_n 2) 1 58 := ⟨by decide +kernel, rfl⟩
theorem dX1_weighMeet_58 : DD cX1_weighMeet 58 (.iaload) 1 59 := ⟨by decide +kernel, rfl⟩
theorem dX1_weighMeet_59 : DD cX1_weighMeet 59 (.iload 5) 2 61 := ⟨by decide +kernel, rfl⟩
theorem dX1_weighMeet_61 : DD cX1_weighMeet 61 (.invokestatic 104) 3 64 := ⟨by decide +kernel, rfl⟩
theorem dX1_weighMeet_64 : DD cX1_weighMeet 64 (.istore 8) 2 66 := ⟨by decide +kernel, rfl⟩
theorem dX1_weighMeet_66 : DD cX1_weighMeet 66 (.aload_n 1) 1 67 := ⟨by decide +kernel, rfl⟩
theorem dX1_weighMeet_67 : DD cX1_weighMeet 67 (.getfield 108) 3 70 := ⟨by decide +kernel, rfl⟩
theorem dX1_weighMeet_70 : DD cX1_weighMeet 70 (.iload_n 2) 1 71 := ⟨by decide +kernel, rfl⟩
theorem dX1_weighMeet_71 : DD cX1_weighMeet 71 (.iaload) 1 72 := ⟨by decide +kernel, rfl⟩
theorem dX1_weighMeet_72 : DD cX1_weighMeet 72 (.iload 6) 2 74 := ⟨by decide +kernel, rfl⟩
theorem dX1_weighMeet_74 : DD cX1_weighMeet 74 (.invokestatic 104) 3 77 := ⟨by decide +kernel, rfl⟩
theorem dX1_weighMeet_77 : DD cX1_weighMeet 77 (.istore 9) 2 79 := ⟨by decide +kernel, rfl⟩
theorem dX1_weighMeet_79 : DD cX1_weighMeet 79 (.aload_n 1) 1 80 := ⟨by decide +kernel, rfl⟩
theorem dX1_weighMeet_80 : DD cX1_weighMeet 80 (.getfield 111) 3 83 := ⟨by decide +kernel, rfl⟩
theorem dX1_weighMeet_83 : DD cX1_weighMeet 83 (.iload_n 2) 1 84 := ⟨by decide +kernel, rfl⟩
theorem dX1_weighMeet_84 : DD cX1_weighMeet 84 (.iaload) 1 85 := ⟨by decide +kernel, rfl⟩
theorem dX1_weighMeet_85 : DD cX1_weighMeet 85 (.istore 10) 2 87 := ⟨by decide +kernel, rfl⟩
theorem dX1_weighMeet_87 : DD cX1_weighMeet 87 (.aload_n 0) 1 88 := ⟨by decide +kernel, rfl⟩
theorem dX1_weighMeet_88 : DD cX1_weighMeet 88 (.getfield 19) 3 91 := ⟨by decide +kernel, rfl⟩
theorem dX1_weighMeet_91 : DD cX1_weighMeet 91 (.iload 8) 2 93 := ⟨by decide +kernel, rfl⟩
theorem dX1_weighMeet_93 : DD cX1_weighMeet 93 (.bipush 21) 2 95 := ⟨by decide +kernel, rfl⟩
theorem dX1_weighMeet_95 : DD cX1_weighMeet 95 (.imul) 1 96 := ⟨by decide +kernel, rfl⟩
theorem dX1_weighMeet_96 : DD cX1_weighMeet 96 (.iload 9) 2 98 := ⟨by decide +kernel, rfl⟩
theorem dX1_weighMeet_98 : DD cX1_weighMeet 98 (.iadd) 1 99 := ⟨by decide +kernel, rfl⟩
theorem dX1_weighMeet_99 : DD cX1_weighMeet 99 (.dup2) 1 100 := ⟨by decide +kernel, rfl⟩
theorem dX1_weighMeet_100 : DD cX1_weighMeet 100 (.iaload) 1 101 := ⟨by decide +kernel, rfl⟩
theorem dX1_weighMeet_101 : DD cX1_weighMeet 101 (.iload 10) 2 103 := ⟨by decide +kernel, rfl⟩
theorem dX1_weighMeet_103 : DD cX1_weighMeet 103 (.iadd) 1 104 := ⟨by decide +kernel, rfl⟩
theorem dX1_weighMeet_104 : DD cX1_weighMeet 104 (.iastore) 1 105 := ⟨by decide +kernel, rfl⟩
theorem dX1_weighMeet_105 : DD cX1_weighMeet 105 (.aload_n 0) 1 106 := ⟨by decide +kernel, rfl⟩
theorem dX1_weighMeet_106 : DD cX1_weighMeet 106 (.getfield 19) 3 109 := ⟨by decide +kernel, rfl⟩
theorem dX1_weighMeet_109 : DD cX1_weighMeet 109 (.iload 9) 2 111 := ⟨by decide +kernel, rfl⟩
theorem dX1_weighMeet_111 : DD cX1_weighMeet 111 (.bipush 21) 2 113 := ⟨by decide +kernel, rfl⟩
theorem dX1_weighMeet_113 : DD cX1_weighMeet 113 (.imul) 1 114 := ⟨by decide +kernel, rfl⟩
theorem dX1_weighMeet_114 : DD cX1_weighMeet 114 (.iload 8) 2 116 := ⟨by decide +kernel, rfl⟩
theorem dX1_weighMeet_116 : DD cX1_weighMeet 116 (.iadd) 1 117 := ⟨by decide +kernel, rfl⟩
theorem dX1_weighMeet_117 : DD cX1_weighMeet 117 (.dup2) 1 118 := ⟨by decide +kernel, rfl⟩
theorem dX1_weighMeet_118 : DD cX1_weighMeet 118 (.iaload) 1 119 := ⟨by decide +kernel, rfl⟩
theorem dX1_weighMeet_119 : DD cX1_weighMeet 119 (.iload 10) 2 121 := ⟨by decide +kernel, rfl⟩
theorem dX1_weighMeet_121 : DD cX1_weighMeet 121 (.iadd) 1 122 := ⟨by decide +kernel, rfl⟩
theorem dX1_weighMeet_122 : DD cX1_weighMeet 122 (.iastore) 1 123 := ⟨by decide +kernel, rfl⟩
theorem dX1_weighMeet_123 : DD cX1_weighMeet 123 (.aload_n 0) 1 124 := ⟨by decide +kernel, rfl⟩
theorem dX1_weighMeet_124 : DD cX1_weighMeet 124 (.getfield 22) 3 127 := ⟨by decide +kernel, rfl⟩
theorem dX1_weighMeet_127 : DD cX1_weighMeet 127 (.iload 8) 2 129 := ⟨by decide +kernel, rfl⟩
theorem dX1_weighMeet_129 : DD cX1_weighMeet 129 (.bipush 21) 2 131 := ⟨by decide +kernel, rfl⟩
theorem dX1_weighMeet_131 : DD cX1_weighMeet 131 (.imul) 1 132 := ⟨by decide +kernel, rfl⟩
theorem dX1_weighMeet_132 : DD cX1_weighMeet 132 (.iload 9) 2 134 := ⟨by decide +kernel, rfl⟩
theorem dX1_weighMeet_134 : DD cX1_weighMeet 134 (.iadd) 1 135 := ⟨by decide +kernel, rfl⟩
theorem dX1_weighMeet_135 : DD cX1_weighMeet 135 (.dup2) 1 136 := ⟨by decide +kernel, rfl⟩
theorem dX1_weighMeet_136 : DD cX1_weighMeet 136 (.iaload) 1 137 := ⟨by decide +kernel, rfl⟩
theorem dX1_weighMeet_137 : DD cX1_weighMeet 137 (.iload 10) 2 139 := ⟨by decide +kernel, rfl⟩
theorem dX1_weighMeet_139 : DD cX1_weighMeet 139 (.iadd) 1 140 := ⟨by decide +kernel, rfl⟩
theorem dX1_weighMeet_140 : DD cX1_weighMeet 140 (.iastore) 1 141 := ⟨by decide +kernel, rfl⟩
theorem dX1_weighMeet_141 : DD cX1_weighMeet 141 (.aload_n 0) 1 142 := ⟨by decide +kernel, rfl⟩
theorem dX1_weighMeet_142 : DD cX1_weighMeet 142 (.getfield 22) 3 145 := ⟨by decide +kernel, rfl⟩
theorem dX1_weighMeet_145 : DD cX1_weighMeet 145 (.iload 9) 2 147 := ⟨by decide +kernel, rfl⟩
theorem dX1_weighMeet_147 : DD cX1_weighMeet 147 (.bipush 21) 2 149 := ⟨by decide +kernel, rfl⟩
theorem dX1_weighMeet_149 : DD cX1_weighMeet 149 (.imul) 1 150 := ⟨by decide +kernel, rfl⟩
theorem dX1_weighMeet_150 : DD cX1_weighMeet 150 (.iload 8) 2 152 := ⟨by decide +kernel, rfl⟩
theorem dX1_weighMeet_152 : DD cX1_weighMeet 152 (.iadd) 1 153 := ⟨by decide +kernel, rfl⟩
theorem dX1_weighMeet_153 : DD cX1_weighMeet 153 (.dup2) 1 154 := ⟨by decide +kernel, rfl⟩
theorem dX1_weighMeet_154 : DD cX1_weighMeet 154 (.iaload) 1 155 := ⟨by decide +kernel, rfl⟩
theorem dX1_weighMeet_155 : DD cX1_weighMeet 155 (.iload 10) 2 157 := ⟨by decide +kernel, rfl⟩
theorem dX1_weighMeet_157 : DD cX1_weighMeet 157 (.iadd) 1 158 := ⟨by decide +kernel, rfl⟩
theorem dX1_weighMeet_158 : DD cX1_weighMeet 158 (.iastore) 1 159 := ⟨by decide +kernel, rfl⟩
theorem dX1_weighMeet_159 : DD cX1_weighMeet 159 (.iinc 4 1) 3 162 := ⟨by decide +kernel, rfl⟩
theorem dX1_weighMeet_162 : DD cX1_weighMeet 162 (.goto (-159)) 3 165 := ⟨by decide +kernel, rfl⟩
theorem dX1_weighMeet_165 : DD cX1_weighMeet 165 (.return_) 1 166 := ⟨by decide +kernel, rfl⟩
def gX1_weighMeet : Nat → Nat → Int32 → Int32 → Mem → Option Mem
  | 0, _, _, _, _ => none
  | f + 1, x1, x2, x4, m => (if (9 : Int32) ≤ x4 then (some m) else (nm (x4 / (3 : Int32)) fun v2 => (nm (x4 - x4 / (3 : Int32) * (3 : Int32)) fun v3 => (rd (m.1 54) 3 v2 fun v4 => (rd (m.1 54) 3 v3 fun v5 => (nm (v4 &&& v5) fun v6 => (cP (fJ6_bitCount_0f7a4 v6) fun r7 => (gPl x1 (rd (m.1 (x1 + 7)) 10 x2 fun v10 => (if r7 < v10 then (gX1_weighMeet f x1 x2 (x4 + (1 : Int32)) m) else (rd (m.1 (x1 + 5)) 10 x2 fun v12 => (cP (fX1_placeOf v12 v2) fun r13 => (rd (m.1 (x1 + 6)) 10 x2 fun v15 => (cP (fX1_placeOf v15 v3) fun r16 => (rd (m.1 (x1 + 8)) 10 x2 fun v18 => (nm ((r13 * (21 : Int32)) + r16) fun v19 => (rd (m.1 60) 441 v19 fun v20 => (wr m 60 441 v19 (v20 + v18) fun m21 => (nm ((r16 * (21 : Int32)) + r13) fun v22 => (rd (m21.1 60) 441 v22 fun v23 => (wr m21 60 441 v22 (v23 + v18) fun m24 => (nm ((r13 * (21 : Int32)) + r16) fun v25 => (rd (m24.1 61) 441 v25 fun v26 => (wr m24 61 441 v25 (v26 + v18) fun m27 => (nm ((r16 * (21 : Int32)) + r13) fun v28 => (rd (m27.1 61) 441 v28 fun v29 => (wr m27 61 441 v28 (v29 + v18) fun m30 => (gX1_weighMeet f x1 x2 (x4 + (1 : Int32)) m30))))))))))))))))))))))))))))
def fX1_weighMeet (m : Mem) (x1 : Nat) (x2 : Int32) : Option Mem := (gX1_weighMeet 5000 x1 x2 (0 : Int32) m)
set_option maxHeartbeats 4000000 in
set_option maxRecDepth 100000 in
theorem wX1_weighMeet {X : Cx} {G : Gt} (h : OkX (X, G, wC, nC) cX1_weighMeet RX1 11 none 2) : ∀ f : Nat, (∀ (x1 : Nat) (x2 : Int32) (x4 : Int32) (m : Mem), JR (X, G, wC, nC) cvV m 3 [some (.ref (G.2.2 58)), some (.ref (G.2.2 x1)), some (.int x2), some (.ref (G.2.2 53)), some (.int x4), none, none, none, none, none, none] [] (gX1_weighMeet f x1 x2 x4 m)) := by
  intro f
  induction f with
  | zero => exact (fun _ _ _ _ => j_none)
  | succ f ih =>
    intro x1 x2 x4 m
    rw [gX1_weighMeet]
    refine j_iload h dX1_weighMeet_3 rfl ?_
    refine j_bipush (v := (9 : Int32)) h dX1_weighMeet_5 kbipush_9 ?_
    refine j_icmp_ge (tgt := 165) h dX1_weighMeet_7 (by decide) (fun c1 => ?_) (fun c1 => ?_)
    · exact j_vret h rfl dX1_weighMeet_165
    · refine j_iload h dX1_weighMeet_10 rfl ?_
      refine j_iconst (v := (3 : Int32)) h dX1_weighMeet_12 kiconst_3 ?_
      refine j_idivB h dX1_weighMeet_13 (by decide) ?_
      refine j_nm (fun v2 hv2 => ?_)
      refine j_istore h dX1_weighMeet_14 rfl rfl ?_
      refine j_iload h dX1_weighMeet_16 rfl ?_
      refine j_iconst (v := (3 : Int32)) h dX1_weighMeet_18 kiconst_3 ?_
      refine j_iremB h dX1_weighMeet_19 (by decide) ?_
      refine j_nm (fun v3 hv3 => ?_)
      refine j_istore h dX1_weighMeet_20 rfl rfl ?_
      refine j_aload_n h dX1_weighMeet_22 rfl ?_
      refine gC1_89 h dX1_weighMeet_23 ?_
      refine j_iload h dX1_weighMeet_26 rfl ?_
      refine aC_54 h dX1_weighMeet_28 (fun v4 hv4 => ?_)
      refine j_aload_n h dX1_weighMeet_29 rfl ?_
      refine gC1_89 h dX1_weighMeet_30 ?_
      refine j_iload h dX1_weighMeet_33 rfl ?_
      refine aC_54 h dX1_weighMeet_35 (fun v5 hv5 => ?_)
      refine j_iand h dX1_weighMeet_36 ?_
      refine j_nm (fun v6 hv6 => ?_)
      refine j_istore h dX1_weighMeet_37 rfl rfl ?_
      refine j_iload h dX1_weighMeet_39 rfl ?_
      refine j_callSP h [.int v6] (kJ6_bitCount_0f7a4 _ G h.2.2.2.2.2.2.2.2.2.2 m v6) okJ6_bitCount_0f7a4 stJ6_bitCount_0f7a4 ml1_94 rfl rfl (by decide) (by decide) (Nat.le_of_ble_eq_true rfl) rfl dX1_weighMeet_41 (fun r7 hr7 => ?_)
      refine j_aload_n h dX1_weighMeet_44 rfl ?_
      refine j_gPl (fun hg9 => ?_)
      refine gC1_100 h hg9 dX1_weighMeet_45 ?_
      refine j_iload_n h dX1_weighMeet_48 rfl ?_
      refine aC_Pl7 h hg9 dX1_weighMeet_49 (fun v10 hv10 => ?_)
      refine j_icmp_lt (tgt := 159) h dX1_weighMeet_50 (by decide) (fun c11 => ?_) (fun c11 => ?_)
      · refine j_iinc (v := (x4 + (1 : Int32))) h dX1_weighMeet_159 rfl (by rw [kiconst_1]) rfl ?_
        refine j_goto (tgt := 3) h dX1_weighMeet_162 (by decide) ?_
        refine j_wk (ls' := [some (.ref (G.2.2 58)), some (.ref (G.2.2 x1)), some (.int x2), some (.ref (G.2.2 53)), some (.int (x4 + (1 : Int32))), none, none, none, none, none, none]) (And.intro rfl (And.intro rfl (And.intro rfl (And.intro rfl (And.intro rfl trivial))))) ?_
        exact ih x1 x2 (x4 + (1 : Int32)) m
      · refine j_aload_n h dX1_weighMeet_53 rfl ?_
        refine gC1_101 h hg9 dX1_weighMeet_54 ?_
        refine j_iload_n h dX1_weighMeet_57 rfl ?_
        refine aC_Pl5 h hg9 dX1_weighMeet_58 (fun v12 hv12 => ?_)
        refine j_iload h dX1_weighMeet_59 rfl ?_
        refine j_callSP h [.int v12, .int v2] (kX1_placeOf _ G h.2.2.2.2.2.2.2.2.2.2 m v12 v2) okX1_placeOf stX1_placeOf ml1_104 rfl rfl (by decide) (by decide) (Nat.le_of_ble_eq_true rfl) rfl dX1_weighMeet_61 (fun r13 hr13 => ?_)
        refine j_istore h dX1_weighMeet_64 rfl rfl ?_
        refine j_aload_n h dX1_weighMeet_66 rfl ?_
        refine gC1_108 h hg9 dX1_weighMeet_67 ?_
        refine j_iload_n h dX1_weighMeet_70 rfl ?_
        refine aC_Pl6 h hg9 dX1_weighMeet_71 (fun v15 hv15 => ?_)
        refine j_iload h dX1_weighMeet_72 rfl ?_
        refine j_callSP h [.int v15, .int v3] (kX1_placeOf _ G h.2.2.2.2.2.2.2.2.2.2 m v15 v3) okX1_placeOf stX1_placeOf ml1_104 rfl rfl (by decide) (by decide) (Nat.le_of_ble_eq_true rfl) rfl dX1_weighMeet_74 (fun r16 hr16 => ?_)
        refine j_istore h dX1_weighMeet_77 rfl rfl ?_
        refine j_aload_n h dX1_weighMeet_79 rfl ?_
        refine gC1_111 h hg9 dX1_weighMeet_80 ?_
        refine j_iload_n h dX1_weighMeet_83 rfl ?_
        refine aC_Pl8 h hg9 dX1_weighMeet_84 (fun v18 hv18 => ?_)
        refine j_istore h dX1_weighMeet_85 rfl rfl ?_
        refine j_aload_n h dX1_weighMeet_87 rfl ?_
        refine gC1_19 h dX1_weighMeet_88 ?_
        refine j_iload h dX1_weighMeet_91 rfl ?_
        refine j_bipush (v := (21 : Int32)) h dX1_weighMeet_93 kbipush_21 ?_
        refine j_imul h dX1_weighMeet_95 ?_
        refine j_iload h dX1_weighMeet_96 rfl ?_
        refine j_iadd h dX1_weighMeet_98 ?_
        refine j_nm (fun v19 hv19 => ?_)
        refine j_dup2 h dX1_weighMeet_99 rfl rfl ?_
        refine aC_60 h dX1_weighMeet_100 (fun v20 hv20 => ?_)
        refine j_iload h dX1_weighMeet_101 rfl ?_
        refine j_iadd h dX1_weighMeet_103 ?_
        refine bC_60 h dX1_weighMeet_104 (fun m21 hm21 => ?_)
        refine j_aload_n h dX1_weighMeet_105 rfl ?_
        refine gC1_19 h dX1_weighMeet_106 ?_
        refine j_iload h dX1_weighMeet_109 rfl ?_
        refine j_bipush (v := (21 : Int32)) h dX1_weighMeet_111 kbipush_21 ?_
        refine j_imul h dX1_weighMeet_113 ?_
        refine j_iload h dX1_weighMeet_114 rfl ?_
        refine j_iadd h dX1_weighMeet_116 ?_
        refine j_nm (fun v22 hv22 => ?_)
        refine j_dup2 h dX1_weighMeet_117 rfl rfl ?_
        refine aC_60 h dX1_weighMeet_118 (fun v23 hv23 => ?_)
        refine j_iload h dX1_weighMeet_119 rfl ?_
        refine j_iadd h dX1_weighMeet_121 ?_
        refine bC_60 h dX1_weighMeet_122 (fun m24 hm24 => ?_)
        refine j_aload_n h dX1_weighMeet_123 rfl ?_
        refine gC1_22 h dX1_weighMeet_124 ?_
        refine j_iload h dX1_weighMeet_127 rfl ?_
        refine j_bipush (v := (21 : Int32)) h dX1_weighMeet_129 kbipush_21 ?_
        refine j_imul h dX1_weighMeet_131 ?_
        refine j_iload h dX1_weighMeet_132 rfl ?_
        refine j_iadd h dX1_weighMeet_134 ?_
        refine j_nm (fun v25 hv25 => ?_)
        refine j_dup2 h dX1_weighMeet_135 rfl rfl ?_
        refine aC_61 h dX1_weighMeet_136 (fun v26 hv26 => ?_)
        refine j_iload h dX1_weighMeet_137 rfl ?_
        refine j_iadd h dX1_weighMeet_139 ?_
        refine bC_61 h dX1_weighMeet_140 (fun m27 hm27 => ?_)
        refine j_aload_n h dX1_weighMeet_141 rfl ?_
        refine gC1_22 h dX1_weighMeet_142 ?_
        refine j_iload h dX1_weighMeet_145 rfl ?_
        refine j_bipush (v := (21 : Int32)) h dX1_weighMeet_147 kbipush_21 ?_
        refine j_imul h dX1_weighMeet_149 ?_
        refine j_iload h dX1_weighMeet_150 rfl ?_
        refine j_iadd h dX1_weighMeet_152 ?_
        refine j_nm (fun v28 hv28 => ?_)
        refine j_dup2 h dX1_weighMeet_153 rfl rfl ?_
        refine aC_61 h dX1_weighMeet_154 (fun v29 hv29 => ?_)
        refine j_iload h dX1_weighMeet_155 rfl ?_
        refine j_iadd h dX1_weighMeet_157 ?_
        refine bC_61 h dX1_weighMeet_158 (fun m30 hm30 => ?_)
        refine j_iinc (v := (x4 + (1 : Int32))) h dX1_weighMeet_159 rfl (by rw [kiconst_1]) rfl ?_
        refine j_goto (tgt := 3) h dX1_weighMeet_162 (by decide) ?_
        refine j_wk (ls' := [some (.ref (G.2.2 58)), some (.ref (G.2.2 x1)), some (.int x2), some (.ref (G.2.2 53)), some (.int (x4 + (1 : Int32))), none, none, none, none, none, none]) (And.intro rfl (And.intro rfl (And.intro rfl (And.intro rfl (And.intro rfl trivial))))) ?_
        exact ih x1 x2 (x4 + (1 : Int32)) m30
set_option maxHeartbeats 4000000 in
set_option maxRecDepth 100000 in
theorem kX1_weighMeet (l : Launch) (G : Gt) (hD : ∀ m, va_D (inA G nC) (wC G m)) (m : Mem) (x1 : Nat) (x2 : Int32) : ∀ a, fX1_weighMeet m x1 x2 = some a → Ct l G wC nC yX1_weighMeet cX1_weighMeet 11 none 2 [.ref (G.2.2 58), .ref (G.2.2 x1), .int x2, .ref (G.2.2 53)] m (cvV a) := by
  refine ct_of (own := RX1) (ls0 := [some (.ref (G.2.2 58)), some (.ref (G.2.2 x1)), some (.int x2), some (.ref (G.2.2 53)), none, none, none, none, none, none, none]) (by decide) rfl rfl rfl (Nat.le_of_ble_eq_true rfl) hD (fun X h => ?_) l
  unfold fX1_weighMeet
  refine j_iconst (v := (0 : Int32)) h dX1_weighMeet_0 kiconst_0 ?_
  refine j_istore h dX1_weighMeet_1 rfl rfl ?_
  refine j_wk (ls' := [some (.ref (G.2.2 58)), some (.ref (G.2.2 x1)), some (.int x2), some (.ref (G.2.2 53)), some (.int (0 : Int32)), none, none, none, none, none, none]) (And.intro rfl (And.intro rfl (And.intro rfl (And.intro rfl (And.intro rfl trivial))))) ?_
  exact (wX1_weighMeet h 5000) x1 x2 (0 : Int32) m
theorem dX9_isQuiet_0 : DD cX9_isQuiet 0 (.aload_n 0) 1 1 := ⟨by decide +kernel, rfl⟩
theorem dX9_isQuiet_1 : DD cX9_isQuiet 1 (.getfield 14) 3 4 := ⟨by decide +kernel, rfl⟩
theorem dX9_isQuiet_4 : DD cX9_isQuiet 4 (.getfield 99) 3 7 := ⟨by decide +kernel, rfl⟩
theorem dX9_isQuiet_7 : DD cX9_isQuiet 7 (.iload_n 1) 1 8 := ⟨by decide +kernel, rfl⟩
theorem dX9_isQuiet_8 : DD cX9_isQuiet 8 (.ishr) 1 9 := ⟨by decide +kernel, rfl⟩
theorem dX9_isQuiet_9 : DD cX9_isQuiet 9 (.iconst 1) 1 10 := ⟨by decide +kernel, rfl⟩
theorem dX9_isQuiet_10 : DD cX9_isQuiet 10 (.iand) 1 11 := ⟨by decide +kernel, rfl⟩
theorem dX9_isQuiet_11 : DD cX9_isQuiet 11 (.iconst 1) 1 12 := ⟨by decide +kernel, rfl⟩
theorem dX9_isQuiet_12 : DD cX9_isQuiet 12 (.if_icmp .ne 7) 3 15 := ⟨by decide +kernel, rfl⟩
theorem dX9_isQuiet_15 : DD cX9_isQuiet 15 (.iconst 1) 1 16 := ⟨by decide +kernel, rfl⟩
theorem dX9_isQuiet_16 : DD cX9_isQuiet 16 (.goto 4) 3 19 := ⟨by decide +kernel, rfl⟩
theorem dX9_isQuiet_19 : DD cX9_isQuiet 19 (.iconst 0) 1 20 := ⟨by decide +kernel, rfl⟩
theorem dX9_isQuiet_20 : DD cX9_isQuiet 20 (.ireturn) 1 21 := ⟨by decide +kernel, rfl⟩
def fX9_isQuiet (m : Mem) (x1 : Int32) : Option Int32 := (if (((m.1 27 4) >>> (x1 &&& 31)) &&& (1 : Int32)) = (1 : Int32) then (some (1 : Int32)) else (some (0 : Int32)))
set_option maxHeartbeats 4000000 in
set_option maxRecDepth 100000 in
theorem kX9_isQuiet (l : Launch) (G : Gt) (hD : ∀ m, va_D (inA G nC) (wC G m)) (m : Mem) (x1 : Int32) : ∀ a, fX9_isQuiet m x1 = some a → Ct l G wC nC yX9_isQuiet cX9_isQuiet 2 (some .boolean) 1 [.ref (G.2.2 26), .int x1] m ((cvP m) a) := by
  refine ct_of (own := RX9) (ls0 := [some (.ref (G.2.2 26)), some (.int x1)]) (by decide) rfl rfl rfl (Nat.le_of_ble_eq_true rfl) hD (fun X h => ?_) l
  unfold fX9_isQuiet
  refine j_aload_n h dX9_isQuiet_0 rfl ?_
  refine gC9_14 h dX9_isQuiet_1 ?_
  refine gC9_99 h dX9_isQuiet_4 ?_
  refine j_iload_n h dX9_isQuiet_7 rfl ?_
  refine j_ishr h dX9_isQuiet_8 ?_
  refine j_iconst (v := (1 : Int32)) h dX9_isQuiet_9 kiconst_1 ?_
  refine j_iand h dX9_isQuiet_10 ?_
  refine j_iconst (v := (1 : Int32)) h dX9_isQuiet_11 kiconst_1 ?_
  refine j_icmp_ne (tgt := 19) h dX9_isQuiet_12 (by decide) (fun c1 => ?_) (fun c1 => ?_)
  · refine j_iconst (v := (0 : Int32)) h dX9_isQuiet_19 kiconst_0 ?_
    exact j_zretB h rfl rfl dX9_isQuiet_20
  · refine j_iconst (v := (1 : Int32)) h dX9_isQuiet_15 kiconst_1 ?_
    refine j_goto (tgt := 20) h dX9_isQuiet_16 (by decide) ?_
    exact j_zretB h rfl rfl dX9_isQuiet_20
theorem dX9_hurtOf_0 : DD cX9_hurtOf 0 (.aload_n 0) 1 1 := ⟨by decide +kernel, rfl⟩
theorem dX9_hurtOf_1 : DD cX9_hurtOf 1 (.getfield 21) 3 4 := ⟨by decide +kernel, rfl⟩
theorem dX9_hurtOf_4 : DD cX9_hurtOf 4 (.getfield 116) 3 7 := ⟨by decide +kernel, rfl⟩
theorem dX9_hurtOf_7 : DD cX9_hurtOf 7 (.aload_n 0) 1 8 := ⟨by decide +kernel, rfl⟩
theorem dX9_hurtOf_8 : DD cX9_hurtOf 8 (.getfield 21) 3 11 := ⟨by decide +kernel, rfl⟩
theorem dX9_hurtOf_11 : DD cX9_hurtOf 11 (.getfield 119) 3 14 := ⟨by decide +kernel, rfl⟩
theorem dX9_hurtOf_14 : DD cX9_hurtOf 14 (.iload_n 1) 1 15 := ⟨by decide +kernel, rfl⟩
theorem dX9_hurtOf_15 : DD cX9_hurtOf 15 (.iaload) 1 16 := ⟨by decide +kernel, rfl⟩
theorem dX9_hurtOf_16 : DD cX9_hurtOf 16 (.iaload) 1 17 := ⟨by decide +kernel, rfl⟩
theorem dX9_hurtOf_17 : DD cX9_hurtOf 17 (.aload_n 0) 1 18 := ⟨by decide +kernel, rfl⟩
theorem dX9_hurtOf_18 : DD cX9_hurtOf 18 (.getfield 21) 3 21 := ⟨by decide +kernel, rfl⟩
theorem dX9_hurtOf_21 : DD cX9_hurtOf 21 (.getfield 116) 3 24 := ⟨by decide +kernel, rfl⟩
theorem dX9_hurtOf_24 : DD cX9_hurtOf 24 (.iload_n 2) 1 25 := ⟨by decide +kernel, rfl⟩
theorem dX9_hurtOf_25 : DD cX9_hurtOf 25 (.iaload) 1 26 := ⟨by decide +kernel, rfl⟩
theorem dX9_hurtOf_26 : DD cX9_hurtOf 26 (.isub) 1 27 := ⟨by decide +kernel, rfl⟩
theorem dX9_hurtOf_27 : DD cX9_hurtOf 27 (.invokestatic 122) 3 30 := ⟨by decide +kernel, rfl⟩
theorem dX9_hurtOf_30 : DD cX9_hurtOf 30 (.istore 4) 2 32 := ⟨by decide +kernel, rfl⟩
theorem dX9_hurtOf_32 : DD cX9_hurtOf 32 (.aload_n 0) 1 33 := ⟨by decide +kernel, rfl⟩
theorem dX9_hurtOf_33 : DD cX9_hurtOf 33 (.getfield 21) 3 36 := ⟨by decide +kernel, rfl⟩
theorem dX9_hurtOf_36 : DD cX9_hurtOf 36 (.getfield 125) 3 39 := ⟨by decide +kernel, rfl⟩
theorem dX9_hurtOf_39 : DD cX9_hurtOf 39 (.iload_n 1) 1 40 := ⟨by decide +kernel, rfl⟩
theorem dX9_hurtOf_40 : DD cX9_hurtOf 40 (.iaload) 1 41 := ⟨by decide +kernel, rfl⟩
theorem dX9_hurtOf_41 : DD cX9_hurtOf 41 (.istore 5) 2 43 := ⟨by decide +kernel, rfl⟩
theorem dX9_hurtOf_43 : DD cX9_hurtOf 43 (.iload 5) 2 45 := ⟨by decide +kernel, rfl⟩
theorem dX9_hurtOf_45 : DD cX9_hurtOf 45 (.iload 4) 2 47 := ⟨by decide +kernel, rfl⟩
theorem dX9_hurtOf_47 : DD cX9_hurtOf 47 (.isub) 1 48 := ⟨by decide +kernel, rfl⟩
theorem dX9_hurtOf_48 : DD cX9_hurtOf 48 (.istore 6) 2 50 := ⟨by decide +kernel, rfl⟩
theorem dX9_hurtOf_50 : DD cX9_hurtOf 50 (.aload_n 0) 1 51 := ⟨by decide +kernel, rfl⟩
theorem dX9_hurtOf_51 : DD cX9_hurtOf 51 (.getfield 21) 3 54 := ⟨by decide +kernel, rfl⟩
theorem dX9_hurtOf_54 : DD cX9_hurtOf 54 (.getfield 128) 3 57 := ⟨by decide +kernel, rfl⟩
theorem dX9_hurtOf_57 : DD cX9_hurtOf 57 (.getfield 73) 3 60 := ⟨by decide +kernel, rfl⟩
theorem dX9_hurtOf_60 : DD cX9_hurtOf 60 (.ifCond .eq 32) 3 63 := ⟨by decide +kernel, rfl⟩
theorem dX9_hurtOf_63 : DD cX9_hurtOf 63 (.aload_n 0) 1 64 := ⟨by decide +kernel, rfl⟩
theorem dX9_hurtOf_64 : DD cX9_hurtOf 64 (.getfield 21) 3 67 := ⟨by decide +kernel, rfl⟩
theorem dX9_hurtOf_67 : DD cX9_hurtOf 67 (.getfield 128) 3 70 := ⟨by decide +kernel, rfl⟩
theorem dX9_hurtOf_70 : DD cX9_hurtOf 70 (.aload_n 3) 1 71 := ⟨by decide +kernel, rfl⟩
theorem dX9_hurtOf_71 : DD cX9_hurtOf 71 (.getfield 36) 3 74 := ⟨by decide +kernel, rfl⟩
theorem dX9_hurtOf_74 : DD cX9_hurtOf 74 (.aload_n 0) 1 75 := ⟨by decide +kernel, rfl⟩
theorem dX9_hurtOf_75 : DD cX9_hurtOf 75 (.getfield 21) 3 78 := ⟨by decide +kernel, rfl⟩
theorem dX9_hurtOf_78 : DD cX9_hurtOf 78 (.getfield 131) 3 81 := ⟨by decide +kernel, rfl⟩
theorem dX9_hurtOf_81 : DD cX9_hurtOf 81 (.iload_n 1) 1 82 := ⟨by decide +kernel, rfl⟩
theorem dX9_hurtOf_82 : DD cX9_hurtOf 82 (.iaload) 1 83 := ⟨by decide +kernel, rfl⟩
theorem dX9_hurtOf_83 : DD cX9_hurtOf 83 (.iload 5) 2 85 := ⟨by decide +kernel, rfl⟩
theorem dX9_hurtOf_85 : DD cX9_hurtOf 85 (.iload 4) 2 87 := ⟨by decide +kernel, rfl⟩
theorem dX9_hurtOf_87 : DD cX9_hurtOf 87 (.invokevirtual 79) 3 90 := ⟨by decide +kernel, rfl⟩
theorem dX9_hurtOf_90 : DD cX9_hurtOf 90 (.istore 6) 2 92 := ⟨by decide +kernel, rfl⟩
theorem dX9_hurtOf_92 : DD cX9_hurtOf 92 (.iload 6) 2 94 := ⟨by decide +kernel, rfl⟩
theorem dX9_hurtOf_94 : DD cX9_hurtOf 94 (.iconst 0) 1 95 := ⟨by decide +kernel, rfl⟩
theorem dX9_hurtOf_95 : DD cX9_hurtOf 95 (.bipush 99) 2 97 := ⟨by decide +kernel, rfl⟩
theorem dX9_hurtOf_97 : DD cX9_hurtOf 97 (.invokestatic 86) 3 100 := ⟨by decide +kernel, rfl⟩
theorem dX9_hurtOf_100 : DD cX9_hurtOf 100 (.ireturn) 1 101 := ⟨by decide +kernel, rfl⟩
def fX9_hurtOf (m : Mem) (x1 : Int32) (x2 : Int32) : Option (Int32 × Mem) := (gPl (m.2.2 26 1) (rd (m.1 ((m.2.2 26 1) + 9)) 8 x1 fun v2 => (rd (m.1 ((m.2.2 26 1) + 2)) 7 v2 fun v3 => (rd (m.1 ((m.2.2 26 1) + 2)) 7 x2 fun v4 => (nm (iabs (v3 - v4)) fun v5 => (rd (m.1 ((m.2.2 26 1) + 11)) 8 x1 fun v6 => (nm (v6 - v5) fun v7 => (if (m.1 ((m.2.2 26 1) + 18) 3) = 0 then (cP (fX9_within v7 (0 : Int32) (99 : Int32)) fun r9 => (some (r9, m))) else (rd (m.1 ((m.2.2 26 1) + 10)) 8 x1 fun v11 => (cI (fX3_valueOf m ((m.2.2 26 1) + 18) (m.1 53 0) v11 v6 v5) fun r12 m13 => (cP (fX9_within r12 (0 : Int32) (99 : Int32)) fun r14 => (some (r14, m13)))))))))))))
set_option maxHeartbeats 4000000 in
set_option maxRecDepth 100000 in
theorem kX9_hurtOf (l : Launch) (G : Gt) (hD : ∀ m, va_D (inA G nC) (wC G m)) (m : Mem) (x1 : Int32) (x2 : Int32) : ∀ a, fX9_hurtOf m x1 x2 = some a → Ct l G wC nC yX9_hurtOf cX9_hurtOf 7 (some .int) 3 [.ref (G.2.2 26), .int x1, .int x2, .ref (G.2.2 53)] m (cvI a) := by
  refine ct_of (own := RX9) (ls0 := [some (.ref (G.2.2 26)), some (.int x1), some (.int x2), some (.ref (G.2.2 53)), none, none, none]) (by decide) rfl rfl rfl (Nat.le_of_ble_eq_true rfl) hD (fun X h => ?_) l
  unfold fX9_hurtOf
  refine j_aload_n h dX9_hurtOf_0 rfl ?_
  refine gC9_21 h dX9_hurtOf_1 ?_
  refine j_gPl (fun hg1 => ?_)
  refine gC9_116 h hg1 dX9_hurtOf_4 ?_
  refine j_aload_n h dX9_hurtOf_7 rfl ?_
  refine gC9_21 h dX9_hurtOf_8 ?_
  refine gC9_119 h hg1 dX9_hurtOf_11 ?_
  refine j_iload_n h dX9_hurtOf_14 rfl ?_
  refine aC_Pl9 h hg1 dX9_hurtOf_15 (fun v2 hv2 => ?_)
  refine aC_Pl2 h hg1 dX9_hurtOf_16 (fun v3 hv3 => ?_)
  refine j_aload_n h dX9_hurtOf_17 rfl ?_
  refine gC9_21 h dX9_hurtOf_18 ?_
  refine gC9_116 h hg1 dX9_hurtOf_21 ?_
  refine j_iload_n h dX9_hurtOf_24 rfl ?_
  refine aC_Pl2 h hg1 dX9_hurtOf_25 (fun v4 hv4 => ?_)
  refine j_isub h dX9_hurtOf_26 ?_
  refine j_mabs h ml9_122 (Nat.le_of_ble_eq_true rfl) rfl (by decide) dX9_hurtOf_27 ?_
  refine j_nm (fun v5 hv5 => ?_)
  refine j_istore h dX9_hurtOf_30 rfl rfl ?_
  refine j_aload_n h dX9_hurtOf_32 rfl ?_
  refine gC9_21 h dX9_hurtOf_33 ?_
  refine gC9_125 h hg1 dX9_hurtOf_36 ?_
  refine j_iload_n h dX9_hurtOf_39 rfl ?_
  refine aC_Pl11 h hg1 dX9_hurtOf_40 (fun v6 hv6 => ?_)
  refine j_istore h dX9_hurtOf_41 rfl rfl ?_
  refine j_iload h dX9_hurtOf_43 rfl ?_
  refine j_iload h dX9_hurtOf_45 rfl ?_
  refine j_isub h dX9_hurtOf_47 ?_
  refine j_nm (fun v7 hv7 => ?_)
  refine j_istore h dX9_hurtOf_48 rfl rfl ?_
  refine j_aload_n h dX9_hurtOf_50 rfl ?_
  refine gC9_21 h dX9_hurtOf_51 ?_
  refine gC9_128 h hg1 dX9_hurtOf_54 ?_
  refine gC9_73 h (fm_pl18 hg1) dX9_hurtOf_57 ?_
  refine j_if_eq (tgt := 92) h dX9_hurtOf_60 (by decide) (fun c8 => ?_) (fun c8 => ?_)
  · refine j_iload h dX9_hurtOf_92 rfl ?_
    refine j_iconst (v := (0 : Int32)) h dX9_hurtOf_94 kiconst_0 ?_
    refine j_bipush (v := (99 : Int32)) h dX9_hurtOf_95 kbipush_99 ?_
    refine j_callSP h [.int v7, .int (0 : Int32), .int (99 : Int32)] (kX9_within _ G h.2.2.2.2.2.2.2.2.2.2 m v7 (0 : Int32) (99 : Int32)) okX9_within stX9_within ml9_86 rfl rfl (by decide) (by decide) (Nat.le_of_ble_eq_true rfl) rfl dX9_hurtOf_97 (fun r9 hr9 => ?_)
    exact j_iret h rfl dX9_hurtOf_100
  · refine j_aload_n h dX9_hurtOf_63 rfl ?_
    refine gC9_21 h dX9_hurtOf_64 ?_
    refine gC9_128 h hg1 dX9_hurtOf_67 ?_
    refine j_aload_n h dX9_hurtOf_70 rfl ?_
    refine gC9_36 h dX9_hurtOf_71 ?_
    refine j_aload_n h dX9_hurtOf_74 rfl ?_
    refine gC9_21 h dX9_hurtOf_75 ?_
    refine gC9_131 h hg1 dX9_hurtOf_78 ?_
    refine j_iload_n h dX9_hurtOf_81 rfl ?_
    refine aC_Pl10 h hg1 dX9_hurtOf_82 (fun v11 hv11 => ?_)
    refine j_iload h dX9_hurtOf_83 rfl ?_
    refine j_iload h dX9_hurtOf_85 rfl ?_
    refine j_callVI (q0 := ((m.2.2 26 1) + 18)) (ci := 3) h [.int (m.1 53 0), .int v11, .int v6, .int v5] (kX3_valueOf _ G h.2.2.2.2.2.2.2.2.2.2 m ((m.2.2 26 1) + 18) (m.1 53 0) v11 v6 v5) okX3_valueOf inX3_valueOf ml9_79 rfl (at_Fm (fm_pl18 hg1)) rfl rfl (by decide) (by decide) (Nat.le_of_ble_eq_true rfl) rfl dX9_hurtOf_87 (fun r12 m13 hr12 => ?_)
    refine j_istore h dX9_hurtOf_90 rfl rfl ?_
    refine j_iload h dX9_hurtOf_92 rfl ?_
    refine j_iconst (v := (0 : Int32)) h dX9_hurtOf_94 kiconst_0 ?_
    refine j_bipush (v := (99 : Int32)) h dX9_hurtOf_95 kbipush_99 ?_
    refine j_callSP h [.int r12, .int (0 : Int32), .int (99 : Int32)] (kX9_within _ G h.2.2.2.2.2.2.2.2.2.2 m13 r12 (0 : Int32) (99 : Int32)) okX9_within stX9_within ml9_86 rfl rfl (by decide) (by decide) (Nat.le_of_ble_eq_true rfl) rfl dX9_hurtOf_97 (fun r14 hr14 => ?_)
    exact j_iret h rfl dX9_hurtOf_100
theorem dX2_wakes_0 : DD cX2_wakes 0 (.aload_n 0) 1 1 := ⟨by decide +kernel, rfl⟩
theorem dX2_wakes_1 : DD cX2_wakes 1 (.getfield 17) 3 4 := ⟨by decide +kernel, rfl⟩
theorem dX2_wakes_4 : DD cX2_wakes 4 (.iload_n 1) 1 5 := ⟨by decide +kernel, rfl⟩
theorem dX2_wakes_5 : DD cX2_wakes 5 (.iaload) 1 6 := ⟨by decide +kernel, rfl⟩
theorem dX2_wakes_6 : DD cX2_wakes 6 (.iload_n 2) 1 7 := ⟨by decide +kernel, rfl⟩
theorem dX2_wakes_7 : DD cX2_wakes 7 (.ishr) 1 8 := ⟨by decide +kernel, rfl⟩
theorem dX2_wakes_8 : DD cX2_wakes 8 (.iconst 1) 1 9 := ⟨by decide +kernel, rfl⟩
theorem dX2_wakes_9 : DD cX2_wakes 9 (.iand) 1 10 := ⟨by decide +kernel, rfl⟩
theorem dX2_wakes_10 : DD cX2_wakes 10 (.iconst 1) 1 11 := ⟨by decide +kernel, rfl⟩
theorem dX2_wakes_11 : DD cX2_wakes 11 (.if_icmp .ne 7) 3 14 := ⟨by decide +kernel, rfl⟩
theorem dX2_wakes_14 : DD cX2_wakes 14 (.iconst 1) 1 15 := ⟨by decide +kernel, rfl⟩
theorem dX2_wakes_15 : DD cX2_wakes 15 (.goto 4) 3 18 := ⟨by decide +kernel, rfl⟩
theorem dX2_wakes_18 : DD cX2_wakes 18 (.iconst 0) 1 19 := ⟨by decide +kernel, rfl⟩
theorem dX2_wakes_19 : DD cX2_wakes 19 (.ireturn) 1 20 := ⟨by decide +kernel, rfl⟩
def fX2_wakes (m : Mem) (x1 : Int32) (x2 : Int32) : Option Int32 := (rd (m.1 54) 3 x1 fun v1 => (if ((v1 >>> (x2 &&& 31)) &&& (1 : Int32)) = (1 : Int32) then (some (1 : Int32)) else (some (0 : Int32))))
set_option maxHeartbeats 4000000 in
set_option maxRecDepth 100000 in
theorem kX2_wakes (l : Launch) (G : Gt) (hD : ∀ m, va_D (inA G nC) (wC G m)) (m : Mem) (x1 : Int32) (x2 : Int32) : ∀ a, fX2_wakes m x1 x2 = some a → Ct l G wC nC yX2_wakes cX2_wakes 3 (some .boolean) 1 [.ref (G.2.2 53), .int x1, .int x2] m ((cvP m) a) := by
  refine ct_of (own := RX2) (ls0 := [some (.ref (G.2.2 53)), some (.int x1), some (.int x2)]) (by decide) rfl rfl rfl (Nat.le_of_ble_eq_true rfl) hD (fun X h => ?_) l
  unfold fX2_wakes
  refine j_aload_n h dX2_wakes_0 rfl ?_
  refine gC2_17 h dX2_wakes_1 ?_
  refine j_iload_n h dX2_wakes_4 rfl ?_
  refine aC_54 h dX2_wakes_5 (fun v1 hv1 => ?_)
  refine j_iload_n h dX2_wakes_6 rfl ?_
  refine j_ishr h dX2_wakes_7 ?_
  refine j_iconst (v := (1 : Int32)) h dX2_wakes_8 kiconst_1 ?_
  refine j_iand h dX2_wakes_9 ?_
  refine j_iconst (v := (1 : Int32)) h dX2_wakes_10 kiconst_1 ?_
  refine j_icmp_ne (tgt := 18) h dX2_wakes_11 (by decide) (fun c2 => ?_) (fun c2 => ?_)
  · refine j_iconst (v := (0 : Int32)) h dX2_wakes_18 kiconst_0 ?_
    exact j_zretB h rfl rfl dX2_wakes_19
  · refine j_iconst (v := (1 : Int32)) h dX2_wakes_14 kiconst_1 ?_
    refine j_goto (tgt := 19) h dX2_wakes_15 (by decide) ?_
    exact j_zretB h rfl rfl dX2_wakes_19
theorem dX1_weighNoise_0 : DD cX1_weighNoise 0 (.aload_n 1) 1 1 := ⟨by decide +kernel, rfl⟩
theorem dX1_weighNoise_1 : DD cX1_weighNoise 1 (.getfield 38) 3 4 := ⟨by decide +kernel, rfl⟩
theorem dX1_weighNoise_4 : DD cX1_weighNoise 4 (.getfield 78) 3 7 := ⟨by decide +kernel, rfl⟩
theorem dX1_weighNoise_7 : DD cX1_weighNoise 7 (.iload_n 2) 1 8 := ⟨by decide +kernel, rfl⟩
theorem dX1_weighNoise_8 : DD cX1_weighNoise 8 (.iaload) 1 9 := ⟨by decide +kernel, rfl⟩
theorem dX1_weighNoise_9 : DD cX1_weighNoise 9 (.istore 5) 2 11 := ⟨by decide +kernel, rfl⟩
theorem dX1_weighNoise_11 : DD cX1_weighNoise 11 (.iload 5) 2 13 := ⟨by decide +kernel, rfl⟩
theorem dX1_weighNoise_13 : DD cX1_weighNoise 13 (.iload_n 3) 1 14 := ⟨by decide +kernel, rfl⟩
theorem dX1_weighNoise_14 : DD cX1_weighNoise 14 (.if_icmp .ne 4) 3 17 := ⟨by decide +kernel, rfl⟩
theorem dX1_weighNoise_17 : DD cX1_weighNoise 17 (.return_) 1 18 := ⟨by decide +kernel, rfl⟩
theorem dX1_weighNoise_18 : DD cX1_weighNoise 18 (.aload_n 1) 1 19 := ⟨by decide +kernel, rfl⟩
theorem dX1_weighNoise_19 : DD cX1_weighNoise 19 (.getfield 38) 3 22 := ⟨by decide +kernel, rfl⟩
theorem dX1_weighNoise_22 : DD cX1_weighNoise 22 (.getfield 114) 3 25 := ⟨by decide +kernel, rfl⟩
theorem dX1_weighNoise_25 : DD cX1_weighNoise 25 (.iload_n 2) 1 26 := ⟨by decide +kernel, rfl⟩
theorem dX1_weighNoise_26 : DD cX1_weighNoise 26 (.iaload) 1 27 := ⟨by decide +kernel, rfl⟩
theorem dX1_weighNoise_27 : DD cX1_weighNoise 27 (.istore 6) 2 29 := ⟨by decide +kernel, rfl⟩
theorem dX1_weighNoise_29 : DD cX1_weighNoise 29 (.aload_n 1) 1 30 := ⟨by decide +kernel, rfl⟩
theorem dX1_weighNoise_30 : DD cX1_weighNoise 30 (.iload_n 2) 1 31 := ⟨by decide +kernel, rfl⟩
theorem dX1_weighNoise_31 : DD cX1_weighNoise 31 (.iload_n 3) 1 32 := ⟨by decide +kernel, rfl⟩
theorem dX1_weighNoise_32 : DD cX1_weighNoise 32 (.aload 4) 2 34 := ⟨by decide +kernel, rfl⟩
theorem dX1_weighNoise_34 : DD cX1_weighNoise 34 (.invokevirtual 117) 3 37 := ⟨by decide +kernel, rfl⟩
theorem dX1_weighNoise_37 : DD cX1_weighNoise 37 (.istore 7) 2 39 := ⟨by decide +kernel, rfl⟩
theorem dX1_weighNoise_39 : DD cX1_weighNoise 39 (.iconst 0) 1 40 := ⟨by decide +kernel, rfl⟩
theorem dX1_weighNoise_40 : DD cX1_weighNoise 40 (.istore 8) 2 42 := ⟨by decide +kernel, rfl⟩
theorem dX1_weighNoise_42 : DD cX1_weighNoise 42 (.iload 8) 2 44 := ⟨by decide +kernel, rfl⟩
theorem dX1_weighNoise_44 : DD cX1_weighNoise 44 (.bipush 9) 2 46 := ⟨by decide +kernel, rfl⟩
theorem dX1_weighNoise_46 : DD cX1_weighNoise 46 (.if_icmp .ge 116) 3 49 := ⟨by decide +kernel, rfl⟩
theorem dX1_weighNoise_49 : DD cX1_weighNoise 49 (.iload 8) 2 51 := ⟨by decide +kernel, rfl⟩
theorem dX1_weighNoise_51 : DD cX1_weighNoise 51 (.iconst 3) 1 52 := ⟨by decide +kernel, rfl⟩
theorem dX1_weighNoise_52 : DD cX1_weighNoise 52 (.idiv) 1 53 := ⟨by decide +kernel, rfl⟩
theorem dX1_weighNoise_53 : DD cX1_weighNoise 53 (.istore 9) 2 55 := ⟨by decide +kernel, rfl⟩
theorem dX1_weighNoise_55 : DD cX1_weighNoise 55 (.iload 8) 2 57 := ⟨by decide +kernel, rfl⟩
theorem dX1_weighNoise_57 : DD cX1_weighNoise 57 (.iconst 3) 1 58 := ⟨by decide +kernel, rfl⟩
theorem dX1_weighNoise_58 : DD cX1_weighNoise 58 (.irem) 1 59 := ⟨by decide +kernel, rfl⟩
theorem dX1_weighNoise_59 : DD cX1_weighNoise 59 (.istore 10) 2 61 := ⟨by decide +kernel, rfl⟩
theorem dX1_weighNoise_61 : DD cX1_weighNoise 61 (.aload 4) 2 63 := ⟨by decide +kernel, rfl⟩
theorem dX1_weighNoise_63 : DD cX1_weighNoise 63 (.iload 9) 2 65 := ⟨by decide +kernel, rfl⟩
theorem dX1_weighNoise_65 : DD cX1_weighNoise 65 (.iload 6) 2 67 := ⟨by decide +kernel, rfl⟩
theorem dX1_weighNoise_67 : DD cX1_weighNoise 67 (.invokevirtual 121) 3 70 := ⟨by decide +kernel, rfl⟩
theorem dX1_weighNoise_70 : DD cX1_weighNoise 70 (.ifCond .ne 86) 3 73 := ⟨by decide +kernel, rfl⟩
theorem dX1_weighNoise_73 : DD cX1_weighNoise 73 (.aload 4) 2 75 := ⟨by decide +kernel, rfl⟩
theorem dX1_weighNoise_75 : DD cX1_weighNoise 75 (.iload 10) 2 77 := ⟨by decide +kernel, rfl⟩
theorem dX1_weighNoise_77 : DD cX1_weighNoise 77 (.iload 6) 2 79 := ⟨by decide +kernel, rfl⟩
theorem dX1_weighNoise_79 : DD cX1_weighNoise 79 (.invokevirtual 121) 3 82 := ⟨by decide +kernel, rfl⟩
theorem dX1_weighNoise_82 : DD cX1_weighNoise 82 (.ifCond .eq 74) 3 85 := ⟨by decide +kernel, rfl⟩
theorem dX1_weighNoise_85 : DD cX1_weighNoise 85 (.iload_n 3) 1 86 := ⟨by decide +kernel, rfl⟩
theorem dX1_weighNoise_86 : DD cX1_weighNoise 86 (.iload 9) 2 88 := ⟨by decide +kernel, rfl⟩
theorem dX1_weighNoise_88 : DD cX1_weighNoise 88 (.invokestatic 104) 3 91 := ⟨by decide +kernel, rfl⟩
theorem dX1_weighNoise_91 : DD cX1_weighNoise 91 (.istore 11) 2 93 := ⟨by decide +kernel, rfl⟩
theorem dX1_weighNoise_93 : DD cX1_weighNoise 93 (.iload 5) 2 95 := ⟨by decide +kernel, rfl⟩
theorem dX1_weighNoise_95 : DD cX1_weighNoise 95 (.iload 10) 2 97 := ⟨by decide +kernel, rfl⟩
theorem dX1_weighNoise_97 : DD cX1_weighNoise 97 (.invokestatic 104) 3 100 := ⟨by decide +kernel, rfl⟩
theorem dX1_weighNoise_100 : DD cX1_weighNoise 100 (.istore 12) 2 102 := ⟨by decide +kernel, rfl⟩
theorem dX1_weighNoise_102 : DD cX1_weighNoise 102 (.aload_n 0) 1 103 := ⟨by decide +kernel, rfl⟩
theorem dX1_weighNoise_103 : DD cX1_weighNoise 103 (.getfield 19) 3 106 := ⟨by decide +kernel, rfl⟩
theorem dX1_weighNoise_106 : DD cX1_weighNoise 106 (.iload 11) 2 108 := ⟨by decide +kernel, rfl⟩
theorem dX1_weighNoise_108 : DD cX1_weighNoise 108 (.bipush 21) 2 110 := ⟨by decide +kernel, rfl⟩
theorem dX1_weighNoise_110 : DD cX1_weighNoise 110 (.imul) 1 111 := ⟨by decide +kernel, rfl⟩
theorem dX1_weighNoise_111 : DD cX1_weighNoise 111 (.iload 12) 2 113 := ⟨by decide +kernel, rfl⟩
theorem dX1_weighNoise_113 : DD cX1_weighNoise 113 (.iadd) 1 114 := ⟨by decide +kernel, rfl⟩
theorem dX1_weighNoise_114 : DD cX1_weighNoise 114 (.dup2) 1 115 := ⟨by decide +kernel, rfl⟩
theorem dX1_weighNoise_115 : DD cX1_weighNoise 115 (.iaload) 1 116 := ⟨by decide +kernel, rfl⟩
theorem dX1_weighNoise_116 : DD cX1_weighNoise 116 (.iload 7) 2 118 := ⟨by decide +kernel, rfl⟩
theorem dX1_weighNoise_118 : DD cX1_weighNoise 118 (.isub) 1 119 := ⟨by decide +kernel, rfl⟩
theorem dX1_weighNoise_119 : DD cX1_weighNoise 119 (.iastore) 1 120 := ⟨by decide +kernel, rfl⟩
theorem dX1_weighNoise_120 : DD cX1_weighNoise 120 (.aload_n 0) 1 121 := ⟨by decide +kernel, rfl⟩
theorem dX1_weighNoise_121 : DD cX1_weighNoise 121 (.getfield 22) 3 124 := ⟨by decide +kernel, rfl⟩
theorem dX1_weighNoise_124 : DD cX1_weighNoise 124 (.iload 11) 2 126 := ⟨by decide +kernel, rfl⟩
theorem dX1_weighNoise_126 : DD cX1_weighNoise 126 (.bipush 21) 2 128 := ⟨by decide +kernel, rfl⟩
theorem dX1_weighNoise_128 : DD cX1_weighNoise 128 (.imul) 1 129 := ⟨by decide +kernel, rfl⟩
theorem dX1_weighNoise_129 : DD cX1_weighNoise 129 (.iload 12) 2 131 := ⟨by decide +kernel, rfl⟩
theorem dX1_weighNoise_131 : DD cX1_weighNoise 131 (.iadd) 1 132 := ⟨by decide +kernel, rfl⟩
theorem dX1_weighNoise_132 : DD cX1_weighNoise 132 (.dup2) 1 133 := ⟨by decide +kernel, rfl⟩
theorem dX1_weighNoise_133 : DD cX1_weighNoise 133 (.iaload) 1 134 := ⟨by decide +kernel, rfl⟩
theorem dX1_weighNoise_134 : DD cX1_weighNoise 134 (.iload 7) 2 136 := ⟨by decide +kernel, rfl⟩
theorem dX1_weighNoise_136 : DD cX1_weighNoise 136 (.isub) 1 137 := ⟨by decide +kernel, rfl⟩
theorem dX1_weighNoise_137 : DD cX1_weighNoise 137 (.iastore) 1 138 := ⟨by decide +kernel, rfl⟩
theorem dX1_weighNoise_138 : DD cX1_weighNoise 138 (.aload_n 0) 1 139 := ⟨by decide +kernel, rfl⟩
theorem dX1_weighNoise_139 : DD cX1_weighNoise 139 (.getfield 22) 3 142 := ⟨by decide +kernel, rfl⟩
theorem dX1_weighNoise_142 : DD cX1_weighNoise 142 (.iload 12) 2 144 := ⟨by decide +kernel, rfl⟩
theorem dX1_weighNoise_144 : DD cX1_weighNoise 144 (.bipush 21) 2 146 := ⟨by decide +kernel, rfl⟩
theorem dX1_weighNoise_146 : DD cX1_weighNoise 146 (.imul) 1 147 := ⟨by decide +kernel, rfl⟩
theorem dX1_weighNoise_147 : DD cX1_weighNoise 147 (.iload 11) 2 149 := ⟨by decide +kernel, rfl⟩
theorem dX1_weighNoise_149 : DD cX1_weighNoise 149 (.iadd) 1 150 := ⟨by decide +kernel, rfl⟩
theorem dX1_weighNoise_150 : DD cX1_weighNoise 150 (.dup2) 1 151 := ⟨by decide +kernel, rfl⟩
theorem dX1_weighNoise_151 : DD cX1_weighNoise 151 (.iaload) 1 152 := ⟨by decide +kernel, rfl⟩
theorem dX1_weighNoise_152 : DD cX1_weighNoise 152 (.iload 7) 2 154 := ⟨by decide +kernel, rfl⟩
theorem dX1_weighNoise_154 : DD cX1_weighNoise 154 (.isub) 1 155 := ⟨by decide +kernel, rfl⟩
theorem dX1_weighNoise_155 : DD cX1_weighNoise 155 (.iastore) 1 156 := ⟨by decide +kernel, rfl⟩
theorem dX1_weighNoise_156 : DD cX1_weighNoise 156 (.iinc 8 1) 3 159 := ⟨by decide +kernel, rfl⟩
theorem dX1_weighNoise_159 : DD cX1_weighNoise 159 (.goto (-117)) 3 162 := ⟨by decide +kernel, rfl⟩
theorem dX1_weighNoise_162 : DD cX1_weighNoise 162 (.return_) 1 163 := ⟨by decide +kernel, rfl⟩
def gX1_weighNoise : Nat → Int32 → Int32 → Int32 → Int32 → Int32 → Mem → Option Mem
  | 0, _, _, _, _, _, _ => none
  | f + 1, x3, x5, x6, x7, x8, m => (if (9 : Int32) ≤ x8 then (some m) else (nm (x8 / (3 : Int32)) fun v2 => (nm (x8 - x8 / (3 : Int32) * (3 : Int32)) fun v3 => (cP (fX2_wakes m v2 x6) fun r4 => (if r4 = 0 then (cP (fX2_wakes m v3 x6) fun r7 => (if r7 = 0 then (gX1_weighNoise f x3 x5 x6 x7 (x8 + (1 : Int32)) m) else (cP (fX1_placeOf x3 v2) fun r10 => (cP (fX1_placeOf x5 v3) fun r12 => (nm ((r10 * (21 : Int32)) + r12) fun v14 => (rd (m.1 60) 441 v14 fun v15 => (wr m 60 441 v14 (v15 - x7) fun m16 => (nm ((r10 * (21 : Int32)) + r12) fun v17 => (rd (m16.1 61) 441 v17 fun v18 => (wr m16 61 441 v17 (v18 - x7) fun m19 => (nm ((r12 * (21 : Int32)) + r10) fun v20 => (rd (m19.1 61) 441 v20 fun v21 => (wr m19 61 441 v20 (v21 - x7) fun m22 => (gX1_weighNoise f x3 x5 x6 x7 (x8 + (1 : Int32)) m22)))))))))))))) else (gX1_weighNoise f x3 x5 x6 x7 (x8 + (1 : Int32)) m))))))
def fX1_weighNoise (m : Mem) (x2 : Int32) (x3 : Int32) : Option Mem := (gPl (m.2.2 26 1) (rd (m.1 ((m.2.2 26 1) + 9)) 8 x2 fun v2 => (if v2 = x3 then (some m) else (rd (m.1 ((m.2.2 26 1) + 10)) 8 x2 fun v4 => (cI (fX9_hurtOf m x2 x3) fun r5 m6 => (gX1_weighNoise 5000 x3 v2 v4 r5 (0 : Int32) m6))))))
set_option maxHeartbeats 4000000 in
set_option maxRecDepth 100000 in
theorem wX1_weighNoise {X : Cx} {G : Gt} (h : OkX (X, G, wC, nC) cX1_weighNoise RX1 13 none 4) : ∀ f : Nat, (∀ (x3 : Int32) (x5 : Int32) (x6 : Int32) (x7 : Int32) (x8 : Int32) (m : Mem), JR (X, G, wC, nC) cvV m 42 [some (.ref (G.2.2 58)), none, none, some (.int x3), some (.ref (G.2.2 53)), some (.int x5), some (.int x6), some (.int x7), some (.int x8), none, none, none, none] [] (gX1_weighNoise f x3 x5 x6 x7 x8 m)) := by
  intro f
  induction f with
  | zero => exact (fun _ _ _ _ _ _ => j_none)
  | succ f ih =>
    intro x3 x5 x6 x7 x8 m
    rw [gX1_weighNoise]
    refine j_iload h dX1_weighNoise_42 rfl ?_
    refine j_bipush (v := (9 : Int32)) h dX1_weighNoise_44 kbipush_9 ?_
    refine j_icmp_ge (tgt := 162) h dX1_weighNoise_46 (by decide) (fun c1 => ?_) (fun c1 => ?_)
    · exact j_vret h rfl dX1_weighNoise_162
    · refine j_iload h dX1_weighNoise_49 rfl ?_
      refine j_iconst (v := (3 : Int32)) h dX1_weighNoise_51 kiconst_3 ?_
      refine j_idivB h dX1_weighNoise_52 (by decide) ?_
      refine j_nm (fun v2 hv2 => ?_)
      refine j_istore h dX1_weighNoise_53 rfl rfl ?_
      refine j_iload h dX1_weighNoise_55 rfl ?_
      refine j_iconst (v := (3 : Int32)) h dX1_weighNoise_57 kiconst_3 ?_
      refine j_iremB h dX1_weighNoise_58 (by decide) ?_
      refine j_nm (fun v3 hv3 => ?_)
      refine j_istore h dX1_weighNoise_59 rfl rfl ?_
      refine j_aload h dX1_weighNoise_61 rfl ?_
      refine j_iload h dX1_weighNoise_63 rfl ?_
      refine j_iload h dX1_weighNoise_65 rfl ?_
      refine j_callVP (q0 := 53) (ci := 2) h [.int v2, .int x6] (kX2_wakes _ G h.2.2.2.2.2.2.2.2.2.2 m v2 x6) okX2_wakes inX2_wakes ml1_121 rfl rfl rfl rfl (by decide) (by decide) (Nat.le_of_ble_eq_true rfl) rfl dX1_weighNoise_67 (fun r4 hr4 => ?_)
      refine j_if_ne (tgt := 156) h dX1_weighNoise_70 (by decide) (fun c6 => ?_) (fun c6 => ?_)
      · refine j_iinc (v := (x8 + (1 : Int32))) h dX1_weighNoise_156 rfl (by rw [kiconst_1]) rfl ?_
        refine j_goto (tgt := 42) h dX1_weighNoise_159 (by decide) ?_
        refine j_wk (ls' := [some (.ref (G.2.2 58)), none, none, some (.int x3), some (.ref (G.2.2 53)), some (.int x5), some (.int x6), some (.int x7), some (.int (x8 + (1 : Int32))), none, none, none, none]) (And.intro rfl (And.intro rfl (And.intro rfl (And.intro rfl (And.intro rfl (And.intro rfl (And.intro rfl trivial))))))) ?_
        exact ih x3 x5 x6 x7 (x8 + (1 : Int32)) m
      · refine j_aload h dX1_weighNoise_73 rfl ?_
        refine j_iload h dX1_weighNoise_75 rfl ?_
        refine j_iload h dX1_weighNoise_77 rfl ?_
        refine j_callVP (q0 := 53) (ci := 2) h [.int v3, .int x6] (kX2_wakes _ G h.2.2.2.2.2.2.2.2.2.2 m v3 x6) okX2_wakes inX2_wakes ml1_121 rfl rfl rfl rfl (by decide) (by decide) (Nat.le_of_ble_eq_true rfl) rfl dX1_weighNoise_79 (fun r7 hr7 => ?_)
        refine j_if_eq (tgt := 156) h dX1_weighNoise_82 (by decide) (fun c9 => ?_) (fun c9 => ?_)
        · refine j_iinc (v := (x8 + (1 : Int32))) h dX1_weighNoise_156 rfl (by rw [kiconst_1]) rfl ?_
          refine j_goto (tgt := 42) h dX1_weighNoise_159 (by decide) ?_
          refine j_wk (ls' := [some (.ref (G.2.2 58)), none, none, some (.int x3), some (.ref (G.2.2 53)), some (.int x5), some (.int x6), some (.int x7), some (.int (x8 + (1 : Int32))), none, none, none, none]) (And.intro rfl (And.intro rfl (And.intro rfl (And.intro rfl (And.intro rfl (And.intro rfl (And.intro rfl trivial))))))) ?_
          exact ih x3 x5 x6 x7 (x8 + (1 : Int32)) m
        · refine j_iload_n h dX1_weighNoise_85 rfl ?_
          refine j_iload h dX1_weighNoise_86 rfl ?_
          refine j_callSP h [.int x3, .int v2] (kX1_placeOf _ G h.2.2.2.2.2.2.2.2.2.2 m x3 v2) okX1_placeOf stX1_placeOf ml1_104 rfl rfl (by decide) (by decide) (Nat.le_of_ble_eq_true rfl) rfl dX1_weighNoise_88 (fun r10 hr10 => ?_)
          refine j_istore h dX1_weighNoise_91 rfl rfl ?_
          refine j_iload h dX1_weighNoise_93 rfl ?_
          refine j_iload h dX1_weighNoise_95 rfl ?_
          refine j_callSP h [.int x5, .int v3] (kX1_placeOf _ G h.2.2.2.2.2.2.2.2.2.2 m x5 v3) okX1_placeOf stX1_placeOf ml1_104 rfl rfl (by decide) (by decide) (Nat.le_of_ble_eq_true rfl) rfl dX1_weighNoise_97 (fun r12 hr12 => ?_)
          refine j_istore h dX1_weighNoise_100 rfl rfl ?_
          refine j_aload_n h dX1_weighNoise_102 rfl ?_
          refine gC1_19 h dX1_weighNoise_103 ?_
          refine j_iload h dX1_weighNoise_106 rfl ?_
          refine j_bipush (v := (21 : Int32)) h dX1_weighNoise_108 kbipush_21 ?_
          refine j_imul h dX1_weighNoise_110 ?_
          refine j_iload h dX1_weighNoise_111 rfl ?_
          refine j_iadd h dX1_weighNoise_113 ?_
          refine j_nm (fun v14 hv14 => ?_)
          refine j_dup2 h dX1_weighNoise_114 rfl rfl ?_
          refine aC_60 h dX1_weighNoise_115 (fun v15 hv15 => ?_)
          refine j_iload h dX1_weighNoise_116 rfl ?_
          refine j_isub h dX1_weighNoise_118 ?_
          refine bC_60 h dX1_weighNoise_119 (fun m16 hm16 => ?_)
          refine j_aload_n h dX1_weighNoise_120 rfl ?_
          refine gC1_22 h dX1_weighNoise_121 ?_
          refine j_iload h dX1_weighNoise_124 rfl ?_
          refine j_bipush (v := (21 : Int32)) h dX1_weighNoise_126 kbipush_21 ?_
          refine j_imul h dX1_weighNoise_128 ?_
          refine j_iload h dX1_weighNoise_129 rfl ?_
          refine j_iadd h dX1_weighNoise_131 ?_
          refine j_nm (fun v17 hv17 => ?_)
          refine j_dup2 h dX1_weighNoise_132 rfl rfl ?_
          refine aC_61 h dX1_weighNoise_133 (fun v18 hv18 => ?_)
          refine j_iload h dX1_weighNoise_134 rfl ?_
          refine j_isub h dX1_weighNoise_136 ?_
          refine bC_61 h dX1_weighNoise_137 (fun m19 hm19 => ?_)
          refine j_aload_n h dX1_weighNoise_138 rfl ?_
          refine gC1_22 h dX1_weighNoise_139 ?_
          refine j_iload h dX1_weighNoise_142 rfl ?_
          refine j_bipush (v := (21 : Int32)) h dX1_weighNoise_144 kbipush_21 ?_
          refine j_imul h dX1_weighNoise_146 ?_
          refine j_iload h dX1_weighNoise_147 rfl ?_
          refine j_iadd h dX1_weighNoise_149 ?_
          refine j_nm (fun v20 hv20 => ?_)
          refine j_dup2 h dX1_weighNoise_150 rfl rfl ?_
          refine aC_61 h dX1_weighNoise_151 (fun v21 hv21 => ?_)
          refine j_iload h dX1_weighNoise_152 rfl ?_
          refine j_isub h dX1_weighNoise_154 ?_
          refine bC_61 h dX1_weighNoise_155 (fun m22 hm22 => ?_)
          refine j_iinc (v := (x8 + (1 : Int32))) h dX1_weighNoise_156 rfl (by rw [kiconst_1]) rfl ?_
          refine j_goto (tgt := 42) h dX1_weighNoise_159 (by decide) ?_
          refine j_wk (ls' := [some (.ref (G.2.2 58)), none, none, some (.int x3), some (.ref (G.2.2 53)), some (.int x5), some (.int x6), some (.int x7), some (.int (x8 + (1 : Int32))), none, none, none, none]) (And.intro rfl (And.intro rfl (And.intro rfl (And.intro rfl (And.intro rfl (And.intro rfl (And.intro rfl trivial))))))) ?_
          exact ih x3 x5 x6 x7 (x8 + (1 : Int32)) m22
set_option maxHeartbeats 4000000 in
set_option maxRecDepth 100000 in
theorem kX1_weighNoise (l : Launch) (G : Gt) (hD : ∀ m, va_D (inA G nC) (wC G m)) (m : Mem) (x2 : Int32) (x3 : Int32) : ∀ a, fX1_weighNoise m x2 x3 = some a → Ct l G wC nC yX1_weighNoise cX1_weighNoise 13 none 4 [.ref (G.2.2 58), .ref (G.2.2 26), .int x2, .int x3, .ref (G.2.2 53)] m (cvV a) := by
  refine ct_of (own := RX1) (ls0 := [some (.ref (G.2.2 58)), some (.ref (G.2.2 26)), some (.int x2), some (.int x3), some (.ref (G.2.2 53)), none, none, none, none, none, none, none, none]) (by decide) rfl rfl rfl (Nat.le_of_ble_eq_true rfl) hD (fun X h => ?_) l
  unfold fX1_weighNoise
  refine j_aload_n h dX1_weighNoise_0 rfl ?_
  refine gC1_38 h dX1_weighNoise_1 ?_
  refine j_gPl (fun hg1 => ?_)
  refine gC1_78 h hg1 dX1_weighNoise_4 ?_
  refine j_iload_n h dX1_weighNoise_7 rfl ?_
  refine aC_Pl9 h hg1 dX1_weighNoise_8 (fun v2 hv2 => ?_)
  refine j_istore h dX1_weighNoise_9 rfl rfl ?_
  refine j_iload h dX1_weighNoise_11 rfl ?_
  refine j_iload_n h dX1_weighNoise_13 rfl ?_
  refine j_icmp_ne (tgt := 18) h dX1_weighNoise_14 (by decide) (fun c3 => ?_) (fun c3 => ?_)
  · refine j_aload_n h dX1_weighNoise_18 rfl ?_
    refine gC1_38 h dX1_weighNoise_19 ?_
    refine gC1_114 h hg1 dX1_weighNoise_22 ?_
    refine j_iload_n h dX1_weighNoise_25 rfl ?_
    refine aC_Pl10 h hg1 dX1_weighNoise_26 (fun v4 hv4 => ?_)
    refine j_istore h dX1_weighNoise_27 rfl rfl ?_
    refine j_aload_n h dX1_weighNoise_29 rfl ?_
    refine j_iload_n h dX1_weighNoise_30 rfl ?_
    refine j_iload_n h dX1_weighNoise_31 rfl ?_
    refine j_aload h dX1_weighNoise_32 rfl ?_
    refine j_callVI (q0 := 26) (ci := 9) h [.int x2, .int x3, .ref (G.2.2 53)] (kX9_hurtOf _ G h.2.2.2.2.2.2.2.2.2.2 m x2 x3) okX9_hurtOf inX9_hurtOf ml1_117 rfl rfl rfl rfl (by decide) (by decide) (Nat.le_of_ble_eq_true rfl) rfl dX1_weighNoise_34 (fun r5 m6 hr5 => ?_)
    refine j_istore h dX1_weighNoise_37 rfl rfl ?_
    refine j_iconst (v := (0 : Int32)) h dX1_weighNoise_39 kiconst_0 ?_
    refine j_istore h dX1_weighNoise_40 rfl rfl ?_
    refine j_wk (ls' := [some (.ref (G.2.2 58)), none, none, some (.int x3), some (.ref (G.2.2 53)), some (.int v2), some (.int v4), some (.int r5), some (.int (0 : Int32)), none, none, none, none]) (And.intro rfl (And.intro rfl (And.intro rfl (And.intro rfl (And.intro rfl (And.intro rfl (And.intro rfl trivial))))))) ?_
    exact (wX1_weighNoise h 5000) x3 v2 v4 r5 (0 : Int32) m6
  · exact j_vret h rfl dX1_weighNoise_17
theorem dX1_weigh_0 : DD cX1_weigh 0 (.aload_n 1) 1 1 := ⟨by decide +kernel, rfl⟩
theorem dX1_weigh_1 : DD cX1_weigh 1 (.invokevirtual 34) 3 4 := ⟨by decide +kernel, rfl⟩
theorem dX1_weigh_4 : DD cX1_weigh 4 (.astore_n 2) 1 5 := ⟨by decide +kernel, rfl⟩
theorem dX1_weigh_5 : DD cX1_weigh 5 (.aload_n 0) 1 6 := ⟨by decide +kernel, rfl⟩
theorem dX1_weigh_6 : DD cX1_weigh 6 (.aload_n 1) 1 7 := ⟨by decide +kernel, rfl⟩
theorem dX1_weigh_7 : DD cX1_weigh 7 (.getfield 38) 3 10 := ⟨by decide +kernel, rfl⟩
theorem dX1_weigh_10 : DD cX1_weigh 10 (.getfield 42) 3 13 := ⟨by decide +kernel, rfl⟩
theorem dX1_weigh_13 : DD cX1_weigh 13 (.putfield 46) 3 16 := ⟨by decide +kernel, rfl⟩
theorem dX1_weigh_16 : DD cX1_weigh 16 (.aload_n 1) 1 17 := ⟨by decide +kernel, rfl⟩
theorem dX1_weigh_17 : DD cX1_weigh 17 (.getfield 47) 3 20 := ⟨by decide +kernel, rfl⟩
theorem dX1_weigh_20 : DD cX1_weigh 20 (.getfield 51) 3 23 := ⟨by decide +kernel, rfl⟩
theorem dX1_weigh_23 : DD cX1_weigh 23 (.iconst 0) 1 24 := ⟨by decide +kernel, rfl⟩
theorem dX1_weigh_24 : DD cX1_weigh 24 (.aload_n 0) 1 25 := ⟨by decide +kernel, rfl⟩
theorem dX1_weigh_25 : DD cX1_weigh 25 (.getfield 13) 3 28 := ⟨by decide +kernel, rfl⟩
theorem dX1_weigh_28 : DD cX1_weigh 28 (.iconst 0) 1 29 := ⟨by decide +kernel, rfl⟩
theorem dX1_weigh_29 : DD cX1_weigh 29 (.aload_n 0) 1 30 := ⟨by decide +kernel, rfl⟩
theorem dX1_weigh_30 : DD cX1_weigh 30 (.getfield 13) 3 33 := ⟨by decide +kernel, rfl⟩
theorem dX1_weigh_33 : DD cX1_weigh 33 (.arraylength) 1 34 := ⟨by decide +kernel, rfl⟩
theorem dX1_weigh_34 : DD cX1_weigh 34 (.invokestatic 56) 3 37 := ⟨by decide +kernel, rfl⟩
theorem dX1_weigh_37 : DD cX1_weigh 37 (.aload_n 0) 1 38 := ⟨by decide +kernel, rfl⟩
theorem dX1_weigh_38 : DD cX1_weigh 38 (.getfield 19) 3 41 := ⟨by decide +kernel, rfl⟩
theorem dX1_weigh_41 : DD cX1_weigh 41 (.iconst 0) 1 42 := ⟨by decide +kernel, rfl⟩
theorem dX1_weigh_42 : DD cX1_weigh 42 (.invokestatic 62) 3 45 := ⟨by decide +kernel, rfl⟩
theorem dX1_weigh_45 : DD cX1_weigh 45 (.aload_n 0) 1 46 := ⟨by decide +kernel, rfl⟩
theorem dX1_weigh_46 : DD cX1_weigh 46 (.getfield 22) 3 49 := ⟨by decide +kernel, rfl⟩
theorem dX1_weigh_49 : DD cX1_weigh 49 (.iconst 0) 1 50 := ⟨by decide +kernel, rfl⟩
theorem dX1_weigh_50 : DD cX1_weigh 50 (.invokestatic 62) 3 53 := ⟨by decide +kernel, rfl⟩
theorem dX1_weigh_53 : DD cX1_weigh 53 (.iconst 0) 1 54 := ⟨by decide +kernel, rfl⟩
theorem dX1_weigh_54 : DD cX1_weigh 54 (.istore_n 3) 1 55 := ⟨by decide +kernel, rfl⟩
theorem dX1_weigh_55 : DD cX1_weigh 55 (.iload_n 3) 1 56 := ⟨by decide +kernel, rfl⟩
theorem dX1_weigh_56 : DD cX1_weigh 56 (.aload_n 1) 1 57 := ⟨by decide +kernel, rfl⟩
theorem dX1_weigh_57 : DD cX1_weigh 57 (.getfield 38) 3 60 := ⟨by decide +kernel, rfl⟩
theorem dX1_weigh_60 : DD cX1_weigh 60 (.getfield 68) 3 63 := ⟨by decide +kernel, rfl⟩
theorem dX1_weigh_63 : DD cX1_weigh 63 (.if_icmp .ge 19) 3 66 := ⟨by decide +kernel, rfl⟩
theorem dX1_weigh_66 : DD cX1_weigh 66 (.aload_n 0) 1 67 := ⟨by decide +kernel, rfl⟩
theorem dX1_weigh_67 : DD cX1_weigh 67 (.aload_n 1) 1 68 := ⟨by decide +kernel, rfl⟩
theorem dX1_weigh_68 : DD cX1_weigh 68 (.getfield 38) 3 71 := ⟨by decide +kernel, rfl⟩
theorem dX1_weigh_71 : DD cX1_weigh 71 (.iload_n 3) 1 72 := ⟨by decide +kernel, rfl⟩
theorem dX1_weigh_72 : DD cX1_weigh 72 (.aload_n 2) 1 73 := ⟨by decide +kernel, rfl⟩
theorem dX1_weigh_73 : DD cX1_weigh 73 (.invokevirtual 71) 3 76 := ⟨by decide +kernel, rfl⟩
theorem dX1_weigh_76 : DD cX1_weigh 76 (.iinc 3 1) 3 79 := ⟨by decide +kernel, rfl⟩
theorem dX1_weigh_79 : DD cX1_weigh 79 (.goto (-24)) 3 82 := ⟨by decide +kernel, rfl⟩
theorem dX1_weigh_82 : DD cX1_weigh 82 (.iconst 0) 1 83 := ⟨by decide +kernel, rfl⟩
theorem dX1_weigh_83 : DD cX1_weigh 83 (.istore_n 3) 1 84 := ⟨by decide +kernel, rfl⟩
theorem dX1_weigh_84 : DD cX1_weigh 84 (.iload_n 3) 1 85 := ⟨by decide +kernel, rfl⟩
theorem dX1_weigh_85 : DD cX1_weigh 85 (.aload_n 1) 1 86 := ⟨by decide +kernel, rfl⟩
theorem dX1_weigh_86 : DD cX1_weigh 86 (.getfield 38) 3 89 := ⟨by decide +kernel, rfl⟩
theorem dX1_weigh_89 : DD cX1_weigh 89 (.getfield 75) 3 92 := ⟨by decide +kernel, rfl⟩
theorem dX1_weigh_92 : DD cX1_weigh 92 (.if_icmp .ge 56) 3 95 := ⟨by decide +kernel, rfl⟩
theorem dX1_weigh_95 : DD cX1_weigh 95 (.aload_n 1) 1 96 := ⟨by decide +kernel, rfl⟩
theorem dX1_weigh_96 : DD cX1_weigh 96 (.aload_n 1) 1 97 := ⟨by decide +kernel, rfl⟩
theorem dX1_weigh_97 : DD cX1_weigh 97 (.getfield 38) 3 100 := ⟨by decide +kernel, rfl⟩
theorem dX1_weigh_100 : DD cX1_weigh 100 (.getfield 78) 3 103 := ⟨by decide +kernel, rfl⟩
theorem dX1_weigh_103 : DD cX1_weigh 103 (.iload_n 3) 1 104 := ⟨by decide +kernel, rfl⟩
theorem dX1_weigh_104 : DD cX1_weigh 104 (.iaload) 1 105 := ⟨by decide +kernel, rfl⟩
theorem dX1_weigh_105 : DD cX1_weigh 105 (.invokevirtual 81) 3 108 := ⟨by decide +kernel, rfl⟩
theorem dX1_weigh_108 : DD cX1_weigh 108 (.istore 4) 2 110 := ⟨by decide +kernel, rfl⟩
theorem dX1_weigh_110 : DD cX1_weigh 110 (.iconst 0) 1 111 := ⟨by decide +kernel, rfl⟩
theorem dX1_weigh_111 : DD cX1_weigh 111 (.istore 5) 2 113 := ⟨by decide +kernel, rfl⟩
theorem dX1_weigh_113 : DD cX1_weigh 113 (.iload 5) 2 115 := ⟨by decide +kernel, rfl⟩
theorem dX1_weigh_115 : DD cX1_weigh 115 (.aload_n 0) 1 116 := ⟨by decide +kernel, rfl⟩
theorem dX1_weigh_116 : DD cX1_weigh 116 (.getfield 46) 3 119 := ⟨by decide +kernel, rfl⟩
theorem dX1_weigh_119 : DD cX1_weigh 119 (.if_icmp .ge 23) 3 122 := ⟨by decide +kernel, rfl⟩
theorem dX1_weigh_122 : DD cX1_weigh 122 (.iload 4) 2 124 := ⟨by decide +kernel, rfl⟩
theorem dX1_weigh_124 : DD cX1_weigh 124 (.ifCond .ne 18) 3 127 := ⟨by decide +kernel, rfl⟩
theorem dX1_weigh_127 : DD cX1_weigh 127 (.aload_n 0) 1 128 := ⟨by decide +kernel, rfl⟩
theorem dX1_weigh_128 : DD cX1_weigh 128 (.aload_n 1) 1 129 := ⟨by decide +kernel, rfl⟩
theorem dX1_weigh_129 : DD cX1_weigh 129 (.iload_n 3) 1 130 := ⟨by decide +kernel, rfl⟩
theorem dX1_weigh_130 : DD cX1_weigh 130 (.iload 5) 2 132 := ⟨by decide +kernel, rfl⟩
theorem dX1_weigh_132 : DD cX1_weigh 132 (.aload_n 2) 1 133 := ⟨by decide +kernel, rfl⟩
theorem dX1_weigh_133 : DD cX1_weigh 133 (.invokevirtual 85) 3 136 := ⟨by decide +kernel, rfl⟩
theorem dX1_weigh_136 : DD cX1_weigh 136 (.iinc 5 1) 3 139 := ⟨by decide +kernel, rfl⟩
theorem dX1_weigh_139 : DD cX1_weigh 139 (.goto (-26)) 3 142 := ⟨by decide +kernel, rfl⟩
theorem dX1_weigh_142 : DD cX1_weigh 142 (.iinc 3 1) 3 145 := ⟨by decide +kernel, rfl⟩
theorem dX1_weigh_145 : DD cX1_weigh 145 (.goto (-61)) 3 148 := ⟨by decide +kernel, rfl⟩
theorem dX1_weigh_148 : DD cX1_weigh 148 (.return_) 1 149 := ⟨by decide +kernel, rfl⟩
def gX1_weigh : Nat → Nat → Int32 → Int32 → Int32 → Mem → Option Mem
  | 0, _, _, _, _, _ => none
  | f + 1, 0, x3, x4, x5, m => (gPl (m.2.2 26 1) (if (m.1 (m.2.2 26 1) 5) ≤ x3 then (gX1_weigh f 1 (0 : Int32) 0 0 m) else (cV (fX1_weighMeet m (m.2.2 26 1) x3) fun m4 => (gX1_weigh f 0 (x3 + (1 : Int32)) 0 0 m4))))
  | f + 1, 1, x3, x4, x5, m => (gPl (m.2.2 26 1) (if (m.1 (m.2.2 26 1) 10) ≤ x3 then (some m) else (rd (m.1 ((m.2.2 26 1) + 9)) 8 x3 fun v3 => (cP (fX9_isQuiet m v3) fun r4 => (gX1_weigh f 2 x3 r4 (0 : Int32) m)))))
  | f + 1, 2, x3, x4, x5, m => (if (m.1 58 0) ≤ x5 then (gX1_weigh f 1 (x3 + (1 : Int32)) 0 0 m) else (if x4 = 0 then (cV (fX1_weighNoise m x3 x5) fun m4 => (gX1_weigh f 2 x3 x4 (x5 + (1 : Int32)) m4)) else (gX1_weigh f 1 (x3 + (1 : Int32)) 0 0 m)))
  | _ + 1, _ + 3, _, _, _, _ => none
def fX1_weigh (m : Mem) : Option Mem := (cR (fX9_today m) fun r1 m2 => (gEq r1 53 (gPl (m2.2.2 26 1) (pt (sI m2 58 0 (m2.1 (m2.2.2 26 1) 0)) fun m5 => (cpy m5 28 7 59 7 (0 : Int32) (0 : Int32) (7 : Int32) fun m6 => (pt (fil m6 60 441 (0 : Int32)) fun m7 => (pt (fil m7 61 441 (0 : Int32)) fun m8 => (gX1_weigh 5000 0 (0 : Int32) 0 0 m8))))))))
set_option maxHeartbeats 4000000 in
set_option maxRecDepth 100000 in
theorem wX1_weigh {X : Cx} {G : Gt} (h : OkX (X, G, wC, nC) cX1_weigh RX1 6 none 6) : ∀ f : Nat, (∀ (x3 : Int32) (x4 : Int32) (x5 : Int32) (m : Mem), JR (X, G, wC, nC) cvV m 55 [some (.ref (G.2.2 58)), some (.ref (G.2.2 26)), some (.ref (G.2.2 53)), some (.int x3), none, none] [] (gX1_weigh f 0 x3 x4 x5 m)) ∧ (∀ (x3 : Int32) (x4 : Int32) (x5 : Int32) (m : Mem), JR (X, G, wC, nC) cvV m 84 [some (.ref (G.2.2 58)), some (.ref (G.2.2 26)), some (.ref (G.2.2 53)), some (.int x3), none, none] [] (gX1_weigh f 1 x3 x4 x5 m)) ∧ (∀ (x3 : Int32) (x4 : Int32) (x5 : Int32) (m : Mem), JR (X, G, wC, nC) cvV m 113 [some (.ref (G.2.2 58)), some (.ref (G.2.2 26)), some (.ref (G.2.2 53)), some (.int x3), some (.int x4), some (.int x5)] [] (gX1_weigh f 2 x3 x4 x5 m)) := by
  intro f
  induction f with
  | zero => exact ⟨(fun _ _ _ _ => j_none), (fun _ _ _ _ => j_none), (fun _ _ _ _ => j_none)⟩
  | succ f ih =>
    refine ⟨?_, ?_, ?_⟩
    · intro x3 x4 x5 m
      rw [gX1_weigh]
      refine j_iload_n h dX1_weigh_55 rfl ?_
      refine j_aload_n h dX1_weigh_56 rfl ?_
      refine gC1_38 h dX1_weigh_57 ?_
      refine j_gPl (fun hg1 => ?_)
      refine gC1_68 h hg1 dX1_weigh_60 ?_
      refine j_icmp_ge (tgt := 82) h dX1_weigh_63 (by decide) (fun c2 => ?_) (fun c2 => ?_)
      · refine j_iconst (v := (0 : Int32)) h dX1_weigh_82 kiconst_0 ?_
        refine j_istore_n h dX1_weigh_83 rfl rfl ?_
        refine j_wk (ls' := [some (.ref (G.2.2 58)), some (.ref (G.2.2 26)), some (.ref (G.2.2 53)), some (.int (0 : Int32)), none, none]) (And.intro rfl (And.intro rfl (And.intro rfl (And.intro rfl trivial)))) ?_
        exact ih.2.1 (0 : Int32) 0 0 m
      · refine j_aload_n h dX1_weigh_66 rfl ?_
        refine j_aload_n h dX1_weigh_67 rfl ?_
        refine gC1_38 h dX1_weigh_68 ?_
        refine j_iload_n h dX1_weigh_71 rfl ?_
        refine j_aload_n h dX1_weigh_72 rfl ?_
        refine j_callVV (q0 := 58) (ci := 1) h [.ref (G.2.2 (m.2.2 26 1)), .int x3, .ref (G.2.2 53)] (kX1_weighMeet _ G h.2.2.2.2.2.2.2.2.2.2 m (m.2.2 26 1) x3) okX1_weighMeet inX1_weighMeet ml1_71 rfl rfl rfl rfl (by decide) (by decide) (Nat.le_of_ble_eq_true rfl) rfl dX1_weigh_73 (fun m4 hm4 => ?_)
        refine j_iinc (v := (x3 + (1 : Int32))) h dX1_weigh_76 rfl (by rw [kiconst_1]) rfl ?_
        refine j_goto (tgt := 55) h dX1_weigh_79 (by decide) ?_
        refine j_wk (ls' := [some (.ref (G.2.2 58)), some (.ref (G.2.2 26)), some (.ref (G.2.2 53)), some (.int (x3 + (1 : Int32))), none, none]) (And.intro rfl (And.intro rfl (And.intro rfl (And.intro rfl trivial)))) ?_
        exact ih.1 (x3 + (1 : Int32)) 0 0 m4
    · intro x3 x4 x5 m
      rw [gX1_weigh]
      refine j_iload_n h dX1_weigh_84 rfl ?_
      refine j_aload_n h dX1_weigh_85 rfl ?_
      refine gC1_38 h dX1_weigh_86 ?_
      refine j_gPl (fun hg1 => ?_)
      refine gC1_75 h hg1 dX1_weigh_89 ?_
      refine j_icmp_ge (tgt := 148) h dX1_weigh_92 (by decide) (fun c2 => ?_) (fun c2 => ?_)
      · exact j_vret h rfl dX1_weigh_148
      · refine j_aload_n h dX1_weigh_95 rfl ?_
        refine j_aload_n h dX1_weigh_96 rfl ?_
        refine gC1_38 h dX1_weigh_97 ?_
        refine gC1_78 h hg1 dX1_weigh_100 ?_
        refine j_iload_n h dX1_weigh_103 rfl ?_
        refine aC_Pl9 h hg1 dX1_weigh_104 (fun v3 hv3 => ?_)
        refine j_callVP (q0 := 26) (ci := 9) h [.int v3] (kX9_isQuiet _ G h.2.2.2.2.2.2.2.2.2.2 m v3) okX9_isQuiet inX9_isQuiet ml1_81 rfl rfl rfl rfl (by decide) (by decide) (Nat.le_of_ble_eq_true rfl) rfl dX1_weigh_105 (fun r4 hr4 => ?_)
        refine j_istore h dX1_weigh_108 rfl rfl ?_
        refine j_iconst (v := (0 : Int32)) h dX1_weigh_110 kiconst_0 ?_
        refine j_istore h dX1_weigh_111 rfl rfl ?_
        refine j_wk (ls' := [some (.ref (G.2.2 58)), some (.ref (G.2.2 26)), some (.ref (G.2.2 53)), some (.int x3), some (.int r4), some (.int (0 : Int32))]) (And.intro rfl (And.intro rfl (And.intro rfl (And.intro rfl (And.intro rfl (And.intro rfl trivial)))))) ?_
        exact ih.2.2 x3 r4 (0 : Int32) m
    · intro x3 x4 x5 m
      rw [gX1_weigh]
      refine j_iload h dX1_weigh_113 rfl ?_
      refine j_aload_n h dX1_weigh_115 rfl ?_
      refine gC1_46 h dX1_weigh_116 ?_
      refine j_icmp_ge (tgt := 142) h dX1_weigh_119 (by decide) (fun c1 => ?_) (fun c1 => ?_)
      · refine j_iinc (v := (x3 + (1 : Int32))) h dX1_weigh_142 rfl (by rw [kiconst_1]) rfl ?_
        refine j_goto (tgt := 84) h dX1_weigh_145 (by decide) ?_
        refine j_wk (ls' := [some (.ref (G.2.2 58)), some (.ref (G.2.2 26)), some (.ref (G.2.2 53)), some (.int (x3 + (1 : Int32))), none, none]) (And.intro rfl (And.intro rfl (And.intro rfl (And.intro rfl trivial)))) ?_
        exact ih.2.1 (x3 + (1 : Int32)) 0 0 m
      · refine j_iload h dX1_weigh_122 rfl ?_
        refine j_if_ne (tgt := 142) h dX1_weigh_124 (by decide) (fun c2 => ?_) (fun c2 => ?_)
        · refine j_iinc (v := (x3 + (1 : Int32))) h dX1_weigh_142 rfl (by rw [kiconst_1]) rfl ?_
          refine j_goto (tgt := 84) h dX1_weigh_145 (by decide) ?_
          refine j_wk (ls' := [some (.ref (G.2.2 58)), some (.ref (G.2.2 26)), some (.ref (G.2.2 53)), some (.int (x3 + (1 : Int32))), none, none]) (And.intro rfl (And.intro rfl (And.intro rfl (And.intro rfl trivial)))) ?_
          exact ih.2.1 (x3 + (1 : Int32)) 0 0 m
        · refine j_aload_n h dX1_weigh_127 rfl ?_
          refine j_aload_n h dX1_weigh_128 rfl ?_
          refine j_iload_n h dX1_weigh_129 rfl ?_
          refine j_iload h dX1_weigh_130 rfl ?_
          refine j_aload_n h dX1_weigh_132 rfl ?_
          refine j_callVV (q0 := 58) (ci := 1) h [.ref (G.2.2 26), .int x3, .int x5, .ref (G.2.2 53)] (kX1_weighNoise _ G h.2.2.2.2.2.2.2.2.2.2 m x3 x5) okX1_weighNoise inX1_weighNoise ml1_85 rfl rfl rfl rfl (by decide) (by decide) (Nat.le_of_ble_eq_true rfl) rfl dX1_weigh_133 (fun m4 hm4 => ?_)
          refine j_iinc (v := (x5 + (1 : Int32))) h dX1_weigh_136 rfl (by rw [kiconst_1]) rfl ?_
          refine j_goto (tgt := 113) h dX1_weigh_139 (by decide) ?_
          refine j_wk (ls' := [some (.ref (G.2.2 58)), some (.ref (G.2.2 26)), some (.ref (G.2.2 53)), some (.int x3), some (.int x4), some (.int (x5 + (1 : Int32)))]) (And.intro rfl (And.intro rfl (And.intro rfl (And.intro rfl (And.intro rfl (And.intro rfl trivial)))))) ?_
          exact ih.2.2 x3 x4 (x5 + (1 : Int32)) m4
set_option maxHeartbeats 4000000 in
set_option maxRecDepth 100000 in
theorem kX1_weigh (l : Launch) (G : Gt) (hD : ∀ m, va_D (inA G nC) (wC G m)) (m : Mem) : ∀ a, fX1_weigh m = some a → Ct l G wC nC yX1_weigh cX1_weigh 6 none 6 [.ref (G.2.2 58), .ref (G.2.2 26)] m (cvV a) := by
  refine ct_of (own := RX1) (ls0 := [some (.ref (G.2.2 58)), some (.ref (G.2.2 26)), none, none, none, none]) (by decide) rfl rfl rfl (Nat.le_of_ble_eq_true rfl) hD (fun X h => ?_) l
  unfold fX1_weigh
  refine j_aload_n h dX1_weigh_0 rfl ?_
  refine j_callVR (q0 := 26) (ci := 9) h [] (kX9_today _ G h.2.2.2.2.2.2.2.2.2.2 m) okX9_today inX9_today ml1_34 rfl rfl rfl rfl (by decide) (by decide) (Nat.le_of_ble_eq_true rfl) rfl dX1_weigh_1 (fun r1 m2 hr1 => ?_)
  refine j_gEq (fun hg3 => ?_)
  subst hg3
  refine j_astore_n h dX1_weigh_4 rfl rfl ?_
  refine j_aload_n h dX1_weigh_5 rfl ?_
  refine j_aload_n h dX1_weigh_6 rfl ?_
  refine gC1_38 h dX1_weigh_7 ?_
  refine j_gPl (fun hg4 => ?_)
  refine gC1_42 h hg4 dX1_weigh_10 ?_
  refine pC1_46 h dX1_weigh_13 (fun m5 hm5 => ?_)
  refine j_aload_n h dX1_weigh_16 rfl ?_
  refine gC1_47 h dX1_weigh_17 ?_
  refine gC1_51 h dX1_weigh_20 ?_
  refine j_iconst (v := (0 : Int32)) h dX1_weigh_23 kiconst_0 ?_
  refine j_aload_n h dX1_weigh_24 rfl ?_
  refine gC1_13 h dX1_weigh_25 ?_
  refine j_iconst (v := (0 : Int32)) h dX1_weigh_28 kiconst_0 ?_
  refine j_aload_n h dX1_weigh_29 rfl ?_
  refine gC1_13 h dX1_weigh_30 ?_
  refine j_alen (q0 := 59) (v := (7 : Int32)) h rfl rfl dX1_weigh_33 ?_
  refine j_copy (q0 := 28) (q1 := 59) h ml1_56 (at_28) (at_59) (se_59) (Nat.le_of_ble_eq_true rfl) rfl (by decide) dX1_weigh_34 (fun m6 hm6 => ?_)
  refine j_aload_n h dX1_weigh_37 rfl ?_
  refine gC1_19 h dX1_weigh_38 ?_
  refine j_iconst (v := (0 : Int32)) h dX1_weigh_41 kiconst_0 ?_
  refine j_fill (q := 60) h ml1_62 (at_60) (se_60) (by decide) (Nat.le_of_ble_eq_true rfl) rfl (by decide) dX1_weigh_42 (fun m7 hm7 => ?_)
  refine j_aload_n h dX1_weigh_45 rfl ?_
  refine gC1_22 h dX1_weigh_46 ?_
  refine j_iconst (v := (0 : Int32)) h dX1_weigh_49 kiconst_0 ?_
  refine j_fill (q := 61) h ml1_62 (at_61) (se_61) (by decide) (Nat.le_of_ble_eq_true rfl) rfl (by decide) dX1_weigh_50 (fun m8 hm8 => ?_)
  refine j_iconst (v := (0 : Int32)) h dX1_weigh_53 kiconst_0 ?_
  refine j_istore_n h dX1_weigh_54 rfl rfl ?_
  refine j_wk (ls' := [some (.ref (G.2.2 58)), some (.ref (G.2.2 26)), some (.ref (G.2.2 53)), some (.int (0 : Int32)), none, none]) (And.intro rfl (And.intro rfl (And.intro rfl (And.intro rfl trivial)))) ?_
  exact (wX1_weigh h 5000).1 (0 : Int32) 0 0 m8
theorem dX1_addUpFrom_0 : DD cX1_addUpFrom 0 (.iload_n 1) 1 1 := ⟨by decide +kernel, rfl⟩
theorem dX1_addUpFrom_1 : DD cX1_addUpFrom 1 (.istore_n 2) 1 2 := ⟨by decide +kernel, rfl⟩
theorem dX1_addUpFrom_2 : DD cX1_addUpFrom 2 (.iload_n 2) 1 3 := ⟨by decide +kernel, rfl⟩
theorem dX1_addUpFrom_3 : DD cX1_addUpFrom 3 (.aload_n 0) 1 4 := ⟨by decide +kernel, rfl⟩
theorem dX1_addUpFrom_4 : DD cX1_addUpFrom 4 (.getfield 46) 3 7 := ⟨by decide +kernel, rfl⟩
theorem dX1_addUpFrom_7 : DD cX1_addUpFrom 7 (.if_icmp .ge 115) 3 10 := ⟨by decide +kernel, rfl⟩
theorem dX1_addUpFrom_10 : DD cX1_addUpFrom 10 (.iload_n 2) 1 11 := ⟨by decide +kernel, rfl⟩
theorem dX1_addUpFrom_11 : DD cX1_addUpFrom 11 (.aload_n 0) 1 12 := ⟨by decide +kernel, rfl⟩
theorem dX1_addUpFrom_12 : DD cX1_addUpFrom 12 (.getfield 25) 3 15 := ⟨by decide +kernel, rfl⟩
theorem dX1_addUpFrom_15 : DD cX1_addUpFrom 15 (.iload_n 2) 1 16 := ⟨by decide +kernel, rfl⟩
theorem dX1_addUpFrom_16 : DD cX1_addUpFrom 16 (.iaload) 1 17 := ⟨by decide +kernel, rfl⟩
theorem dX1_addUpFrom_17 : DD cX1_addUpFrom 17 (.invokestatic 104) 3 20 := ⟨by decide +kernel, rfl⟩
theorem dX1_addUpFrom_20 : DD cX1_addUpFrom 20 (.istore_n 3) 1 21 := ⟨by decide +kernel, rfl⟩
theorem dX1_addUpFrom_21 : DD cX1_addUpFrom 21 (.aload_n 0) 1 22 := ⟨by decide +kernel, rfl⟩
theorem dX1_addUpFrom_22 : DD cX1_addUpFrom 22 (.getfield 28) 3 25 := ⟨by decide +kernel, rfl⟩
theorem dX1_addUpFrom_25 : DD cX1_addUpFrom 25 (.iload_n 2) 1 26 := ⟨by decide +kernel, rfl⟩
theorem dX1_addUpFrom_26 : DD cX1_addUpFrom 26 (.iaload) 1 27 := ⟨by decide +kernel, rfl⟩
theorem dX1_addUpFrom_27 : DD cX1_addUpFrom 27 (.istore 4) 2 29 := ⟨by decide +kernel, rfl⟩
theorem dX1_addUpFrom_29 : DD cX1_addUpFrom 29 (.iconst 0) 1 30 := ⟨by decide +kernel, rfl⟩
theorem dX1_addUpFrom_30 : DD cX1_addUpFrom 30 (.istore 5) 2 32 := ⟨by decide +kernel, rfl⟩
theorem dX1_addUpFrom_32 : DD cX1_addUpFrom 32 (.iload 5) 2 34 := ⟨by decide +kernel, rfl⟩
theorem dX1_addUpFrom_34 : DD cX1_addUpFrom 34 (.iload_n 2) 1 35 := ⟨by decide +kernel, rfl⟩
theorem dX1_addUpFrom_35 : DD cX1_addUpFrom 35 (.if_icmp .ge 36) 3 38 := ⟨by decide +kernel, rfl⟩
theorem dX1_addUpFrom_38 : DD cX1_addUpFrom 38 (.iload 4) 2 40 := ⟨by decide +kernel, rfl⟩
theorem dX1_addUpFrom_40 : DD cX1_addUpFrom 40 (.aload_n 0) 1 41 := ⟨by decide +kernel, rfl⟩
theorem dX1_addUpFrom_41 : DD cX1_addUpFrom 41 (.getfield 22) 3 44 := ⟨by decide +kernel, rfl⟩
theorem dX1_addUpFrom_44 : DD cX1_addUpFrom 44 (.iload_n 3) 1 45 := ⟨by decide +kernel, rfl⟩
theorem dX1_addUpFrom_45 : DD cX1_addUpFrom 45 (.bipush 21) 2 47 := ⟨by decide +kernel, rfl⟩
theorem dX1_addUpFrom_47 : DD cX1_addUpFrom 47 (.imul) 1 48 := ⟨by decide +kernel, rfl⟩
theorem dX1_addUpFrom_48 : DD cX1_addUpFrom 48 (.iload 5) 2 50 := ⟨by decide +kernel, rfl⟩
theorem dX1_addUpFrom_50 : DD cX1_addUpFrom 50 (.aload_n 0) 1 51 := ⟨by decide +kernel, rfl⟩
theorem dX1_addUpFrom_51 : DD cX1_addUpFrom 51 (.getfield 25) 3 54 := ⟨by decide +kernel, rfl⟩
theorem dX1_addUpFrom_54 : DD cX1_addUpFrom 54 (.iload 5) 2 56 := ⟨by decide +kernel, rfl⟩
theorem dX1_addUpFrom_56 : DD cX1_addUpFrom 56 (.iaload) 1 57 := ⟨by decide +kernel, rfl⟩
theorem dX1_addUpFrom_57 : DD cX1_addUpFrom 57 (.invokestatic 104) 3 60 := ⟨by decide +kernel, rfl⟩
theorem dX1_addUpFrom_60 : DD cX1_addUpFrom 60 (.iadd) 1 61 := ⟨by decide +kernel, rfl⟩
theorem dX1_addUpFrom_61 : DD cX1_addUpFrom 61 (.iaload) 1 62 := ⟨by decide +kernel, rfl⟩
theorem dX1_addUpFrom_62 : DD cX1_addUpFrom 62 (.iadd) 1 63 := ⟨by decide +kernel, rfl⟩
theorem dX1_addUpFrom_63 : DD cX1_addUpFrom 63 (.istore 4) 2 65 := ⟨by decide +kernel, rfl⟩
theorem dX1_addUpFrom_65 : DD cX1_addUpFrom 65 (.iinc 5 1) 3 68 := ⟨by decide +kernel, rfl⟩
theorem dX1_addUpFrom_68 : DD cX1_addUpFrom 68 (.goto (-36)) 3 71 := ⟨by decide +kernel, rfl⟩
theorem dX1_addUpFrom_71 : DD cX1_addUpFrom 71 (.aload_n 0) 1 72 := ⟨by decide +kernel, rfl⟩
theorem dX1_addUpFrom_72 : DD cX1_addUpFrom 72 (.getfield 28) 3 75 := ⟨by decide +kernel, rfl⟩
theorem dX1_addUpFrom_75 : DD cX1_addUpFrom 75 (.iload_n 2) 1 76 := ⟨by decide +kernel, rfl⟩
theorem dX1_addUpFrom_76 : DD cX1_addUpFrom 76 (.iconst 1) 1 77 := ⟨by decide +kernel, rfl⟩
theorem dX1_addUpFrom_77 : DD cX1_addUpFrom 77 (.iadd) 1 78 := ⟨by decide +kernel, rfl⟩
theorem dX1_addUpFrom_78 : DD cX1_addUpFrom 78 (.iload 4) 2 80 := ⟨by decide +kernel, rfl⟩
theorem dX1_addUpFrom_80 : DD cX1_addUpFrom 80 (.iastore) 1 81 := ⟨by decide +kernel, rfl⟩
theorem dX1_addUpFrom_81 : DD cX1_addUpFrom 81 (.aload_n 0) 1 82 := ⟨by decide +kernel, rfl⟩
theorem dX1_addUpFrom_82 : DD cX1_addUpFrom 82 (.getfield 31) 3 85 := ⟨by decide +kernel, rfl⟩
theorem dX1_addUpFrom_85 : DD cX1_addUpFrom 85 (.iload_n 2) 1 86 := ⟨by decide +kernel, rfl⟩
theorem dX1_addUpFrom_86 : DD cX1_addUpFrom 86 (.iconst 1) 1 87 := ⟨by decide +kernel, rfl⟩
theorem dX1_addUpFrom_87 : DD cX1_addUpFrom 87 (.iadd) 1 88 := ⟨by decide +kernel, rfl⟩
theorem dX1_addUpFrom_88 : DD cX1_addUpFrom 88 (.aload_n 0) 1 89 := ⟨by decide +kernel, rfl⟩
theorem dX1_addUpFrom_89 : DD cX1_addUpFrom 89 (.getfield 31) 3 92 := ⟨by decide +kernel, rfl⟩
theorem dX1_addUpFrom_92 : DD cX1_addUpFrom 92 (.iload_n 2) 1 93 := ⟨by decide +kernel, rfl⟩
theorem dX1_addUpFrom_93 : DD cX1_addUpFrom 93 (.iaload) 1 94 := ⟨by decide +kernel, rfl⟩
theorem dX1_addUpFrom_94 : DD cX1_addUpFrom 94 (.aload_n 0) 1 95 := ⟨by decide +kernel, rfl⟩
theorem dX1_addUpFrom_95 : DD cX1_addUpFrom 95 (.getfield 25) 3 98 := ⟨by decide +kernel, rfl⟩
theorem dX1_addUpFrom_98 : DD cX1_addUpFrom 98 (.iload_n 2) 1 99 := ⟨by decide +kernel, rfl⟩
theorem dX1_addUpFrom_99 : DD cX1_addUpFrom 99 (.iaload) 1 100 := ⟨by decide +kernel, rfl⟩
theorem dX1_addUpFrom_100 : DD cX1_addUpFrom 100 (.aload_n 0) 1 101 := ⟨by decide +kernel, rfl⟩
theorem dX1_addUpFrom_101 : DD cX1_addUpFrom 101 (.getfield 13) 3 104 := ⟨by decide +kernel, rfl⟩
theorem dX1_addUpFrom_104 : DD cX1_addUpFrom 104 (.iload_n 2) 1 105 := ⟨by decide +kernel, rfl⟩
theorem dX1_addUpFrom_105 : DD cX1_addUpFrom 105 (.iaload) 1 106 := ⟨by decide +kernel, rfl⟩
theorem dX1_addUpFrom_106 : DD cX1_addUpFrom 106 (.if_icmp .ne 7) 3 109 := ⟨by decide +kernel, rfl⟩
theorem dX1_addUpFrom_109 : DD cX1_addUpFrom 109 (.iconst 0) 1 110 := ⟨by decide +kernel, rfl⟩
theorem dX1_addUpFrom_110 : DD cX1_addUpFrom 110 (.goto 4) 3 113 := ⟨by decide +kernel, rfl⟩
theorem dX1_addUpFrom_113 : DD cX1_addUpFrom 113 (.iconst 1) 1 114 := ⟨by decide +kernel, rfl⟩
theorem dX1_addUpFrom_114 : DD cX1_addUpFrom 114 (.iadd) 1 115 := ⟨by decide +kernel, rfl⟩
theorem dX1_addUpFrom_115 : DD cX1_addUpFrom 115 (.iastore) 1 116 := ⟨by decide +kernel, rfl⟩
theorem dX1_addUpFrom_116 : DD cX1_addUpFrom 116 (.iinc 2 1) 3 119 := ⟨by decide +kernel, rfl⟩
theorem dX1_addUpFrom_119 : DD cX1_addUpFrom 119 (.goto (-117)) 3 122 := ⟨by decide +kernel, rfl⟩
theorem dX1_addUpFrom_122 : DD cX1_addUpFrom 122 (.return_) 1 123 := ⟨by decide +kernel, rfl⟩
def gX1_addUpFrom : Nat → Nat → Int32 → Int32 → Int32 → Int32 → Mem → Option Mem
  | 0, _, _, _, _, _, _ => none
  | f + 1, 0, x2, x3, x4, x5, m => (if (m.1 58 0) ≤ x2 then (some m) else (rd (m.1 62) 7 x2 fun v2 => (cP (fX1_placeOf x2 v2) fun r3 => (rd (m.1 63) 8 x2 fun v5 => (gX1_addUpFrom f 1 x2 r3 v5 (0 : Int32) m)))))
  | f + 1, 1, x2, x3, x4, x5, m => (if x2 ≤ x5 then (wr m 63 8 (x2 + (1 : Int32)) x4 fun m2 => (rd (m2.1 64) 8 x2 fun v3 => (rd (m2.1 62) 7 x2 fun v4 => (rd (m2.1 59) 7 x2 fun v5 => (if v4 = v5 then (wr m2 64 8 (x2 + (1 : Int32)) (v3 + (0 : Int32)) fun m8 => (gX1_addUpFrom f 0 (x2 + (1 : Int32)) 0 0 0 m8)) else (wr m2 64 8 (x2 + (1 : Int32)) (v3 + (1 : Int32)) fun m7 => (gX1_addUpFrom f 0 (x2 + (1 : Int32)) 0 0 0 m7))))))) else (rd (m.1 62) 7 x5 fun v9 => (cP (fX1_placeOf x5 v9) fun r10 => (rd (m.1 61) 441 ((x3 * (21 : Int32)) + r10) fun v12 => (nm (x4 + v12) fun v13 => (gX1_addUpFrom f 1 x2 x3 v13 (x5 + (1 : Int32)) m))))))
  | _ + 1, _ + 2, _, _, _, _, _ => none
def fX1_addUpFrom (m : Mem) (x1 : Int32) : Option Mem := (gX1_addUpFrom 5000 0 x1 0 0 0 m)
set_option maxHeartbeats 4000000 in
set_option maxRecDepth 100000 in
theorem wX1_addUpFrom {X : Cx} {G : Gt} (h : OkX (X, G, wC, nC) cX1_addUpFrom RX1 6 none 2) : ∀ f : Nat, (∀ (x2 : Int32) (x3 : Int32) (x4 : Int32) (x5 : Int32) (m : Mem), JR (X, G, wC, nC) cvV m 2 [some (.ref (G.2.2 58)), none, some (.int x2), none, none, none] [] (gX1_addUpFrom f 0 x2 x3 x4 x5 m)) ∧ (∀ (x2 : Int32) (x3 : Int32) (x4 : Int32) (x5 : Int32) (m : Mem), JR (X, G, wC, nC) cvV m 32 [some (.ref (G.2.2 58)), none, some (.int x2), some (.int x3), some (.int x4), some (.int x5)] [] (gX1_addUpFrom f 1 x2 x3 x4 x5 m)) := by
  intro f
  induction f with
  | zero => exact ⟨(fun _ _ _ _ _ => j_none), (fun _ _ _ _ _ => j_none)⟩
  | succ f ih =>
    refine ⟨?_, ?_⟩
    · intro x2 x3 x4 x5 m
      rw [gX1_addUpFrom]
      refine j_iload_n h dX1_addUpFrom_2 rfl ?_
      refine j_aload_n h dX1_addUpFrom_3 rfl ?_
      refine gC1_46 h dX1_addUpFrom_4 ?_
      refine j_icmp_ge (tgt := 122) h dX1_addUpFrom_7 (by decide) (fun c1 => ?_) (fun c1 => ?_)
      · exact j_vret h rfl dX1_addUpFrom_122
      · refine j_iload_n h dX1_addUpFrom_10 rfl ?_
        refine j_aload_n h dX1_addUpFrom_11 rfl ?_
        refine gC1_25 h dX1_addUpFrom_12 ?_
        refine j_iload_n h dX1_addUpFrom_15 rfl ?_
        refine aC_62 h dX1_addUpFrom_16 (fun v2 hv2 => ?_)
        refine j_callSP h [.int x2, .int v2] (kX1_placeOf _ G h.2.2.2.2.2.2.2.2.2.2 m x2 v2) okX1_placeOf stX1_placeOf ml1_104 rfl rfl (by decide) (by decide) (Nat.le_of_ble_eq_true rfl) rfl dX1_addUpFrom_17 (fun r3 hr3 => ?_)
        refine j_istore_n h dX1_addUpFrom_20 rfl rfl ?_
        refine j_aload_n h dX1_addUpFrom_21 rfl ?_
        refine gC1_28 h dX1_addUpFrom_22 ?_
        refine j_iload_n h dX1_addUpFrom_25 rfl ?_
        refine aC_63 h dX1_addUpFrom_26 (fun v5 hv5 => ?_)
        refine j_istore h dX1_addUpFrom_27 rfl rfl ?_
        refine j_iconst (v := (0 : Int32)) h dX1_addUpFrom_29 kiconst_0 ?_
        refine j_istore h dX1_addUpFrom_30 rfl rfl ?_
        refine j_wk (ls' := [some (.ref (G.2.2 58)), none, some (.int x2), some (.int r3), some (.int v5), some (.int (0 : Int32))]) (And.intro rfl (And.intro rfl (And.intro rfl (And.intro rfl (And.intro rfl trivial))))) ?_
        exact ih.2 x2 r3 v5 (0 : Int32) m
    · intro x2 x3 x4 x5 m
      rw [gX1_addUpFrom]
      refine j_iload h dX1_addUpFrom_32 rfl ?_
      refine j_iload_n h dX1_addUpFrom_34 rfl ?_
      refine j_icmp_ge (tgt := 71) h dX1_addUpFrom_35 (by decide) (fun c1 => ?_) (fun c1 => ?_)
      · refine j_aload_n h dX1_addUpFrom_71 rfl ?_
        refine gC1_28 h dX1_addUpFrom_72 ?_
        refine j_iload_n h dX1_addUpFrom_75 rfl ?_
        refine j_iconst (v := (1 : Int32)) h dX1_addUpFrom_76 kiconst_1 ?_
        refine j_iadd h dX1_addUpFrom_77 ?_
        refine j_iload h dX1_addUpFrom_78 rfl ?_
        refine bC_63 h dX1_addUpFrom_80 (fun m2 hm2 => ?_)
        refine j_aload_n h dX1_addUpFrom_81 rfl ?_
        refine gC1_31 h dX1_addUpFrom_82 ?_
        refine j_iload_n h dX1_addUpFrom_85 rfl ?_
        refine j_iconst (v := (1 : Int32)) h dX1_addUpFrom_86 kiconst_1 ?_
        refine j_iadd h dX1_addUpFrom_87 ?_
        refine j_aload_n h dX1_addUpFrom_88 rfl ?_
        refine gC1_31 h dX1_addUpFrom_89 ?_
        refine j_iload_n h dX1_addUpFrom_92 rfl ?_
        refine aC_64 h dX1_addUpFrom_93 (fun v3 hv3 => ?_)
        refine j_aload_n h dX1_addUpFrom_94 rfl ?_
        refine gC1_25 h dX1_addUpFrom_95 ?_
        refine j_iload_n h dX1_addUpFrom_98 rfl ?_
        refine aC_62 h dX1_addUpFrom_99 (fun v4 hv4 => ?_)
        refine j_aload_n h dX1_addUpFrom_100 rfl ?_
        refine gC1_13 h dX1_addUpFrom_101 ?_
        refine j_iload_n h dX1_addUpFrom_104 rfl ?_
        refine aC_59 h dX1_addUpFrom_105 (fun v5 hv5 => ?_)
        refine j_icmp_ne (tgt := 113) h dX1_addUpFrom_106 (by decide) (fun c6 => ?_) (fun c6 => ?_)
        · refine j_iconst (v := (1 : Int32)) h dX1_addUpFrom_113 kiconst_1 ?_
          refine j_iadd h dX1_addUpFrom_114 ?_
          refine bC_64 h dX1_addUpFrom_115 (fun m7 hm7 => ?_)
          refine j_iinc (v := (x2 + (1 : Int32))) h dX1_addUpFrom_116 rfl (by rw [kiconst_1]) rfl ?_
          refine j_goto (tgt := 2) h dX1_addUpFrom_119 (by decide) ?_
          refine j_wk (ls' := [some (.ref (G.2.2 58)), none, some (.int (x2 + (1 : Int32))), none, none, none]) (And.intro rfl (And.intro rfl trivial)) ?_
          exact ih.1 (x2 + (1 : Int32)) 0 0 0 m7
        · refine j_iconst (v := (0 : Int32)) h dX1_addUpFrom_109 kiconst_0 ?_
          refine j_goto (tgt := 114) h dX1_addUpFrom_110 (by decide) ?_
          refine j_iadd h dX1_addUpFrom_114 ?_
          refine bC_64 h dX1_addUpFrom_115 (fun m8 hm8 => ?_)
          refine j_iinc (v := (x2 + (1 : Int32))) h dX1_addUpFrom_116 rfl (by rw [kiconst_1]) rfl ?_
          refine j_goto (tgt := 2) h dX1_addUpFrom_119 (by decide) ?_
          refine j_wk (ls' := [some (.ref (G.2.2 58)), none, some (.int (x2 + (1 : Int32))), none, none, none]) (And.intro rfl (And.intro rfl trivial)) ?_
          exact ih.1 (x2 + (1 : Int32)) 0 0 0 m8
      · refine j_iload h dX1_addUpFrom_38 rfl ?_
        refine j_aload_n h dX1_addUpFrom_40 rfl ?_
        refine gC1_22 h dX1_addUpFrom_41 ?_
        refine j_iload_n h dX1_addUpFrom_44 rfl ?_
        refine j_bipush (v := (21 : Int32)) h dX1_addUpFrom_45 kbipush_21 ?_
        refine j_imul h dX1_addUpFrom_47 ?_
        refine j_iload h dX1_addUpFrom_48 rfl ?_
        refine j_aload_n h dX1_addUpFrom_50 rfl ?_
        refine gC1_25 h dX1_addUpFrom_51 ?_
        refine j_iload h dX1_addUpFrom_54 rfl ?_
        refine aC_62 h dX1_addUpFrom_56 (fun v9 hv9 => ?_)
        refine j_callSP h [.int x5, .int v9] (kX1_placeOf _ G h.2.2.2.2.2.2.2.2.2.2 m x5 v9) okX1_placeOf stX1_placeOf ml1_104 rfl rfl (by decide) (by decide) (Nat.le_of_ble_eq_true rfl) rfl dX1_addUpFrom_57 (fun r10 hr10 => ?_)
        refine j_iadd h dX1_addUpFrom_60 ?_
        refine aC_61 h dX1_addUpFrom_61 (fun v12 hv12 => ?_)
        refine j_iadd h dX1_addUpFrom_62 ?_
        refine j_nm (fun v13 hv13 => ?_)
        refine j_istore h dX1_addUpFrom_63 rfl rfl ?_
        refine j_iinc (v := (x5 + (1 : Int32))) h dX1_addUpFrom_65 rfl (by rw [kiconst_1]) rfl ?_
        refine j_goto (tgt := 32) h dX1_addUpFrom_68 (by decide) ?_
        refine j_wk (ls' := [some (.ref (G.2.2 58)), none, some (.int x2), some (.int x3), some (.int v13), some (.int (x5 + (1 : Int32)))]) (And.intro rfl (And.intro rfl (And.intro rfl (And.intro rfl (And.intro rfl trivial))))) ?_
        exact ih.2 x2 x3 v13 (x5 + (1 : Int32)) m
set_option maxHeartbeats 4000000 in
set_option maxRecDepth 100000 in
theorem kX1_addUpFrom (l : Launch) (G : Gt) (hD : ∀ m, va_D (inA G nC) (wC G m)) (m : Mem) (x1 : Int32) : ∀ a, fX1_addUpFrom m x1 = some a → Ct l G wC nC yX1_addUpFrom cX1_addUpFrom 6 none 2 [.ref (G.2.2 58), .int x1] m (cvV a) := by
  refine ct_of (own := RX1) (ls0 := [some (.ref (G.2.2 58)), some (.int x1), none, none, none, none]) (by decide) rfl rfl rfl (Nat.le_of_ble_eq_true rfl) hD (fun X h => ?_) l
  unfold fX1_addUpFrom
  refine j_iload_n h dX1_addUpFrom_0 rfl ?_
  refine j_istore_n h dX1_addUpFrom_1 rfl rfl ?_
  refine j_wk (ls' := [some (.ref (G.2.2 58)), none, some (.int x1), none, none, none]) (And.intro rfl (And.intro rfl trivial)) ?_
  exact (wX1_addUpFrom h 5000).1 x1 0 0 0 m
theorem dX1_nextTrial_0 : DD cX1_nextTrial 0 (.aload_n 0) 1 1 := ⟨by decide +kernel, rfl⟩
theorem dX1_nextTrial_1 : DD cX1_nextTrial 1 (.getfield 46) 3 4 := ⟨by decide +kernel, rfl⟩
theorem dX1_nextTrial_4 : DD cX1_nextTrial 4 (.iconst 1) 1 5 := ⟨by decide +kernel, rfl⟩
theorem dX1_nextTrial_5 : DD cX1_nextTrial 5 (.isub) 1 6 := ⟨by decide +kernel, rfl⟩
theorem dX1_nextTrial_6 : DD cX1_nextTrial 6 (.istore_n 1) 1 7 := ⟨by decide +kernel, rfl⟩
theorem dX1_nextTrial_7 : DD cX1_nextTrial 7 (.iload_n 1) 1 8 := ⟨by decide +kernel, rfl⟩
theorem dX1_nextTrial_8 : DD cX1_nextTrial 8 (.ifCond .lt 38) 3 11 := ⟨by decide +kernel, rfl⟩
theorem dX1_nextTrial_11 : DD cX1_nextTrial 11 (.aload_n 0) 1 12 := ⟨by decide +kernel, rfl⟩
theorem dX1_nextTrial_12 : DD cX1_nextTrial 12 (.getfield 25) 3 15 := ⟨by decide +kernel, rfl⟩
theorem dX1_nextTrial_15 : DD cX1_nextTrial 15 (.iload_n 1) 1 16 := ⟨by decide +kernel, rfl⟩
theorem dX1_nextTrial_16 : DD cX1_nextTrial 16 (.dup2) 1 17 := ⟨by decide +kernel, rfl⟩
theorem dX1_nextTrial_17 : DD cX1_nextTrial 17 (.iaload) 1 18 := ⟨by decide +kernel, rfl⟩
theorem dX1_nextTrial_18 : DD cX1_nextTrial 18 (.iconst 1) 1 19 := ⟨by decide +kernel, rfl⟩
theorem dX1_nextTrial_19 : DD cX1_nextTrial 19 (.iadd) 1 20 := ⟨by decide +kernel, rfl⟩
theorem dX1_nextTrial_20 : DD cX1_nextTrial 20 (.iastore) 1 21 := ⟨by decide +kernel, rfl⟩
theorem dX1_nextTrial_21 : DD cX1_nextTrial 21 (.aload_n 0) 1 22 := ⟨by decide +kernel, rfl⟩
theorem dX1_nextTrial_22 : DD cX1_nextTrial 22 (.getfield 25) 3 25 := ⟨by decide +kernel, rfl⟩
theorem dX1_nextTrial_25 : DD cX1_nextTrial 25 (.iload_n 1) 1 26 := ⟨by decide +kernel, rfl⟩
theorem dX1_nextTrial_26 : DD cX1_nextTrial 26 (.iaload) 1 27 := ⟨by decide +kernel, rfl⟩
theorem dX1_nextTrial_27 : DD cX1_nextTrial 27 (.iconst 3) 1 28 := ⟨by decide +kernel, rfl⟩
theorem dX1_nextTrial_28 : DD cX1_nextTrial 28 (.if_icmp .ge 5) 3 31 := ⟨by decide +kernel, rfl⟩
theorem dX1_nextTrial_31 : DD cX1_nextTrial 31 (.iload_n 1) 1 32 := ⟨by decide +kernel, rfl⟩
theorem dX1_nextTrial_32 : DD cX1_nextTrial 32 (.ireturn) 1 33 := ⟨by decide +kernel, rfl⟩
theorem dX1_nextTrial_33 : DD cX1_nextTrial 33 (.aload_n 0) 1 34 := ⟨by decide +kernel, rfl⟩
theorem dX1_nextTrial_34 : DD cX1_nextTrial 34 (.getfield 25) 3 37 := ⟨by decide +kernel, rfl⟩
theorem dX1_nextTrial_37 : DD cX1_nextTrial 37 (.iload_n 1) 1 38 := ⟨by decide +kernel, rfl⟩
theorem dX1_nextTrial_38 : DD cX1_nextTrial 38 (.iconst 0) 1 39 := ⟨by decide +kernel, rfl⟩
theorem dX1_nextTrial_39 : DD cX1_nextTrial 39 (.iastore) 1 40 := ⟨by decide +kernel, rfl⟩
theorem dX1_nextTrial_40 : DD cX1_nextTrial 40 (.iinc 1 (-1)) 3 43 := ⟨by decide +kernel, rfl⟩
theorem dX1_nextTrial_43 : DD cX1_nextTrial 43 (.goto (-36)) 3 46 := ⟨by decide +kernel, rfl⟩
theorem dX1_nextTrial_46 : DD cX1_nextTrial 46 (.iconst (-1)) 1 47 := ⟨by decide +kernel, rfl⟩
theorem dX1_nextTrial_47 : DD cX1_nextTrial 47 (.ireturn) 1 48 := ⟨by decide +kernel, rfl⟩
def gX1_nextTrial : Nat → Int32 → Mem → Option (Int32 × Mem)
  | 0, _, _ => none
  | f + 1, x1, m => (if x1 < 0 then (some ((-1 : Int32), m)) else (rd (m.1 62) 7 x1 fun v2 => (wr m 62 7 x1 (v2 + (1 : Int32)) fun m3 => (rd (m3.1 62) 7 x1 fun v4 => (if (3 : Int32) ≤ v4 then (wr m3 62 7 x1 (0 : Int32) fun m6 => (gX1_nextTrial f (x1 + (-1 : Int32)) m6)) else (some (x1, m3)))))))
def fX1_nextTrial (m : Mem) : Option (Int32 × Mem) := (nm ((m.1 58 0) - (1 : Int32)) fun v1 => (gX1_nextTrial 5000 v1 m))
set_option maxHeartbeats 4000000 in
set_option maxRecDepth 100000 in
theorem wX1_nextTrial {X : Cx} {G : Gt} (h : OkX (X, G, wC, nC) cX1_nextTrial RX1 2 (some .int) 1) : ∀ f : Nat, (∀ (x1 : Int32) (m : Mem), JR (X, G, wC, nC) cvI m 7 [some (.ref (G.2.2 58)), some (.int x1)] [] (gX1_nextTrial f x1 m)) := by
  intro f
  induction f with
  | zero => exact (fun _ _ => j_none)
  | succ f ih =>
    intro x1 m
    rw [gX1_nextTrial]
    refine j_iload_n h dX1_nextTrial_7 rfl ?_
    refine j_if_lt (tgt := 46) h dX1_nextTrial_8 (by decide) (fun c1 => ?_) (fun c1 => ?_)
    · refine j_iconst (v := (-1 : Int32)) h dX1_nextTrial_46 kiconst_m1 ?_
      exact j_iret h rfl dX1_nextTrial_47
    · refine j_aload_n h dX1_nextTrial_11 rfl ?_
      refine gC1_25 h dX1_nextTrial_12 ?_
      refine j_iload_n h dX1_nextTrial_15 rfl ?_
      refine j_dup2 h dX1_nextTrial_16 rfl rfl ?_
      refine aC_62 h dX1_nextTrial_17 (fun v2 hv2 => ?_)
      refine j_iconst (v := (1 : Int32)) h dX1_nextTrial_18 kiconst_1 ?_
      refine j_iadd h dX1_nextTrial_19 ?_
      refine bC_62 h dX1_nextTrial_20 (fun m3 hm3 => ?_)
      refine j_aload_n h dX1_nextTrial_21 rfl ?_
      refine gC1_25 h dX1_nextTrial_22 ?_
      refine j_iload_n h dX1_nextTrial_25 rfl ?_
      refine aC_62 h dX1_nextTrial_26 (fun v4 hv4 => ?_)
      refine j_iconst (v := (3 : Int32)) h dX1_nextTrial_27 kiconst_3 ?_
      refine j_icmp_ge (tgt := 33) h dX1_nextTrial_28 (by decide) (fun c5 => ?_) (fun c5 => ?_)
      · refine j_aload_n h dX1_nextTrial_33 rfl ?_
        refine gC1_25 h dX1_nextTrial_34 ?_
        refine j_iload_n h dX1_nextTrial_37 rfl ?_
        refine j_iconst (v := (0 : Int32)) h dX1_nextTrial_38 kiconst_0 ?_
        refine bC_62 h dX1_nextTrial_39 (fun m6 hm6 => ?_)
        refine j_iinc (v := (x1 + (-1 : Int32))) h dX1_nextTrial_40 rfl (by rw [kiconst_m1]) rfl ?_
        refine j_goto (tgt := 7) h dX1_nextTrial_43 (by decide) ?_
        refine j_wk (ls' := [some (.ref (G.2.2 58)), some (.int (x1 + (-1 : Int32)))]) (And.intro rfl (And.intro rfl trivial)) ?_
        exact ih (x1 + (-1 : Int32)) m6
      · refine j_iload_n h dX1_nextTrial_31 rfl ?_
        exact j_iret h rfl dX1_nextTrial_32
set_option maxHeartbeats 4000000 in
set_option maxRecDepth 100000 in
theorem kX1_nextTrial (l : Launch) (G : Gt) (hD : ∀ m, va_D (inA G nC) (wC G m)) (m : Mem) : ∀ a, fX1_nextTrial m = some a → Ct l G wC nC yX1_nextTrial cX1_nextTrial 2 (some .int) 1 [.ref (G.2.2 58)] m (cvI a) := by
  refine ct_of (own := RX1) (ls0 := [some (.ref (G.2.2 58)), none]) (by decide) rfl rfl rfl (Nat.le_of_ble_eq_true rfl) hD (fun X h => ?_) l
  unfold fX1_nextTrial
  refine j_aload_n h dX1_nextTrial_0 rfl ?_
  refine gC1_46 h dX1_nextTrial_1 ?_
  refine j_iconst (v := (1 : Int32)) h dX1_nextTrial_4 kiconst_1 ?_
  refine j_isub h dX1_nextTrial_5 ?_
  refine j_nm (fun v1 hv1 => ?_)
  refine j_istore_n h dX1_nextTrial_6 rfl rfl ?_
  refine j_wk (ls' := [some (.ref (G.2.2 58)), some (.int v1)]) (And.intro rfl (And.intro rfl trivial)) ?_
  exact (wX1_nextTrial h 5000) v1 m
theorem dX1_bestForAll_0 : DD cX1_bestForAll 0 (.aload_n 0) 1 1 := ⟨by decide +kernel, rfl⟩
theorem dX1_bestForAll_1 : DD cX1_bestForAll 1 (.getfield 25) 3 4 := ⟨by decide +kernel, rfl⟩
theorem dX1_bestForAll_4 : DD cX1_bestForAll 4 (.iconst 0) 1 5 := ⟨by decide +kernel, rfl⟩
theorem dX1_bestForAll_5 : DD cX1_bestForAll 5 (.invokestatic 62) 3 8 := ⟨by decide +kernel, rfl⟩
theorem dX1_bestForAll_8 : DD cX1_bestForAll 8 (.iconst 0) 1 9 := ⟨by decide +kernel, rfl⟩
theorem dX1_bestForAll_9 : DD cX1_bestForAll 9 (.istore_n 2) 1 10 := ⟨by decide +kernel, rfl⟩
theorem dX1_bestForAll_10 : DD cX1_bestForAll 10 (.iconst 0) 1 11 := ⟨by decide +kernel, rfl⟩
theorem dX1_bestForAll_11 : DD cX1_bestForAll 11 (.istore_n 3) 1 12 := ⟨by decide +kernel, rfl⟩
theorem dX1_bestForAll_12 : DD cX1_bestForAll 12 (.iconst 0) 1 13 := ⟨by decide +kernel, rfl⟩
theorem dX1_bestForAll_13 : DD cX1_bestForAll 13 (.istore 4) 2 15 := ⟨by decide +kernel, rfl⟩
theorem dX1_bestForAll_15 : DD cX1_bestForAll 15 (.iconst 0) 1 16 := ⟨by decide +kernel, rfl⟩
theorem dX1_bestForAll_16 : DD cX1_bestForAll 16 (.istore 5) 2 18 := ⟨by decide +kernel, rfl⟩
theorem dX1_bestForAll_18 : DD cX1_bestForAll 18 (.iload 5) 2 20 := ⟨by decide +kernel, rfl⟩
theorem dX1_bestForAll_20 : DD cX1_bestForAll 20 (.sipush 2187) 3 23 := ⟨by decide +kernel, rfl⟩
theorem dX1_bestForAll_23 : DD cX1_bestForAll 23 (.if_icmp .ge 92) 3 26 := ⟨by decide +kernel, rfl⟩
theorem dX1_bestForAll_26 : DD cX1_bestForAll 26 (.iload 4) 2 28 := ⟨by decide +kernel, rfl⟩
theorem dX1_bestForAll_28 : DD cX1_bestForAll 28 (.iconst (-1)) 1 29 := ⟨by decide +kernel, rfl⟩
theorem dX1_bestForAll_29 : DD cX1_bestForAll 29 (.if_icmp .eq 86) 3 32 := ⟨by decide +kernel, rfl⟩
theorem dX1_bestForAll_32 : DD cX1_bestForAll 32 (.aload_n 0) 1 33 := ⟨by decide +kernel, rfl⟩
theorem dX1_bestForAll_33 : DD cX1_bestForAll 33 (.iload 4) 2 35 := ⟨by decide +kernel, rfl⟩
theorem dX1_bestForAll_35 : DD cX1_bestForAll 35 (.invokevirtual 125) 3 38 := ⟨by decide +kernel, rfl⟩
theorem dX1_bestForAll_38 : DD cX1_bestForAll 38 (.aload_n 0) 1 39 := ⟨by decide +kernel, rfl⟩
theorem dX1_bestForAll_39 : DD cX1_bestForAll 39 (.getfield 28) 3 42 := ⟨by decide +kernel, rfl⟩
theorem dX1_bestForAll_42 : DD cX1_bestForAll 42 (.aload_n 0) 1 43 := ⟨by decide +kernel, rfl⟩
theorem dX1_bestForAll_43 : DD cX1_bestForAll 43 (.getfield 46) 3 46 := ⟨by decide +kernel, rfl⟩
theorem dX1_bestForAll_46 : DD cX1_bestForAll 46 (.iaload) 1 47 := ⟨by decide +kernel, rfl⟩
theorem dX1_bestForAll_47 : DD cX1_bestForAll 47 (.istore 6) 2 49 := ⟨by decide +kernel, rfl⟩
theorem dX1_bestForAll_49 : DD cX1_bestForAll 49 (.aload_n 0) 1 50 := ⟨by decide +kernel, rfl⟩
theorem dX1_bestForAll_50 : DD cX1_bestForAll 50 (.getfield 31) 3 53 := ⟨by decide +kernel, rfl⟩
theorem dX1_bestForAll_53 : DD cX1_bestForAll 53 (.aload_n 0) 1 54 := ⟨by decide +kernel, rfl⟩
theorem dX1_bestForAll_54 : DD cX1_bestForAll 54 (.getfield 46) 3 57 := ⟨by decide +kernel, rfl⟩
theorem dX1_bestForAll_57 : DD cX1_bestForAll 57 (.iaload) 1 58 := ⟨by decide +kernel, rfl⟩
theorem dX1_bestForAll_58 : DD cX1_bestForAll 58 (.istore 7) 2 60 := ⟨by decide +kernel, rfl⟩
theorem dX1_bestForAll_60 : DD cX1_bestForAll 60 (.iload 5) 2 62 := ⟨by decide +kernel, rfl⟩
theorem dX1_bestForAll_62 : DD cX1_bestForAll 62 (.ifCond .eq 21) 3 65 := ⟨by decide +kernel, rfl⟩
theorem dX1_bestForAll_65 : DD cX1_bestForAll 65 (.iload 6) 2 67 := ⟨by decide +kernel, rfl⟩
theorem dX1_bestForAll_67 : DD cX1_bestForAll 67 (.iload_n 2) 1 68 := ⟨by decide +kernel, rfl⟩
theorem dX1_bestForAll_68 : DD cX1_bestForAll 68 (.if_icmp .gt 15) 3 71 := ⟨by decide +kernel, rfl⟩
theorem dX1_bestForAll_71 : DD cX1_bestForAll 71 (.iload 6) 2 73 := ⟨by decide +kernel, rfl⟩
theorem dX1_bestForAll_73 : DD cX1_bestForAll 73 (.iload_n 2) 1 74 := ⟨by decide +kernel, rfl⟩
theorem dX1_bestForAll_74 : DD cX1_bestForAll 74 (.if_icmp .ne 29) 3 77 := ⟨by decide +kernel, rfl⟩
theorem dX1_bestForAll_77 : DD cX1_bestForAll 77 (.iload 7) 2 79 := ⟨by decide +kernel, rfl⟩
theorem dX1_bestForAll_79 : DD cX1_bestForAll 79 (.iload_n 3) 1 80 := ⟨by decide +kernel, rfl⟩
theorem dX1_bestForAll_80 : DD cX1_bestForAll 80 (.if_icmp .ge 23) 3 83 := ⟨by decide +kernel, rfl⟩
theorem dX1_bestForAll_83 : DD cX1_bestForAll 83 (.iload 6) 2 85 := ⟨by decide +kernel, rfl⟩
theorem dX1_bestForAll_85 : DD cX1_bestForAll 85 (.istore_n 2) 1 86 := ⟨by decide +kernel, rfl⟩
theorem dX1_bestForAll_86 : DD cX1_bestForAll 86 (.iload 7) 2 88 := ⟨by decide +kernel, rfl⟩
theorem dX1_bestForAll_88 : DD cX1_bestForAll 88 (.istore_n 3) 1 89 := ⟨by decide +kernel, rfl⟩
theorem dX1_bestForAll_89 : DD cX1_bestForAll 89 (.aload_n 0) 1 90 := ⟨by decide +kernel, rfl⟩
theorem dX1_bestForAll_90 : DD cX1_bestForAll 90 (.getfield 25) 3 93 := ⟨by decide +kernel, rfl⟩
theorem dX1_bestForAll_93 : DD cX1_bestForAll 93 (.iconst 0) 1 94 := ⟨by decide +kernel, rfl⟩
theorem dX1_bestForAll_94 : DD cX1_bestForAll 94 (.aload_n 1) 1 95 := ⟨by decide +kernel, rfl⟩
theorem dX1_bestForAll_95 : DD cX1_bestForAll 95 (.iconst 0) 1 96 := ⟨by decide +kernel, rfl⟩
theorem dX1_bestForAll_96 : DD cX1_bestForAll 96 (.aload_n 0) 1 97 := ⟨by decide +kernel, rfl⟩
theorem dX1_bestForAll_97 : DD cX1_bestForAll 97 (.getfield 46) 3 100 := ⟨by decide +kernel, rfl⟩
theorem dX1_bestForAll_100 : DD cX1_bestForAll 100 (.invokestatic 56) 3 103 := ⟨by decide +kernel, rfl⟩
theorem dX1_bestForAll_103 : DD cX1_bestForAll 103 (.aload_n 0) 1 104 := ⟨by decide +kernel, rfl⟩
theorem dX1_bestForAll_104 : DD cX1_bestForAll 104 (.invokevirtual 129) 3 107 := ⟨by decide +kernel, rfl⟩
theorem dX1_bestForAll_107 : DD cX1_bestForAll 107 (.istore 4) 2 109 := ⟨by decide +kernel, rfl⟩
theorem dX1_bestForAll_109 : DD cX1_bestForAll 109 (.iinc 5 1) 3 112 := ⟨by decide +kernel, rfl⟩
theorem dX1_bestForAll_112 : DD cX1_bestForAll 112 (.goto (-94)) 3 115 := ⟨by decide +kernel, rfl⟩
theorem dX1_bestForAll_115 : DD cX1_bestForAll 115 (.iload_n 2) 1 116 := ⟨by decide +kernel, rfl⟩
theorem dX1_bestForAll_116 : DD cX1_bestForAll 116 (.ireturn) 1 117 := ⟨by decide +kernel, rfl⟩
def gX1_bestForAll : Nat → Int32 → Int32 → Int32 → Int32 → Mem → Option (Int32 × Mem)
  | 0, _, _, _, _, _ => none
  | f + 1, x2, x3, x4, x5, m => (if (2187 : Int32) ≤ x5 then (some (x2, m)) else (if x4 = (-1 : Int32) then (some (x2, m)) else (cV (fX1_addUpFrom m x4) fun m4 => (rd (m4.1 63) 8 (m4.1 58 0) fun v5 => (rd (m4.1 64) 8 (m4.1 58 0) fun v6 => (if x5 = 0 then (cpy m4 62 7 73 7 (0 : Int32) (0 : Int32) (m4.1 58 0) fun m8 => (cI (fX1_nextTrial m8) fun r9 m10 => (gX1_bestForAll f v5 v6 r9 (x5 + (1 : Int32)) m10))) else (if x2 < v5 then (cpy m4 62 7 73 7 (0 : Int32) (0 : Int32) (m4.1 58 0) fun m12 => (cI (fX1_nextTrial m12) fun r13 m14 => (gX1_bestForAll f v5 v6 r13 (x5 + (1 : Int32)) m14))) else (if v5 = x2 then (if x3 ≤ v6 then (cI (fX1_nextTrial m4) fun r19 m20 => (gX1_bestForAll f x2 x3 r19 (x5 + (1 : Int32)) m20)) else (cpy m4 62 7 73 7 (0 : Int32) (0 : Int32) (m4.1 58 0) fun m21 => (cI (fX1_nextTrial m21) fun r22 m23 => (gX1_bestForAll f v5 v6 r22 (x5 + (1 : Int32)) m23)))) else (cI (fX1_nextTrial m4) fun r16 m17 => (gX1_bestForAll f x2 x3 r16 (x5 + (1 : Int32)) m17))))))))))
def fX1_bestForAll (m : Mem) : Option (Int32 × Mem) := (pt (fil m 62 7 (0 : Int32)) fun m1 => (gX1_bestForAll 5000 (0 : Int32) (0 : Int32) (0 : Int32) (0 : Int32) m1))
set_option maxHeartbeats 4000000 in
set_option maxRecDepth 100000 in
theorem wX1_bestForAll {X : Cx} {G : Gt} (h : OkX (X, G, wC, nC) cX1_bestForAll RX1 8 (some .int) 3) : ∀ f : Nat, (∀ (x2 : Int32) (x3 : Int32) (x4 : Int32) (x5 : Int32) (m : Mem), JR (X, G, wC, nC) cvI m 18 [some (.ref (G.2.2 58)), some (.ref (G.2.2 73)), some (.int x2), some (.int x3), some (.int x4), some (.int x5), none, none] [] (gX1_bestForAll f x2 x3 x4 x5 m)) := by
  intro f
  induction f with
  | zero => exact (fun _ _ _ _ _ => j_none)
  | succ f ih =>
    intro x2 x3 x4 x5 m
    rw [gX1_bestForAll]
    refine j_iload h dX1_bestForAll_18 rfl ?_
    refine j_sipush (v := (2187 : Int32)) h dX1_bestForAll_20 ksipush_2187 ?_
    refine j_icmp_ge (tgt := 115) h dX1_bestForAll_23 (by decide) (fun c1 => ?_) (fun c1 => ?_)
    · refine j_iload_n h dX1_bestForAll_115 rfl ?_
      exact j_iret h rfl dX1_bestForAll_116
    · refine j_iload h dX1_bestForAll_26 rfl ?_
      refine j_iconst (v := (-1 : Int32)) h dX1_bestForAll_28 kiconst_m1 ?_
      refine j_icmp_eq (tgt := 115) h dX1_bestForAll_29 (by decide) (fun c2 => ?_) (fun c2 => ?_)
      · refine j_iload_n h dX1_bestForAll_115 rfl ?_
        exact j_iret h rfl dX1_bestForAll_116
      · refine j_aload_n h dX1_bestForAll_32 rfl ?_
        refine j_iload h dX1_bestForAll_33 rfl ?_
        refine j_callVV (q0 := 58) (ci := 1) h [.int x4] (kX1_addUpFrom _ G h.2.2.2.2.2.2.2.2.2.2 m x4) okX1_addUpFrom inX1_addUpFrom ml1_125 rfl rfl rfl rfl (by decide) (by decide) (Nat.le_of_ble_eq_true rfl) rfl dX1_bestForAll_35 (fun m4 hm4 => ?_)
        refine j_aload_n h dX1_bestForAll_38 rfl ?_
        refine gC1_28 h dX1_bestForAll_39 ?_
        refine j_aload_n h dX1_bestForAll_42 rfl ?_
        refine gC1_46 h dX1_bestForAll_43 ?_
        refine aC_63 h dX1_bestForAll_46 (fun v5 hv5 => ?_)
        refine j_istore h dX1_bestForAll_47 rfl rfl ?_
        refine j_aload_n h dX1_bestForAll_49 rfl ?_
        refine gC1_31 h dX1_bestForAll_50 ?_
        refine j_aload_n h dX1_bestForAll_53 rfl ?_
        refine gC1_46 h dX1_bestForAll_54 ?_
        refine aC_64 h dX1_bestForAll_57 (fun v6 hv6 => ?_)
        refine j_istore h dX1_bestForAll_58 rfl rfl ?_
        refine j_iload h dX1_bestForAll_60 rfl ?_
        refine j_if_eq (tgt := 83) h dX1_bestForAll_62 (by decide) (fun c7 => ?_) (fun c7 => ?_)
        · refine j_iload h dX1_bestForAll_83 rfl ?_
          refine j_istore_n h dX1_bestForAll_85 rfl rfl ?_
          refine j_iload h dX1_bestForAll_86 rfl ?_
          refine j_istore_n h dX1_bestForAll_88 rfl rfl ?_
          refine j_aload_n h dX1_bestForAll_89 rfl ?_
          refine gC1_25 h dX1_bestForAll_90 ?_
          refine j_iconst (v := (0 : Int32)) h dX1_bestForAll_93 kiconst_0 ?_
          refine j_aload_n h dX1_bestForAll_94 rfl ?_
          refine j_iconst (v := (0 : Int32)) h dX1_bestForAll_95 kiconst_0 ?_
          refine j_aload_n h dX1_bestForAll_96 rfl ?_
          refine gC1_46 h dX1_bestForAll_97 ?_
          refine j_copy (q0 := 62) (q1 := 73) h ml1_56 (at_62) (at_73) (se_73) (Nat.le_of_ble_eq_true rfl) rfl (by decide) dX1_bestForAll_100 (fun m8 hm8 => ?_)
          refine j_aload_n h dX1_bestForAll_103 rfl ?_
          refine j_callVI (q0 := 58) (ci := 1) h [] (kX1_nextTrial _ G h.2.2.2.2.2.2.2.2.2.2 m8) okX1_nextTrial inX1_nextTrial ml1_129 rfl rfl rfl rfl (by decide) (by decide) (Nat.le_of_ble_eq_true rfl) rfl dX1_bestForAll_104 (fun r9 m10 hr9 => ?_)
          refine j_istore h dX1_bestForAll_107 rfl rfl ?_
          refine j_iinc (v := (x5 + (1 : Int32))) h dX1_bestForAll_109 rfl (by rw [kiconst_1]) rfl ?_
          refine j_goto (tgt := 18) h dX1_bestForAll_112 (by decide) ?_
          refine j_wk (ls' := [some (.ref (G.2.2 58)), some (.ref (G.2.2 73)), some (.int v5), some (.int v6), some (.int r9), some (.int (x5 + (1 : Int32))), none, none]) (And.intro rfl (And.intro rfl (And.intro rfl (And.intro rfl (And.intro rfl (And.intro rfl trivial)))))) ?_
          exact ih v5 v6 r9 (x5 + (1 : Int32)) m10
        · refine j_iload h dX1_bestForAll_65 rfl ?_
          refine j_iload_n h dX1_bestForAll_67 rfl ?_
          refine j_icmp_gt (tgt := 83) h dX1_bestForAll_68 (by decide) (fun c11 => ?_) (fun c11 => ?_)
          · refine j_iload h dX1_bestForAll_83 rfl ?_
            refine j_istore_n h dX1_bestForAll_85 rfl rfl ?_
            refine j_iload h dX1_bestForAll_86 rfl ?_
            refine j_istore_n h dX1_bestForAll_88 rfl rfl ?_
            refine j_aload_n h dX1_bestForAll_89 rfl ?_
            refine gC1_25 h dX1_bestForAll_90 ?_
            refine j_iconst (v := (0 : Int32)) h dX1_bestForAll_93 kiconst_0 ?_
            refine j_aload_n h dX1_bestForAll_94 rfl ?_
            refine j_iconst (v := (0 : Int32)) h dX1_bestForAll_95 kiconst_0 ?_
            refine j_aload_n h dX1_bestForAll_96 rfl ?_
            refine gC1_46 h dX1_bestForAll_97 ?_
            refine j_copy (q0 := 62) (q1 := 73) h ml1_56 (at_62) (at_73) (se_73) (Nat.le_of_ble_eq_true rfl) rfl (by decide) dX1_bestForAll_100 (fun m12 hm12 => ?_)
            refine j_aload_n h dX1_bestForAll_103 rfl ?_
            refine j_callVI (q0 := 58) (ci := 1) h [] (kX1_nextTrial _ G h.2.2.2.2.2.2.2.2.2.2 m12) okX1_nextTrial inX1_nextTrial ml1_129 rfl rfl rfl rfl (by decide) (by decide) (Nat.le_of_ble_eq_true rfl) rfl dX1_bestForAll_104 (fun r13 m14 hr13 => ?_)
            refine j_istore h dX1_bestForAll_107 rfl rfl ?_
            refine j_iinc (v := (x5 + (1 : Int32))) h dX1_bestForAll_109 rfl (by rw [kiconst_1]) rfl ?_
            refine j_goto (tgt := 18) h dX1_bestForAll_112 (by decide) ?_
            refine j_wk (ls' := [some (.ref (G.2.2 58)), some (.ref (G.2.2 73)), some (.int v5), some (.int v6), some (.int r13), some (.int (x5 + (1 : Int32))), none, none]) (And.intro rfl (And.intro rfl (And.intro rfl (And.intro rfl (And.intro rfl (And.intro rfl trivial)))))) ?_
            exact ih v5 v6 r13 (x5 + (1 : Int32)) m14
          · refine j_iload h dX1_bestForAll_71 rfl ?_
            refine j_iload_n h dX1_bestForAll_73 rfl ?_
            refine j_icmp_ne (tgt := 103) h dX1_bestForAll_74 (by decide) (fun c15 => ?_) (fun c15 => ?_)
            · refine j_aload_n h dX1_bestForAll_103 rfl ?_
              refine j_callVI (q0 := 58) (ci := 1) h [] (kX1_nextTrial _ G h.2.2.2.2.2.2.2.2.2.2 m4) okX1_nextTrial inX1_nextTrial ml1_129 rfl rfl rfl rfl (by decide) (by decide) (Nat.le_of_ble_eq_true rfl) rfl dX1_bestForAll_104 (fun r16 m17 hr16 => ?_)
              refine j_istore h dX1_bestForAll_107 rfl rfl ?_
              refine j_iinc (v := (x5 + (1 : Int32))) h dX1_bestForAll_109 rfl (by rw [kiconst_1]) rfl ?_
              refine j_goto (tgt := 18) h dX1_bestForAll_112 (by decide) ?_
              refine j_wk (ls' := [some (.ref (G.2.2 58)), some (.ref (G.2.2 73)), some (.int x2), some (.int x3), some (.int r16), some (.int (x5 + (1 : Int32))), none, none]) (And.intro rfl (And.intro rfl (And.intro rfl (And.intro rfl (And.intro rfl (And.intro rfl trivial)))))) ?_
              exact ih x2 x3 r16 (x5 + (1 : Int32)) m17
            · refine j_iload h dX1_bestForAll_77 rfl ?_
              refine j_iload_n h dX1_bestForAll_79 rfl ?_
              refine j_icmp_ge (tgt := 103) h dX1_bestForAll_80 (by decide) (fun c18 => ?_) (fun c18 => ?_)
              · refine j_aload_n h dX1_bestForAll_103 rfl ?_
                refine j_callVI (q0 := 58) (ci := 1) h [] (kX1_nextTrial _ G h.2.2.2.2.2.2.2.2.2.2 m4) okX1_nextTrial inX1_nextTrial ml1_129 rfl rfl rfl rfl (by decide) (by decide) (Nat.le_of_ble_eq_true rfl) rfl dX1_bestForAll_104 (fun r19 m20 hr19 => ?_)
                refine j_istore h dX1_bestForAll_107 rfl rfl ?_
                refine j_iinc (v := (x5 + (1 : Int32))) h dX1_bestForAll_109 rfl (by rw [kiconst_1]) rfl ?_
                refine j_goto (tgt := 18) h dX1_bestForAll_112 (by decide) ?_
                refine j_wk (ls' := [some (.ref (G.2.2 58)), some (.ref (G.2.2 73)), some (.int x2), some (.int x3), some (.int r19), some (.int (x5 + (1 : Int32))), none, none]) (And.intro rfl (And.intro rfl (And.intro rfl (And.intro rfl (And.intro rfl (And.intro rfl trivial)))))) ?_
                exact ih x2 x3 r19 (x5 + (1 : Int32)) m20
              · refine j_iload h dX1_bestForAll_83 rfl ?_
                refine j_istore_n h dX1_bestForAll_85 rfl rfl ?_
                refine j_iload h dX1_bestForAll_86 rfl ?_
                refine j_istore_n h dX1_bestForAll_88 rfl rfl ?_
                refine j_aload_n h dX1_bestForAll_89 rfl ?_
                refine gC1_25 h dX1_bestForAll_90 ?_
                refine j_iconst (v := (0 : Int32)) h dX1_bestForAll_93 kiconst_0 ?_
                refine j_aload_n h dX1_bestForAll_94 rfl ?_
                refine j_iconst (v := (0 : Int32)) h dX1_bestForAll_95 kiconst_0 ?_
                refine j_aload_n h dX1_bestForAll_96 rfl ?_
                refine gC1_46 h dX1_bestForAll_97 ?_
                refine j_copy (q0 := 62) (q1 := 73) h ml1_56 (at_62) (at_73) (se_73) (Nat.le_of_ble_eq_true rfl) rfl (by decide) dX1_bestForAll_100 (fun m21 hm21 => ?_)
                refine j_aload_n h dX1_bestForAll_103 rfl ?_
                refine j_callVI (q0 := 58) (ci := 1) h [] (kX1_nextTrial _ G h.2.2.2.2.2.2.2.2.2.2 m21) okX1_nextTrial inX1_nextTrial ml1_129 rfl rfl rfl rfl (by decide) (by decide) (Nat.le_of_ble_eq_true rfl) rfl dX1_bestForAll_104 (fun r22 m23 hr22 => ?_)
                refine j_istore h dX1_bestForAll_107 rfl rfl ?_
                refine j_iinc (v := (x5 + (1 : Int32))) h dX1_bestForAll_109 rfl (by rw [kiconst_1]) rfl ?_
                refine j_goto (tgt := 18) h dX1_bestForAll_112 (by decide) ?_
                refine j_wk (ls' := [some (.ref (G.2.2 58)), some (.ref (G.2.2 73)), some (.int v5), some (.int v6), some (.int r22), some (.int (x5 + (1 : Int32))), none, none]) (And.intro rfl (And.intro rfl (And.intro rfl (And.intro rfl (And.intro rfl (And.intro rfl trivial)))))) ?_
                exact ih v5 v6 r22 (x5 + (1 : Int32)) m23
set_option maxHeartbeats 4000000 in
set_option maxRecDepth 100000 in
theorem kX1_bestForAll (l : Launch) (G : Gt) (hD : ∀ m, va_D (inA G nC) (wC G m)) (m : Mem) : ∀ a, fX1_bestForAll m = some a → Ct l G wC nC yX1_bestForAll cX1_bestForAll 8 (some .int) 3 [.ref (G.2.2 58), .ref (G.2.2 73)] m (cvI a) := by
  refine ct_of (own := RX1) (ls0 := [some (.ref (G.2.2 58)), some (.ref (G.2.2 73)), none, none, none, none, none, none]) (by decide) rfl rfl rfl (Nat.le_of_ble_eq_true rfl) hD (fun X h => ?_) l
  unfold fX1_bestForAll
  refine j_aload_n h dX1_bestForAll_0 rfl ?_
  refine gC1_25 h dX1_bestForAll_1 ?_
  refine j_iconst (v := (0 : Int32)) h dX1_bestForAll_4 kiconst_0 ?_
  refine j_fill (q := 62) h ml1_62 (at_62) (se_62) (by decide) (Nat.le_of_ble_eq_true rfl) rfl (by decide) dX1_bestForAll_5 (fun m1 hm1 => ?_)
  refine j_iconst (v := (0 : Int32)) h dX1_bestForAll_8 kiconst_0 ?_
  refine j_istore_n h dX1_bestForAll_9 rfl rfl ?_
  refine j_iconst (v := (0 : Int32)) h dX1_bestForAll_10 kiconst_0 ?_
  refine j_istore_n h dX1_bestForAll_11 rfl rfl ?_
  refine j_iconst (v := (0 : Int32)) h dX1_bestForAll_12 kiconst_0 ?_
  refine j_istore h dX1_bestForAll_13 rfl rfl ?_
  refine j_iconst (v := (0 : Int32)) h dX1_bestForAll_15 kiconst_0 ?_
  refine j_istore h dX1_bestForAll_16 rfl rfl ?_
  refine j_wk (ls' := [some (.ref (G.2.2 58)), some (.ref (G.2.2 73)), some (.int (0 : Int32)), some (.int (0 : Int32)), some (.int (0 : Int32)), some (.int (0 : Int32)), none, none]) (And.intro rfl (And.intro rfl (And.intro rfl (And.intro rfl (And.intro rfl (And.intro rfl trivial)))))) ?_
  exact (wX1_bestForAll h 5000) (0 : Int32) (0 : Int32) (0 : Int32) (0 : Int32) m1
