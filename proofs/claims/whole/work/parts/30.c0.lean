theorem dJ6_bitCount_0f7a4_0 : DD cJ6_bitCount_0f7a4 0 (.iload_n 0) 1 1 := ⟨by decide +kernel, rfl⟩
theorem dJ6_bitCount_0f7a4_1 : DD cJ6_bitCount_0f7a4 1 (.iload_n 0) 1 2 := ⟨by decide +kernel, rfl⟩
theorem dJ6_bitCount_0f7a4_2 : DD cJ6_bitCount_0f7a4 2 (.iconst 1) 1 3 := ⟨by decide +kernel, rfl⟩
theorem dJ6_bitCount_0f7a4_3 : DD cJ6_bitCount_0f7a4 3 (.iushr) 1 4 := ⟨by decide +kernel, rfl⟩
theorem dJ6_bitCount_0f7a4_4 : DD cJ6_bitCount_0f7a4 4 (.ldc_w 265) 3 7 := ⟨by decide +kernel, rfl⟩
theorem dJ6_bitCount_0f7a4_7 : DD cJ6_bitCount_0f7a4 7 (.iand) 1 8 := ⟨by decide +kernel, rfl⟩
theorem dJ6_bitCount_0f7a4_8 : DD cJ6_bitCount_0f7a4 8 (.isub) 1 9 := ⟨by decide +kernel, rfl⟩
theorem dJ6_bitCount_0f7a4_9 : DD cJ6_bitCount_0f7a4 9 (.istore_n 0) 1 10 := ⟨by decide +kernel, rfl⟩
theorem dJ6_bitCount_0f7a4_10 : DD cJ6_bitCount_0f7a4 10 (.iload_n 0) 1 11 := ⟨by decide +kernel, rfl⟩
theorem dJ6_bitCount_0f7a4_11 : DD cJ6_bitCount_0f7a4 11 (.ldc_w 266) 3 14 := ⟨by decide +kernel, rfl⟩
theorem dJ6_bitCount_0f7a4_14 : DD cJ6_bitCount_0f7a4 14 (.iand) 1 15 := ⟨by decide +kernel, rfl⟩
theorem dJ6_bitCount_0f7a4_15 : DD cJ6_bitCount_0f7a4 15 (.iload_n 0) 1 16 := ⟨by decide +kernel, rfl⟩
theorem dJ6_bitCount_0f7a4_16 : DD cJ6_bitCount_0f7a4 16 (.iconst 2) 1 17 := ⟨by decide +kernel, rfl⟩
theorem dJ6_bitCount_0f7a4_17 : DD cJ6_bitCount_0f7a4 17 (.iushr) 1 18 := ⟨by decide +kernel, rfl⟩
theorem dJ6_bitCount_0f7a4_18 : DD cJ6_bitCount_0f7a4 18 (.ldc_w 266) 3 21 := ⟨by decide +kernel, rfl⟩
theorem dJ6_bitCount_0f7a4_21 : DD cJ6_bitCount_0f7a4 21 (.iand) 1 22 := ⟨by decide +kernel, rfl⟩
theorem dJ6_bitCount_0f7a4_22 : DD cJ6_bitCount_0f7a4 22 (.iadd) 1 23 := ⟨by decide +kernel, rfl⟩
theorem dJ6_bitCount_0f7a4_23 : DD cJ6_bitCount_0f7a4 23 (.istore_n 0) 1 24 := ⟨by decide +kernel, rfl⟩
theorem dJ6_bitCount_0f7a4_24 : DD cJ6_bitCount_0f7a4 24 (.iload_n 0) 1 25 := ⟨by decide +kernel, rfl⟩
theorem dJ6_bitCount_0f7a4_25 : DD cJ6_bitCount_0f7a4 25 (.iload_n 0) 1 26 := ⟨by decide +kernel, rfl⟩
theorem dJ6_bitCount_0f7a4_26 : DD cJ6_bitCount_0f7a4 26 (.iconst 4) 1 27 := ⟨by decide +kernel, rfl⟩
theorem dJ6_bitCount_0f7a4_27 : DD cJ6_bitCount_0f7a4 27 (.iushr) 1 28 := ⟨by decide +kernel, rfl⟩
theorem dJ6_bitCount_0f7a4_28 : DD cJ6_bitCount_0f7a4 28 (.iadd) 1 29 := ⟨by decide +kernel, rfl⟩
theorem dJ6_bitCount_0f7a4_29 : DD cJ6_bitCount_0f7a4 29 (.ldc_w 267) 3 32 := ⟨by decide +kernel, rfl⟩
theorem dJ6_bitCount_0f7a4_32 : DD cJ6_bitCount_0f7a4 32 (.iand) 1 33 := ⟨by decide +kernel, rfl⟩
theorem dJ6_bitCount_0f7a4_33 : DD cJ6_bitCount_0f7a4 33 (.istore_n 0) 1 34 := ⟨by decide +kernel, rfl⟩
theorem dJ6_bitCount_0f7a4_34 : DD cJ6_bitCount_0f7a4 34 (.iload_n 0) 1 35 := ⟨by decide +kernel, rfl⟩
theorem dJ6_bitCount_0f7a4_35 : DD cJ6_bitCount_0f7a4 35 (.iload_n 0) 1 36 := ⟨by decide +kernel, rfl⟩
theorem dJ6_bitCount_0f7a4_36 : DD cJ6_bitCount_0f7a4 36 (.bipush 8) 2 38 := ⟨by decide +kernel, rfl⟩
theorem dJ6_bitCount_0f7a4_38 : DD cJ6_bitCount_0f7a4 38 (.iushr) 1 39 := ⟨by decide +kernel, rfl⟩
theorem dJ6_bitCount_0f7a4_39 : DD cJ6_bitCount_0f7a4 39 (.iadd) 1 40 := ⟨by decide +kernel, rfl⟩
theorem dJ6_bitCount_0f7a4_40 : DD cJ6_bitCount_0f7a4 40 (.istore_n 0) 1 41 := ⟨by decide +kernel, rfl⟩
theorem dJ6_bitCount_0f7a4_41 : DD cJ6_bitCount_0f7a4 41 (.iload_n 0) 1 42 := ⟨by decide +kernel, rfl⟩
theorem dJ6_bitCount_0f7a4_42 : DD cJ6_bitCount_0f7a4 42 (.iload_n 0) 1 43 := ⟨by decide +kernel, rfl⟩
theorem dJ6_bitCount_0f7a4_43 : DD cJ6_bitCount_0f7a4 43 (.bipush 16) 2 45 := ⟨by decide +kernel, rfl⟩
theorem dJ6_bitCount_0f7a4_45 : DD cJ6_bitCount_0f7a4 45 (.iushr) 1 46 := ⟨by decide +kernel, rfl⟩
theorem dJ6_bitCount_0f7a4_46 : DD cJ6_bitCount_0f7a4 46 (.iadd) 1 47 := ⟨by decide +kernel, rfl⟩
theorem dJ6_bitCount_0f7a4_47 : DD cJ6_bitCount_0f7a4 47 (.istore_n 0) 1 48 := ⟨by decide +kernel, rfl⟩
theorem dJ6_bitCount_0f7a4_48 : DD cJ6_bitCount_0f7a4 48 (.iload_n 0) 1 49 := ⟨by decide +kernel, rfl⟩
theorem dJ6_bitCount_0f7a4_49 : DD cJ6_bitCount_0f7a4 49 (.bipush 63) 2 51 := ⟨by decide +kernel, rfl⟩
theorem dJ6_bitCount_0f7a4_51 : DD cJ6_bitCount_0f7a4 51 (.iand) 1 52 := ⟨by decide +kernel, rfl⟩
theorem dJ6_bitCount_0f7a4_52 : DD cJ6_bitCount_0f7a4 52 (.ireturn) 1 53 := ⟨by decide +kernel, rfl⟩
def fJ6_bitCount_0f7a4 (x0 : Int32) : Option Int32 := (nm (x0 - (((x0).toUInt32 >>> (((1 : Int32)).toUInt32 &&& Int32.toUInt32 31)).toInt32 &&& (1431655765 : Int32))) fun v1 => (nm ((v1 &&& (858993459 : Int32)) + (((v1).toUInt32 >>> (((2 : Int32)).toUInt32 &&& Int32.toUInt32 31)).toInt32 &&& (858993459 : Int32))) fun v2 => (nm ((v2 + ((v2).toUInt32 >>> (((4 : Int32)).toUInt32 &&& Int32.toUInt32 31)).toInt32) &&& (252645135 : Int32)) fun v3 => (nm (v3 + ((v3).toUInt32 >>> (((8 : Int32)).toUInt32 &&& Int32.toUInt32 31)).toInt32) fun v4 => (nm (v4 + ((v4).toUInt32 >>> (((16 : Int32)).toUInt32 &&& Int32.toUInt32 31)).toInt32) fun v5 => (some (v5 &&& (63 : Int32))))))))
set_option maxHeartbeats 4000000 in
set_option maxRecDepth 100000 in
theorem kJ6_bitCount_0f7a4 (l : Launch) (G : Gt) (hD : ∀ m, va_D (inA G nC) (wC G m)) (m : Mem) (x0 : Int32) : ∀ a, fJ6_bitCount_0f7a4 x0 = some a → Ct l G wC nC yJ6_bitCount_0f7a4 cJ6_bitCount_0f7a4 1 (some .int) 1 [.int x0] m ((cvP m) a) := by
  refine ct_of (own := RJ6) (ls0 := [some (.int x0)]) (by decide) rfl rfl rfl (Nat.le_of_ble_eq_true rfl) hD (fun X h => ?_) l
  unfold fJ6_bitCount_0f7a4
  refine j_iload_n h dJ6_bitCount_0f7a4_0 rfl ?_
  refine j_iload_n h dJ6_bitCount_0f7a4_1 rfl ?_
  refine j_iconst (v := (1 : Int32)) h dJ6_bitCount_0f7a4_2 kiconst_1 ?_
  refine j_iushr h dJ6_bitCount_0f7a4_3 ?_
  refine j_ldcw (v := (1431655765 : Int32)) h dJ6_bitCount_0f7a4_4 cnJ6_265 ?_
  refine j_iand h dJ6_bitCount_0f7a4_7 ?_
  refine j_isub h dJ6_bitCount_0f7a4_8 ?_
  refine j_nm (fun v1 hv1 => ?_)
  refine j_istore_n h dJ6_bitCount_0f7a4_9 rfl rfl ?_
  refine j_iload_n h dJ6_bitCount_0f7a4_10 rfl ?_
  refine j_ldcw (v := (858993459 : Int32)) h dJ6_bitCount_0f7a4_11 cnJ6_266 ?_
  refine j_iand h dJ6_bitCount_0f7a4_14 ?_
  refine j_iload_n h dJ6_bitCount_0f7a4_15 rfl ?_
  refine j_iconst (v := (2 : Int32)) h dJ6_bitCount_0f7a4_16 kiconst_2 ?_
  refine j_iushr h dJ6_bitCount_0f7a4_17 ?_
  refine j_ldcw (v := (858993459 : Int32)) h dJ6_bitCount_0f7a4_18 cnJ6_266 ?_
  refine j_iand h dJ6_bitCount_0f7a4_21 ?_
  refine j_iadd h dJ6_bitCount_0f7a4_22 ?_
  refine j_nm (fun v2 hv2 => ?_)
  refine j_istore_n h dJ6_bitCount_0f7a4_23 rfl rfl ?_
  refine j_iload_n h dJ6_bitCount_0f7a4_24 rfl ?_
  refine j_iload_n h dJ6_bitCount_0f7a4_25 rfl ?_
  refine j_iconst (v := (4 : Int32)) h dJ6_bitCount_0f7a4_26 kiconst_4 ?_
  refine j_iushr h dJ6_bitCount_0f7a4_27 ?_
  refine j_iadd h dJ6_bitCount_0f7a4_28 ?_
  refine j_ldcw (v := (252645135 : Int32)) h dJ6_bitCount_0f7a4_29 cnJ6_267 ?_
  refine j_iand h dJ6_bitCount_0f7a4_32 ?_
  refine j_nm (fun v3 hv3 => ?_)
  refine j_istore_n h dJ6_bitCount_0f7a4_33 rfl rfl ?_
  refine j_iload_n h dJ6_bitCount_0f7a4_34 rfl ?_
  refine j_iload_n h dJ6_bitCount_0f7a4_35 rfl ?_
  refine j_bipush (v := (8 : Int32)) h dJ6_bitCount_0f7a4_36 kbipush_8 ?_
  refine j_iushr h dJ6_bitCount_0f7a4_38 ?_
  refine j_iadd h dJ6_bitCount_0f7a4_39 ?_
  refine j_nm (fun v4 hv4 => ?_)
  refine j_istore_n h dJ6_bitCount_0f7a4_40 rfl rfl ?_
  refine j_iload_n h dJ6_bitCount_0f7a4_41 rfl ?_
  refine j_iload_n h dJ6_bitCount_0f7a4_42 rfl ?_
  refine j_bipush (v := (16 : Int32)) h dJ6_bitCount_0f7a4_43 kbipush_16 ?_
  refine j_iushr h dJ6_bitCount_0f7a4_45 ?_
  refine j_iadd h dJ6_bitCount_0f7a4_46 ?_
  refine j_nm (fun v5 hv5 => ?_)
  refine j_istore_n h dJ6_bitCount_0f7a4_47 rfl rfl ?_
  refine j_iload_n h dJ6_bitCount_0f7a4_48 rfl ?_
  refine j_bipush (v := (63 : Int32)) h dJ6_bitCount_0f7a4_49 kbipush_63 ?_
  refine j_iand h dJ6_bitCount_0f7a4_51 ?_
  exact j_iret h rfl dJ6_bitCount_0f7a4_52
theorem dX10_isLetterAt_0 : DD cX10_isLetterAt 0 (.iload_n 1) 1 1 := ⟨by decide +kernel, rfl⟩
theorem dX10_isLetterAt_1 : DD cX10_isLetterAt 1 (.aload_n 0) 1 2 := ⟨by decide +kernel, rfl⟩
theorem dX10_isLetterAt_2 : DD cX10_isLetterAt 2 (.getfield 33) 3 5 := ⟨by decide +kernel, rfl⟩
theorem dX10_isLetterAt_5 : DD cX10_isLetterAt 5 (.if_icmp .ge 29) 3 8 := ⟨by decide +kernel, rfl⟩
theorem dX10_isLetterAt_8 : DD cX10_isLetterAt 8 (.aload_n 0) 1 9 := ⟨by decide +kernel, rfl⟩
theorem dX10_isLetterAt_9 : DD cX10_isLetterAt 9 (.getfield 9) 3 12 := ⟨by decide +kernel, rfl⟩
theorem dX10_isLetterAt_12 : DD cX10_isLetterAt 12 (.iload_n 1) 1 13 := ⟨by decide +kernel, rfl⟩
theorem dX10_isLetterAt_13 : DD cX10_isLetterAt 13 (.baload) 1 14 := ⟨by decide +kernel, rfl⟩
theorem dX10_isLetterAt_14 : DD cX10_isLetterAt 14 (.bipush 97) 2 16 := ⟨by decide +kernel, rfl⟩
theorem dX10_isLetterAt_16 : DD cX10_isLetterAt 16 (.if_icmp .lt 18) 3 19 := ⟨by decide +kernel, rfl⟩
theorem dX10_isLetterAt_19 : DD cX10_isLetterAt 19 (.aload_n 0) 1 20 := ⟨by decide +kernel, rfl⟩
theorem dX10_isLetterAt_20 : DD cX10_isLetterAt 20 (.getfield 9) 3 23 := ⟨by decide +kernel, rfl⟩
theorem dX10_isLetterAt_23 : DD cX10_isLetterAt 23 (.iload_n 1) 1 24 := ⟨by decide +kernel, rfl⟩
theorem dX10_isLetterAt_24 : DD cX10_isLetterAt 24 (.baload) 1 25 := ⟨by decide +kernel, rfl⟩
theorem dX10_isLetterAt_25 : DD cX10_isLetterAt 25 (.bipush 122) 2 27 := ⟨by decide +kernel, rfl⟩
theorem dX10_isLetterAt_27 : DD cX10_isLetterAt 27 (.if_icmp .gt 7) 3 30 := ⟨by decide +kernel, rfl⟩
theorem dX10_isLetterAt_30 : DD cX10_isLetterAt 30 (.iconst 1) 1 31 := ⟨by decide +kernel, rfl⟩
theorem dX10_isLetterAt_31 : DD cX10_isLetterAt 31 (.goto 4) 3 34 := ⟨by decide +kernel, rfl⟩
theorem dX10_isLetterAt_34 : DD cX10_isLetterAt 34 (.iconst 0) 1 35 := ⟨by decide +kernel, rfl⟩
theorem dX10_isLetterAt_35 : DD cX10_isLetterAt 35 (.ireturn) 1 36 := ⟨by decide +kernel, rfl⟩
def fX10_isLetterAt (m : Mem) (x1 : Int32) : Option Int32 := (if (m.1 1 1) ≤ x1 then (some (0 : Int32)) else (rd (m.1 2) 1600 x1 fun v2 => (if v2 < (97 : Int32) then (some (0 : Int32)) else (rd (m.1 2) 1600 x1 fun v4 => (if (122 : Int32) < v4 then (some (0 : Int32)) else (some (1 : Int32)))))))
set_option maxHeartbeats 4000000 in
set_option maxRecDepth 100000 in
theorem kX10_isLetterAt (l : Launch) (G : Gt) (hD : ∀ m, va_D (inA G nC) (wC G m)) (m : Mem) (x1 : Int32) : ∀ a, fX10_isLetterAt m x1 = some a → Ct l G wC nC yX10_isLetterAt cX10_isLetterAt 2 (some .boolean) 1 [.ref (G.2.2 1), .int x1] m ((cvP m) a) := by
  refine ct_of (own := RX10) (ls0 := [some (.ref (G.2.2 1)), some (.int x1)]) (by decide) rfl rfl rfl (Nat.le_of_ble_eq_true rfl) hD (fun X h => ?_) l
  unfold fX10_isLetterAt
  refine j_iload_n h dX10_isLetterAt_0 rfl ?_
  refine j_aload_n h dX10_isLetterAt_1 rfl ?_
  refine gC10_33 h dX10_isLetterAt_2 ?_
  refine j_icmp_ge (tgt := 34) h dX10_isLetterAt_5 (by decide) (fun c1 => ?_) (fun c1 => ?_)
  · refine j_iconst (v := (0 : Int32)) h dX10_isLetterAt_34 kiconst_0 ?_
    exact j_zretB h rfl rfl dX10_isLetterAt_35
  · refine j_aload_n h dX10_isLetterAt_8 rfl ?_
    refine gC10_9 h dX10_isLetterAt_9 ?_
    refine j_iload_n h dX10_isLetterAt_12 rfl ?_
    refine aC_2 h dX10_isLetterAt_13 (fun v2 hv2 => ?_)
    refine j_bipush (v := (97 : Int32)) h dX10_isLetterAt_14 kbipush_97 ?_
    refine j_icmp_lt (tgt := 34) h dX10_isLetterAt_16 (by decide) (fun c3 => ?_) (fun c3 => ?_)
    · refine j_iconst (v := (0 : Int32)) h dX10_isLetterAt_34 kiconst_0 ?_
      exact j_zretB h rfl rfl dX10_isLetterAt_35
    · refine j_aload_n h dX10_isLetterAt_19 rfl ?_
      refine gC10_9 h dX10_isLetterAt_20 ?_
      refine j_iload_n h dX10_isLetterAt_23 rfl ?_
      refine aC_2 h dX10_isLetterAt_24 (fun v4 hv4 => ?_)
      refine j_bipush (v := (122 : Int32)) h dX10_isLetterAt_25 kbipush_122 ?_
      refine j_icmp_gt (tgt := 34) h dX10_isLetterAt_27 (by decide) (fun c5 => ?_) (fun c5 => ?_)
      · refine j_iconst (v := (0 : Int32)) h dX10_isLetterAt_34 kiconst_0 ?_
        exact j_zretB h rfl rfl dX10_isLetterAt_35
      · refine j_iconst (v := (1 : Int32)) h dX10_isLetterAt_30 kiconst_1 ?_
        refine j_goto (tgt := 35) h dX10_isLetterAt_31 (by decide) ?_
        exact j_zretB h rfl rfl dX10_isLetterAt_35
theorem dX10_withLetter_0 : DD cX10_withLetter 0 (.lload_n 0) 1 1 := ⟨by decide +kernel, rfl⟩
theorem dX10_withLetter_1 : DD cX10_withLetter 1 (.ldc2_w 74) 3 4 := ⟨by decide +kernel, rfl⟩
theorem dX10_withLetter_4 : DD cX10_withLetter 4 (.lmul) 1 5 := ⟨by decide +kernel, rfl⟩
theorem dX10_withLetter_5 : DD cX10_withLetter 5 (.iload_n 2) 1 6 := ⟨by decide +kernel, rfl⟩
theorem dX10_withLetter_6 : DD cX10_withLetter 6 (.i2l) 1 7 := ⟨by decide +kernel, rfl⟩
theorem dX10_withLetter_7 : DD cX10_withLetter 7 (.ladd) 1 8 := ⟨by decide +kernel, rfl⟩
theorem dX10_withLetter_8 : DD cX10_withLetter 8 (.ldc2_w 76) 3 11 := ⟨by decide +kernel, rfl⟩
theorem dX10_withLetter_11 : DD cX10_withLetter 11 (.lsub) 1 12 := ⟨by decide +kernel, rfl⟩
theorem dX10_withLetter_12 : DD cX10_withLetter 12 (.lconst 1) 1 13 := ⟨by decide +kernel, rfl⟩
theorem dX10_withLetter_13 : DD cX10_withLetter 13 (.ladd) 1 14 := ⟨by decide +kernel, rfl⟩
theorem dX10_withLetter_14 : DD cX10_withLetter 14 (.lreturn) 1 15 := ⟨by decide +kernel, rfl⟩
def fX10_withLetter (x0 : Int64) (x2 : Int32) : Option Int64 := (some ((((x0 * (27 : Int64)) + (x2).toInt64) - (97 : Int64)) + (1 : Int64)))
set_option maxHeartbeats 4000000 in
set_option maxRecDepth 100000 in
theorem kX10_withLetter (l : Launch) (G : Gt) (hD : ∀ m, va_D (inA G nC) (wC G m)) (m : Mem) (x0 : Int64) (x2 : Int32) : ∀ a, fX10_withLetter x0 x2 = some a → Ct l G wC nC yX10_withLetter cX10_withLetter 3 (some .long) 1 [.long x0, .int x2] m ((cvL m) a) := by
  refine ct_of (own := RX10) (ls0 := [some (.long x0), none, some (.int x2)]) (by decide) rfl rfl rfl (Nat.le_of_ble_eq_true rfl) hD (fun X h => ?_) l
  unfold fX10_withLetter
  refine j_lload_n h dX10_withLetter_0 rfl ?_
  refine j_ldc2 (v := (27 : Int64)) h dX10_withLetter_1 cl10_74 ?_
  refine j_lmul h dX10_withLetter_4 ?_
  refine j_iload_n h dX10_withLetter_5 rfl ?_
  refine j_i2l h dX10_withLetter_6 ?_
  refine j_ladd h dX10_withLetter_7 ?_
  refine j_ldc2 (v := (97 : Int64)) h dX10_withLetter_8 cl10_76 ?_
  refine j_lsub h dX10_withLetter_11 ?_
  refine j_lconst (v := (1 : Int64)) h dX10_withLetter_12 rfl ?_
  refine j_ladd h dX10_withLetter_13 ?_
  exact j_lret h rfl dX10_withLetter_14
theorem dX10_readWord_0 : DD cX10_readWord 0 (.aload_n 0) 1 1 := ⟨by decide +kernel, rfl⟩
theorem dX10_readWord_1 : DD cX10_readWord 1 (.lconst 0) 1 2 := ⟨by decide +kernel, rfl⟩
theorem dX10_readWord_2 : DD cX10_readWord 2 (.putfield 67) 3 5 := ⟨by decide +kernel, rfl⟩
theorem dX10_readWord_5 : DD cX10_readWord 5 (.aload_n 0) 1 6 := ⟨by decide +kernel, rfl⟩
theorem dX10_readWord_6 : DD cX10_readWord 6 (.getfield 36) 3 9 := ⟨by decide +kernel, rfl⟩
theorem dX10_readWord_9 : DD cX10_readWord 9 (.aload_n 0) 1 10 := ⟨by decide +kernel, rfl⟩
theorem dX10_readWord_10 : DD cX10_readWord 10 (.getfield 33) 3 13 := ⟨by decide +kernel, rfl⟩
theorem dX10_readWord_13 : DD cX10_readWord 13 (.if_icmp .ge 47) 3 16 := ⟨by decide +kernel, rfl⟩
theorem dX10_readWord_16 : DD cX10_readWord 16 (.aload_n 0) 1 17 := ⟨by decide +kernel, rfl⟩
theorem dX10_readWord_17 : DD cX10_readWord 17 (.aload_n 0) 1 18 := ⟨by decide +kernel, rfl⟩
theorem dX10_readWord_18 : DD cX10_readWord 18 (.getfield 36) 3 21 := ⟨by decide +kernel, rfl⟩
theorem dX10_readWord_21 : DD cX10_readWord 21 (.invokevirtual 48) 3 24 := ⟨by decide +kernel, rfl⟩
theorem dX10_readWord_24 : DD cX10_readWord 24 (.ifCond .eq 36) 3 27 := ⟨by decide +kernel, rfl⟩
theorem dX10_readWord_27 : DD cX10_readWord 27 (.aload_n 0) 1 28 := ⟨by decide +kernel, rfl⟩
theorem dX10_readWord_28 : DD cX10_readWord 28 (.aload_n 0) 1 29 := ⟨by decide +kernel, rfl⟩
theorem dX10_readWord_29 : DD cX10_readWord 29 (.getfield 67) 3 32 := ⟨by decide +kernel, rfl⟩
theorem dX10_readWord_32 : DD cX10_readWord 32 (.aload_n 0) 1 33 := ⟨by decide +kernel, rfl⟩
theorem dX10_readWord_33 : DD cX10_readWord 33 (.getfield 9) 3 36 := ⟨by decide +kernel, rfl⟩
theorem dX10_readWord_36 : DD cX10_readWord 36 (.aload_n 0) 1 37 := ⟨by decide +kernel, rfl⟩
theorem dX10_readWord_37 : DD cX10_readWord 37 (.getfield 36) 3 40 := ⟨by decide +kernel, rfl⟩
theorem dX10_readWord_40 : DD cX10_readWord 40 (.baload) 1 41 := ⟨by decide +kernel, rfl⟩
theorem dX10_readWord_41 : DD cX10_readWord 41 (.invokestatic 29) 3 44 := ⟨by decide +kernel, rfl⟩
theorem dX10_readWord_44 : DD cX10_readWord 44 (.putfield 67) 3 47 := ⟨by decide +kernel, rfl⟩
theorem dX10_readWord_47 : DD cX10_readWord 47 (.aload_n 0) 1 48 := ⟨by decide +kernel, rfl⟩
theorem dX10_readWord_48 : DD cX10_readWord 48 (.dup) 1 49 := ⟨by decide +kernel, rfl⟩
theorem dX10_readWord_49 : DD cX10_readWord 49 (.getfield 36) 3 52 := ⟨by decide +kernel, rfl⟩
theorem dX10_readWord_52 : DD cX10_readWord 52 (.iconst 1) 1 53 := ⟨by decide +kernel, rfl⟩
theorem dX10_readWord_53 : DD cX10_readWord 53 (.iadd) 1 54 := ⟨by decide +kernel, rfl⟩
theorem dX10_readWord_54 : DD cX10_readWord 54 (.putfield 36) 3 57 := ⟨by decide +kernel, rfl⟩
theorem dX10_readWord_57 : DD cX10_readWord 57 (.goto (-52)) 3 60 := ⟨by decide +kernel, rfl⟩
theorem dX10_readWord_60 : DD cX10_readWord 60 (.aload_n 0) 1 61 := ⟨by decide +kernel, rfl⟩
theorem dX10_readWord_61 : DD cX10_readWord 61 (.aload_n 0) 1 62 := ⟨by decide +kernel, rfl⟩
theorem dX10_readWord_62 : DD cX10_readWord 62 (.getfield 36) 3 65 := ⟨by decide +kernel, rfl⟩
theorem dX10_readWord_65 : DD cX10_readWord 65 (.aload_n 0) 1 66 := ⟨by decide +kernel, rfl⟩
theorem dX10_readWord_66 : DD cX10_readWord 66 (.getfield 42) 3 69 := ⟨by decide +kernel, rfl⟩
theorem dX10_readWord_69 : DD cX10_readWord 69 (.isub) 1 70 := ⟨by decide +kernel, rfl⟩
theorem dX10_readWord_70 : DD cX10_readWord 70 (.bipush 8) 2 72 := ⟨by decide +kernel, rfl⟩
theorem dX10_readWord_72 : DD cX10_readWord 72 (.if_icmp .le 7) 3 75 := ⟨by decide +kernel, rfl⟩
theorem dX10_readWord_75 : DD cX10_readWord 75 (.iconst 0) 1 76 := ⟨by decide +kernel, rfl⟩
theorem dX10_readWord_76 : DD cX10_readWord 76 (.goto 4) 3 79 := ⟨by decide +kernel, rfl⟩
theorem dX10_readWord_79 : DD cX10_readWord 79 (.iconst 2) 1 80 := ⟨by decide +kernel, rfl⟩
theorem dX10_readWord_80 : DD cX10_readWord 80 (.putfield 45) 3 83 := ⟨by decide +kernel, rfl⟩
theorem dX10_readWord_83 : DD cX10_readWord 83 (.iconst 0) 1 84 := ⟨by decide +kernel, rfl⟩
theorem dX10_readWord_84 : DD cX10_readWord 84 (.istore_n 1) 1 85 := ⟨by decide +kernel, rfl⟩
theorem dX10_readWord_85 : DD cX10_readWord 85 (.iload_n 1) 1 86 := ⟨by decide +kernel, rfl⟩
theorem dX10_readWord_86 : DD cX10_readWord 86 (.bipush 19) 2 88 := ⟨by decide +kernel, rfl⟩
theorem dX10_readWord_88 : DD cX10_readWord 88 (.if_icmp .ge 44) 3 91 := ⟨by decide +kernel, rfl⟩
theorem dX10_readWord_91 : DD cX10_readWord 91 (.aload_n 0) 1 92 := ⟨by decide +kernel, rfl⟩
theorem dX10_readWord_92 : DD cX10_readWord 92 (.getfield 45) 3 95 := ⟨by decide +kernel, rfl⟩
theorem dX10_readWord_95 : DD cX10_readWord 95 (.iconst 2) 1 96 := ⟨by decide +kernel, rfl⟩
theorem dX10_readWord_96 : DD cX10_readWord 96 (.if_icmp .ne 36) 3 99 := ⟨by decide +kernel, rfl⟩
theorem dX10_readWord_99 : DD cX10_readWord 99 (.aload_n 0) 1 100 := ⟨by decide +kernel, rfl⟩
theorem dX10_readWord_100 : DD cX10_readWord 100 (.aload_n 0) 1 101 := ⟨by decide +kernel, rfl⟩
theorem dX10_readWord_101 : DD cX10_readWord 101 (.getfield 13) 3 104 := ⟨by decide +kernel, rfl⟩
theorem dX10_readWord_104 : DD cX10_readWord 104 (.iload_n 1) 1 105 := ⟨by decide +kernel, rfl⟩
theorem dX10_readWord_105 : DD cX10_readWord 105 (.laload) 1 106 := ⟨by decide +kernel, rfl⟩
theorem dX10_readWord_106 : DD cX10_readWord 106 (.aload_n 0) 1 107 := ⟨by decide +kernel, rfl⟩
theorem dX10_readWord_107 : DD cX10_readWord 107 (.getfield 67) 3 110 := ⟨by decide +kernel, rfl⟩
theorem dX10_readWord_110 : DD cX10_readWord 110 (.lcmp) 1 111 := ⟨by decide +kernel, rfl⟩
theorem dX10_readWord_111 : DD cX10_readWord 111 (.ifCond .ne 11) 3 114 := ⟨by decide +kernel, rfl⟩
theorem dX10_readWord_114 : DD cX10_readWord 114 (.sipush 128) 3 117 := ⟨by decide +kernel, rfl⟩
theorem dX10_readWord_117 : DD cX10_readWord 117 (.iload_n 1) 1 118 := ⟨by decide +kernel, rfl⟩
theorem dX10_readWord_118 : DD cX10_readWord 118 (.iadd) 1 119 := ⟨by decide +kernel, rfl⟩
theorem dX10_readWord_119 : DD cX10_readWord 119 (.goto 4) 3 122 := ⟨by decide +kernel, rfl⟩
theorem dX10_readWord_122 : DD cX10_readWord 122 (.iconst 2) 1 123 := ⟨by decide +kernel, rfl⟩
theorem dX10_readWord_123 : DD cX10_readWord 123 (.putfield 45) 3 126 := ⟨by decide +kernel, rfl⟩
theorem dX10_readWord_126 : DD cX10_readWord 126 (.iinc 1 1) 3 129 := ⟨by decide +kernel, rfl⟩
theorem dX10_readWord_129 : DD cX10_readWord 129 (.goto (-44)) 3 132 := ⟨by decide +kernel, rfl⟩
theorem dX10_readWord_132 : DD cX10_readWord 132 (.return_) 1 133 := ⟨by decide +kernel, rfl⟩
def gX10_readWord : Nat → Nat → Int32 → Mem → Option Mem
  | 0, _, _, _ => none
  | f + 1, 0, x1, m => (if (m.1 1 1) ≤ (m.1 1 3) then (if ((m.1 1 3) - (m.1 1 5)) ≤ (8 : Int32) then (pt (sI m 1 4 (2 : Int32)) fun m3 => (gX10_readWord f 1 (0 : Int32) m3)) else (pt (sI m 1 4 (0 : Int32)) fun m4 => (gX10_readWord f 1 (0 : Int32) m4))) else (cP (fX10_isLetterAt m (m.1 1 3)) fun r5 => (if r5 = 0 then (if ((m.1 1 3) - (m.1 1 5)) ≤ (8 : Int32) then (pt (sI m 1 4 (2 : Int32)) fun m9 => (gX10_readWord f 1 (0 : Int32) m9)) else (pt (sI m 1 4 (0 : Int32)) fun m10 => (gX10_readWord f 1 (0 : Int32) m10))) else (rd (m.1 2) 1600 (m.1 1 3) fun v11 => (cL (fX10_withLetter (m.2.1 1 7) v11) fun r12 => (pt (sL m 1 7 r12) fun m14 => (pt (sI m14 1 3 ((m14.1 1 3) + (1 : Int32))) fun m15 => (gX10_readWord f 0 0 m15))))))))
  | f + 1, 1, x1, m => (if (19 : Int32) ≤ x1 then (some m) else (if (m.1 1 4) = (2 : Int32) then (rdL (m.2.1 3) 19 x1 fun v3 => (if (lg_cmp v3 (m.2.1 1 7)) = 0 then (pt (sI m 1 4 ((128 : Int32) + x1)) fun m6 => (gX10_readWord f 1 (x1 + (1 : Int32)) m6)) else (pt (sI m 1 4 (2 : Int32)) fun m5 => (gX10_readWord f 1 (x1 + (1 : Int32)) m5)))) else (some m)))
  | _ + 1, _ + 2, _, _ => none
def fX10_readWord (m : Mem) : Option Mem := (pt (sL m 1 7 (0 : Int64)) fun m1 => (gX10_readWord 5000 0 0 m1))
set_option maxHeartbeats 4000000 in
set_option maxRecDepth 100000 in
theorem wX10_readWord {X : Cx} {G : Gt} (h : OkX (X, G, wC, nC) cX10_readWord RX10 2 none 2) : ∀ f : Nat, (∀ (x1 : Int32) (m : Mem), JR (X, G, wC, nC) cvV m 5 [some (.ref (G.2.2 1)), none] [] (gX10_readWord f 0 x1 m)) ∧ (∀ (x1 : Int32) (m : Mem), JR (X, G, wC, nC) cvV m 85 [some (.ref (G.2.2 1)), some (.int x1)] [] (gX10_readWord f 1 x1 m)) := by
  intro f
  induction f with
  | zero => exact ⟨(fun _ _ => j_none), (fun _ _ => j_none)⟩
  | succ f ih =>
    refine ⟨?_, ?_⟩
    · intro x1 m
      rw [gX10_readWord]
      refine j_aload_n h dX10_readWord_5 rfl ?_
      refine gC10_36 h dX10_readWord_6 ?_
      refine j_aload_n h dX10_readWord_9 rfl ?_
      refine gC10_33 h dX10_readWord_10 ?_
      refine j_icmp_ge (tgt := 60) h dX10_readWord_13 (by decide) (fun c1 => ?_) (fun c1 => ?_)
      · refine j_aload_n h dX10_readWord_60 rfl ?_
        refine j_aload_n h dX10_readWord_61 rfl ?_
        refine gC10_36 h dX10_readWord_62 ?_
        refine j_aload_n h dX10_readWord_65 rfl ?_
        refine gC10_42 h dX10_readWord_66 ?_
        refine j_isub h dX10_readWord_69 ?_
        refine j_bipush (v := (8 : Int32)) h dX10_readWord_70 kbipush_8 ?_
        refine j_icmp_le (tgt := 79) h dX10_readWord_72 (by decide) (fun c2 => ?_) (fun c2 => ?_)
        · refine j_iconst (v := (2 : Int32)) h dX10_readWord_79 kiconst_2 ?_
          refine pC10_45 h dX10_readWord_80 (fun m3 hm3 => ?_)
          refine j_iconst (v := (0 : Int32)) h dX10_readWord_83 kiconst_0 ?_
          refine j_istore_n h dX10_readWord_84 rfl rfl ?_
          refine j_wk (ls' := [some (.ref (G.2.2 1)), some (.int (0 : Int32))]) (And.intro rfl (And.intro rfl trivial)) ?_
          exact ih.2 (0 : Int32) m3
        · refine j_iconst (v := (0 : Int32)) h dX10_readWord_75 kiconst_0 ?_
          refine j_goto (tgt := 80) h dX10_readWord_76 (by decide) ?_
          refine pC10_45 h dX10_readWord_80 (fun m4 hm4 => ?_)
          refine j_iconst (v := (0 : Int32)) h dX10_readWord_83 kiconst_0 ?_
          refine j_istore_n h dX10_readWord_84 rfl rfl ?_
          refine j_wk (ls' := [some (.ref (G.2.2 1)), some (.int (0 : Int32))]) (And.intro rfl (And.intro rfl trivial)) ?_
          exact ih.2 (0 : Int32) m4
      · refine j_aload_n h dX10_readWord_16 rfl ?_
        refine j_aload_n h dX10_readWord_17 rfl ?_
        refine gC10_36 h dX10_readWord_18 ?_
        refine j_callVP (q0 := 1) (ci := 10) h [.int (m.1 1 3)] (kX10_isLetterAt _ G h.2.2.2.2.2.2.2.2.2.2 m (m.1 1 3)) okX10_isLetterAt inX10_isLetterAt ml10_48 rfl rfl rfl rfl (by decide) (by decide) (Nat.le_of_ble_eq_true rfl) rfl dX10_readWord_21 (fun r5 hr5 => ?_)
        refine j_if_eq (tgt := 60) h dX10_readWord_24 (by decide) (fun c7 => ?_) (fun c7 => ?_)
        · refine j_aload_n h dX10_readWord_60 rfl ?_
          refine j_aload_n h dX10_readWord_61 rfl ?_
          refine gC10_36 h dX10_readWord_62 ?_
          refine j_aload_n h dX10_readWord_65 rfl ?_
          refine gC10_42 h dX10_readWord_66 ?_
          refine j_isub h dX10_readWord_69 ?_
          refine j_bipush (v := (8 : Int32)) h dX10_readWord_70 kbipush_8 ?_
          refine j_icmp_le (tgt := 79) h dX10_readWord_72 (by decide) (fun c8 => ?_) (fun c8 => ?_)
          · refine j_iconst (v := (2 : Int32)) h dX10_readWord_79 kiconst_2 ?_
            refine pC10_45 h dX10_readWord_80 (fun m9 hm9 => ?_)
            refine j_iconst (v := (0 : Int32)) h dX10_readWord_83 kiconst_0 ?_
            refine j_istore_n h dX10_readWord_84 rfl rfl ?_
            refine j_wk (ls' := [some (.ref (G.2.2 1)), some (.int (0 : Int32))]) (And.intro rfl (And.intro rfl trivial)) ?_
            exact ih.2 (0 : Int32) m9
          · refine j_iconst (v := (0 : Int32)) h dX10_readWord_75 kiconst_0 ?_
            refine j_goto (tgt := 80) h dX10_readWord_76 (by decide) ?_
            refine pC10_45 h dX10_readWord_80 (fun m10 hm10 => ?_)
            refine j_iconst (v := (0 : Int32)) h dX10_readWord_83 kiconst_0 ?_
            refine j_istore_n h dX10_readWord_84 rfl rfl ?_
            refine j_wk (ls' := [some (.ref (G.2.2 1)), some (.int (0 : Int32))]) (And.intro rfl (And.intro rfl trivial)) ?_
            exact ih.2 (0 : Int32) m10
        · refine j_aload_n h dX10_readWord_27 rfl ?_
          refine j_aload_n h dX10_readWord_28 rfl ?_
          refine gC10_67 h dX10_readWord_29 ?_
          refine j_aload_n h dX10_readWord_32 rfl ?_
          refine gC10_9 h dX10_readWord_33 ?_
          refine j_aload_n h dX10_readWord_36 rfl ?_
          refine gC10_36 h dX10_readWord_37 ?_
          refine aC_2 h dX10_readWord_40 (fun v11 hv11 => ?_)
          refine j_callSL h [.long (m.2.1 1 7), .int v11] (kX10_withLetter _ G h.2.2.2.2.2.2.2.2.2.2 m (m.2.1 1 7) v11) okX10_withLetter stX10_withLetter ml10_29 rfl rfl (by decide) (by decide) (Nat.le_of_ble_eq_true rfl) rfl dX10_readWord_41 (fun r12 hr12 => ?_)
          refine pC10_67 h dX10_readWord_44 (fun m14 hm14 => ?_)
          refine j_aload_n h dX10_readWord_47 rfl ?_
          refine j_dup h dX10_readWord_48 rfl ?_
          refine gC10_36 h dX10_readWord_49 ?_
          refine j_iconst (v := (1 : Int32)) h dX10_readWord_52 kiconst_1 ?_
          refine j_iadd h dX10_readWord_53 ?_
          refine pC10_36 h dX10_readWord_54 (fun m15 hm15 => ?_)
          refine j_goto (tgt := 5) h dX10_readWord_57 (by decide) ?_
          refine j_wk (ls' := [some (.ref (G.2.2 1)), none]) (And.intro rfl trivial) ?_
          exact ih.1 0 m15
    · intro x1 m
      rw [gX10_readWord]
      refine j_iload_n h dX10_readWord_85 rfl ?_
      refine j_bipush (v := (19 : Int32)) h dX10_readWord_86 kbipush_19 ?_
      refine j_icmp_ge (tgt := 132) h dX10_readWord_88 (by decide) (fun c1 => ?_) (fun c1 => ?_)
      · exact j_vret h rfl dX10_readWord_132
      · refine j_aload_n h dX10_readWord_91 rfl ?_
        refine gC10_45 h dX10_readWord_92 ?_
        refine j_iconst (v := (2 : Int32)) h dX10_readWord_95 kiconst_2 ?_
        refine j_icmp_ne (tgt := 132) h dX10_readWord_96 (by decide) (fun c2 => ?_) (fun c2 => ?_)
        · exact j_vret h rfl dX10_readWord_132
        · refine j_aload_n h dX10_readWord_99 rfl ?_
          refine j_aload_n h dX10_readWord_100 rfl ?_
          refine gC10_13 h dX10_readWord_101 ?_
          refine j_iload_n h dX10_readWord_104 rfl ?_
          refine aC_3 h dX10_readWord_105 (fun v3 hv3 => ?_)
          refine j_aload_n h dX10_readWord_106 rfl ?_
          refine gC10_67 h dX10_readWord_107 ?_
          refine j_lcmp h dX10_readWord_110 ?_
          refine j_if_ne (tgt := 122) h dX10_readWord_111 (by decide) (fun c4 => ?_) (fun c4 => ?_)
          · refine j_iconst (v := (2 : Int32)) h dX10_readWord_122 kiconst_2 ?_
            refine pC10_45 h dX10_readWord_123 (fun m5 hm5 => ?_)
            refine j_iinc (v := (x1 + (1 : Int32))) h dX10_readWord_126 rfl (by rw [kiconst_1]) rfl ?_
            refine j_goto (tgt := 85) h dX10_readWord_129 (by decide) ?_
            refine j_wk (ls' := [some (.ref (G.2.2 1)), some (.int (x1 + (1 : Int32)))]) (And.intro rfl (And.intro rfl trivial)) ?_
            exact ih.2 (x1 + (1 : Int32)) m5
          · refine j_sipush (v := (128 : Int32)) h dX10_readWord_114 ksipush_128 ?_
            refine j_iload_n h dX10_readWord_117 rfl ?_
            refine j_iadd h dX10_readWord_118 ?_
            refine j_goto (tgt := 123) h dX10_readWord_119 (by decide) ?_
            refine pC10_45 h dX10_readWord_123 (fun m6 hm6 => ?_)
            refine j_iinc (v := (x1 + (1 : Int32))) h dX10_readWord_126 rfl (by rw [kiconst_1]) rfl ?_
            refine j_goto (tgt := 85) h dX10_readWord_129 (by decide) ?_
            refine j_wk (ls' := [some (.ref (G.2.2 1)), some (.int (x1 + (1 : Int32)))]) (And.intro rfl (And.intro rfl trivial)) ?_
            exact ih.2 (x1 + (1 : Int32)) m6
set_option maxHeartbeats 4000000 in
set_option maxRecDepth 100000 in
theorem kX10_readWord (l : Launch) (G : Gt) (hD : ∀ m, va_D (inA G nC) (wC G m)) (m : Mem) : ∀ a, fX10_readWord m = some a → Ct l G wC nC yX10_readWord cX10_readWord 2 none 2 [.ref (G.2.2 1)] m (cvV a) := by
  refine ct_of (own := RX10) (ls0 := [some (.ref (G.2.2 1)), none]) (by decide) rfl rfl rfl (Nat.le_of_ble_eq_true rfl) hD (fun X h => ?_) l
  unfold fX10_readWord
  refine j_aload_n h dX10_readWord_0 rfl ?_
  refine j_lconst (v := (0 : Int64)) h dX10_readWord_1 rfl ?_
  refine pC10_67 h dX10_readWord_2 (fun m1 hm1 => ?_)
  refine j_wk (ls' := [some (.ref (G.2.2 1)), none]) (And.intro rfl trivial) ?_
  exact (wX10_readWord h 5000).1 0 m1
theorem dX10_isDigitAt_0 : DD cX10_isDigitAt 0 (.iload_n 1) 1 1 := ⟨by decide +kernel, rfl⟩
theorem dX10_isDigitAt_1 : DD cX10_isDigitAt 1 (.aload_n 0) 1 2 := ⟨by decide +kernel, rfl⟩
theorem dX10_isDigitAt_2 : DD cX10_isDigitAt 2 (.getfield 33) 3 5 := ⟨by decide +kernel, rfl⟩
theorem dX10_isDigitAt_5 : DD cX10_isDigitAt 5 (.if_icmp .ge 29) 3 8 := ⟨by decide +kernel, rfl⟩
theorem dX10_isDigitAt_8 : DD cX10_isDigitAt 8 (.aload_n 0) 1 9 := ⟨by decide +kernel, rfl⟩
theorem dX10_isDigitAt_9 : DD cX10_isDigitAt 9 (.getfield 9) 3 12 := ⟨by decide +kernel, rfl⟩
theorem dX10_isDigitAt_12 : DD cX10_isDigitAt 12 (.iload_n 1) 1 13 := ⟨by decide +kernel, rfl⟩
theorem dX10_isDigitAt_13 : DD cX10_isDigitAt 13 (.baload) 1 14 := ⟨by decide +kernel, rfl⟩
theorem dX10_isDigitAt_14 : DD cX10_isDigitAt 14 (.bipush 48) 2 16 := ⟨by decide +kernel, rfl⟩
theorem dX10_isDigitAt_16 : DD cX10_isDigitAt 16 (.if_icmp .lt 18) 3 19 := ⟨by decide +kernel, rfl⟩
theorem dX10_isDigitAt_19 : DD cX10_isDigitAt 19 (.aload_n 0) 1 20 := ⟨by decide +kernel, rfl⟩
theorem dX10_isDigitAt_20 : DD cX10_isDigitAt 20 (.getfield 9) 3 23 := ⟨by decide +kernel, rfl⟩
theorem dX10_isDigitAt_23 : DD cX10_isDigitAt 23 (.iload_n 1) 1 24 := ⟨by decide +kernel, rfl⟩
theorem dX10_isDigitAt_24 : DD cX10_isDigitAt 24 (.baload) 1 25 := ⟨by decide +kernel, rfl⟩
theorem dX10_isDigitAt_25 : DD cX10_isDigitAt 25 (.bipush 57) 2 27 := ⟨by decide +kernel, rfl⟩
theorem dX10_isDigitAt_27 : DD cX10_isDigitAt 27 (.if_icmp .gt 7) 3 30 := ⟨by decide +kernel, rfl⟩
theorem dX10_isDigitAt_30 : DD cX10_isDigitAt 30 (.iconst 1) 1 31 := ⟨by decide +kernel, rfl⟩
theorem dX10_isDigitAt_31 : DD cX10_isDigitAt 31 (.goto 4) 3 34 := ⟨by decide +kernel, rfl⟩
theorem dX10_isDigitAt_34 : DD cX10_isDigitAt 34 (.iconst 0) 1 35 := ⟨by decide +kernel, rfl⟩
theorem dX10_isDigitAt_35 : DD cX10_isDigitAt 35 (.ireturn) 1 36 := ⟨by decide +kernel, rfl⟩
def fX10_isDigitAt (m : Mem) (x1 : Int32) : Option Int32 := (if (m.1 1 1) ≤ x1 then (some (0 : Int32)) else (rd (m.1 2) 1600 x1 fun v2 => (if v2 < (48 : Int32) then (some (0 : Int32)) else (rd (m.1 2) 1600 x1 fun v4 => (if (57 : Int32) < v4 then (some (0 : Int32)) else (some (1 : Int32)))))))
set_option maxHeartbeats 4000000 in
set_option maxRecDepth 100000 in
theorem kX10_isDigitAt (l : Launch) (G : Gt) (hD : ∀ m, va_D (inA G nC) (wC G m)) (m : Mem) (x1 : Int32) : ∀ a, fX10_isDigitAt m x1 = some a → Ct l G wC nC yX10_isDigitAt cX10_isDigitAt 2 (some .boolean) 1 [.ref (G.2.2 1), .int x1] m ((cvP m) a) := by
  refine ct_of (own := RX10) (ls0 := [some (.ref (G.2.2 1)), some (.int x1)]) (by decide) rfl rfl rfl (Nat.le_of_ble_eq_true rfl) hD (fun X h => ?_) l
  unfold fX10_isDigitAt
  refine j_iload_n h dX10_isDigitAt_0 rfl ?_
  refine j_aload_n h dX10_isDigitAt_1 rfl ?_
  refine gC10_33 h dX10_isDigitAt_2 ?_
  refine j_icmp_ge (tgt := 34) h dX10_isDigitAt_5 (by decide) (fun c1 => ?_) (fun c1 => ?_)
  · refine j_iconst (v := (0 : Int32)) h dX10_isDigitAt_34 kiconst_0 ?_
    exact j_zretB h rfl rfl dX10_isDigitAt_35
  · refine j_aload_n h dX10_isDigitAt_8 rfl ?_
    refine gC10_9 h dX10_isDigitAt_9 ?_
    refine j_iload_n h dX10_isDigitAt_12 rfl ?_
    refine aC_2 h dX10_isDigitAt_13 (fun v2 hv2 => ?_)
    refine j_bipush (v := (48 : Int32)) h dX10_isDigitAt_14 kbipush_48 ?_
    refine j_icmp_lt (tgt := 34) h dX10_isDigitAt_16 (by decide) (fun c3 => ?_) (fun c3 => ?_)
    · refine j_iconst (v := (0 : Int32)) h dX10_isDigitAt_34 kiconst_0 ?_
      exact j_zretB h rfl rfl dX10_isDigitAt_35
    · refine j_aload_n h dX10_isDigitAt_19 rfl ?_
      refine gC10_9 h dX10_isDigitAt_20 ?_
      refine j_iload_n h dX10_isDigitAt_23 rfl ?_
      refine aC_2 h dX10_isDigitAt_24 (fun v4 hv4 => ?_)
      refine j_bipush (v := (57 : Int32)) h dX10_isDigitAt_25 kbipush_57 ?_
      refine j_icmp_gt (tgt := 34) h dX10_isDigitAt_27 (by decide) (fun c5 => ?_) (fun c5 => ?_)
      · refine j_iconst (v := (0 : Int32)) h dX10_isDigitAt_34 kiconst_0 ?_
        exact j_zretB h rfl rfl dX10_isDigitAt_35
      · refine j_iconst (v := (1 : Int32)) h dX10_isDigitAt_30 kiconst_1 ?_
        refine j_goto (tgt := 35) h dX10_isDigitAt_31 (by decide) ?_
        exact j_zretB h rfl rfl dX10_isDigitAt_35
theorem dX10_readNumber_0 : DD cX10_readNumber 0 (.aload_n 0) 1 1 := ⟨by decide +kernel, rfl⟩
theorem dX10_readNumber_1 : DD cX10_readNumber 1 (.iconst 0) 1 2 := ⟨by decide +kernel, rfl⟩
theorem dX10_readNumber_2 : DD cX10_readNumber 2 (.putfield 71) 3 5 := ⟨by decide +kernel, rfl⟩
theorem dX10_readNumber_5 : DD cX10_readNumber 5 (.aload_n 0) 1 6 := ⟨by decide +kernel, rfl⟩
theorem dX10_readNumber_6 : DD cX10_readNumber 6 (.getfield 36) 3 9 := ⟨by decide +kernel, rfl⟩
theorem dX10_readNumber_9 : DD cX10_readNumber 9 (.aload_n 0) 1 10 := ⟨by decide +kernel, rfl⟩
theorem dX10_readNumber_10 : DD cX10_readNumber 10 (.getfield 33) 3 13 := ⟨by decide +kernel, rfl⟩
theorem dX10_readNumber_13 : DD cX10_readNumber 13 (.if_icmp .ge 51) 3 16 := ⟨by decide +kernel, rfl⟩
theorem dX10_readNumber_16 : DD cX10_readNumber 16 (.aload_n 0) 1 17 := ⟨by decide +kernel, rfl⟩
theorem dX10_readNumber_17 : DD cX10_readNumber 17 (.aload_n 0) 1 18 := ⟨by decide +kernel, rfl⟩
theorem dX10_readNumber_18 : DD cX10_readNumber 18 (.getfield 36) 3 21 := ⟨by decide +kernel, rfl⟩
theorem dX10_readNumber_21 : DD cX10_readNumber 21 (.invokevirtual 55) 3 24 := ⟨by decide +kernel, rfl⟩
theorem dX10_readNumber_24 : DD cX10_readNumber 24 (.ifCond .eq 40) 3 27 := ⟨by decide +kernel, rfl⟩
theorem dX10_readNumber_27 : DD cX10_readNumber 27 (.aload_n 0) 1 28 := ⟨by decide +kernel, rfl⟩
theorem dX10_readNumber_28 : DD cX10_readNumber 28 (.aload_n 0) 1 29 := ⟨by decide +kernel, rfl⟩
theorem dX10_readNumber_29 : DD cX10_readNumber 29 (.getfield 71) 3 32 := ⟨by decide +kernel, rfl⟩
theorem dX10_readNumber_32 : DD cX10_readNumber 32 (.bipush 10) 2 34 := ⟨by decide +kernel, rfl⟩
theorem dX10_readNumber_34 : DD cX10_readNumber 34 (.imul) 1 35 := ⟨by decide +kernel, rfl⟩
theorem dX10_readNumber_35 : DD cX10_readNumber 35 (.aload_n 0) 1 36 := ⟨by decide +kernel, rfl⟩
theorem dX10_readNumber_36 : DD cX10_readNumber 36 (.getfield 9) 3 39 := ⟨by decide +kernel, rfl⟩
theorem dX10_readNumber_39 : DD cX10_readNumber 39 (.aload_n 0) 1 40 := ⟨by decide +kernel, rfl⟩
theorem dX10_readNumber_40 : DD cX10_readNumber 40 (.getfield 36) 3 43 := ⟨by decide +kernel, rfl⟩
theorem dX10_readNumber_43 : DD cX10_readNumber 43 (.baload) 1 44 := ⟨by decide +kernel, rfl⟩
theorem dX10_readNumber_44 : DD cX10_readNumber 44 (.iadd) 1 45 := ⟨by decide +kernel, rfl⟩
theorem dX10_readNumber_45 : DD cX10_readNumber 45 (.bipush 48) 2 47 := ⟨by decide +kernel, rfl⟩
theorem dX10_readNumber_47 : DD cX10_readNumber 47 (.isub) 1 48 := ⟨by decide +kernel, rfl⟩
theorem dX10_readNumber_48 : DD cX10_readNumber 48 (.putfield 71) 3 51 := ⟨by decide +kernel, rfl⟩
theorem dX10_readNumber_51 : DD cX10_readNumber 51 (.aload_n 0) 1 52 := ⟨by decide +kernel, rfl⟩
theorem dX10_readNumber_52 : DD cX10_readNumber 52 (.dup) 1 53 := ⟨by decide +kernel, rfl⟩
theorem dX10_readNumber_53 : DD cX10_readNumber 53 (.getfield 36) 3 56 := ⟨by decide +kernel, rfl⟩
theorem dX10_readNumber_56 : DD cX10_readNumber 56 (.iconst 1) 1 57 := ⟨by decide +kernel, rfl⟩
theorem dX10_readNumber_57 : DD cX10_readNumber 57 (.iadd) 1 58 := ⟨by decide +kernel, rfl⟩
theorem dX10_readNumber_58 : DD cX10_readNumber 58 (.putfield 36) 3 61 := ⟨by decide +kernel, rfl⟩
theorem dX10_readNumber_61 : DD cX10_readNumber 61 (.goto (-56)) 3 64 := ⟨by decide +kernel, rfl⟩
theorem dX10_readNumber_64 : DD cX10_readNumber 64 (.aload_n 0) 1 65 := ⟨by decide +kernel, rfl⟩
theorem dX10_readNumber_65 : DD cX10_readNumber 65 (.aload_n 0) 1 66 := ⟨by decide +kernel, rfl⟩
theorem dX10_readNumber_66 : DD cX10_readNumber 66 (.getfield 36) 3 69 := ⟨by decide +kernel, rfl⟩
theorem dX10_readNumber_69 : DD cX10_readNumber 69 (.aload_n 0) 1 70 := ⟨by decide +kernel, rfl⟩
theorem dX10_readNumber_70 : DD cX10_readNumber 70 (.getfield 42) 3 73 := ⟨by decide +kernel, rfl⟩
theorem dX10_readNumber_73 : DD cX10_readNumber 73 (.isub) 1 74 := ⟨by decide +kernel, rfl⟩
theorem dX10_readNumber_74 : DD cX10_readNumber 74 (.iconst 4) 1 75 := ⟨by decide +kernel, rfl⟩
theorem dX10_readNumber_75 : DD cX10_readNumber 75 (.if_icmp .gt 14) 3 78 := ⟨by decide +kernel, rfl⟩
theorem dX10_readNumber_78 : DD cX10_readNumber 78 (.aload_n 0) 1 79 := ⟨by decide +kernel, rfl⟩
theorem dX10_readNumber_79 : DD cX10_readNumber 79 (.aload_n 0) 1 80 := ⟨by decide +kernel, rfl⟩
theorem dX10_readNumber_80 : DD cX10_readNumber 80 (.getfield 36) 3 83 := ⟨by decide +kernel, rfl⟩
theorem dX10_readNumber_83 : DD cX10_readNumber 83 (.invokevirtual 48) 3 86 := ⟨by decide +kernel, rfl⟩
theorem dX10_readNumber_86 : DD cX10_readNumber 86 (.ifCond .eq 7) 3 89 := ⟨by decide +kernel, rfl⟩
theorem dX10_readNumber_89 : DD cX10_readNumber 89 (.iconst 0) 1 90 := ⟨by decide +kernel, rfl⟩
theorem dX10_readNumber_90 : DD cX10_readNumber 90 (.goto 4) 3 93 := ⟨by decide +kernel, rfl⟩
theorem dX10_readNumber_93 : DD cX10_readNumber 93 (.iconst 3) 1 94 := ⟨by decide +kernel, rfl⟩
theorem dX10_readNumber_94 : DD cX10_readNumber 94 (.putfield 45) 3 97 := ⟨by decide +kernel, rfl⟩
theorem dX10_readNumber_97 : DD cX10_readNumber 97 (.return_) 1 98 := ⟨by decide +kernel, rfl⟩
def gX10_readNumber : Nat → Mem → Option Mem
  | 0, _ => none
  | f + 1, m => (if (m.1 1 1) ≤ (m.1 1 3) then (if (4 : Int32) < ((m.1 1 3) - (m.1 1 5)) then (pt (sI m 1 4 (0 : Int32)) fun m3 => (some m3)) else (cP (fX10_isLetterAt m (m.1 1 3)) fun r4 => (if r4 = 0 then (pt (sI m 1 4 (3 : Int32)) fun m7 => (some m7)) else (pt (sI m 1 4 (0 : Int32)) fun m8 => (some m8))))) else (cP (fX10_isDigitAt m (m.1 1 3)) fun r9 => (if r9 = 0 then (if (4 : Int32) < ((m.1 1 3) - (m.1 1 5)) then (pt (sI m 1 4 (0 : Int32)) fun m13 => (some m13)) else (cP (fX10_isLetterAt m (m.1 1 3)) fun r14 => (if r14 = 0 then (pt (sI m 1 4 (3 : Int32)) fun m17 => (some m17)) else (pt (sI m 1 4 (0 : Int32)) fun m18 => (some m18))))) else (rd (m.1 2) 1600 (m.1 1 3) fun v19 => (pt (sI m 1 6 ((((m.1 1 6) * (10 : Int32)) + v19) - (48 : Int32))) fun m20 => (pt (sI m20 1 3 ((m20.1 1 3) + (1 : Int32))) fun m21 => (gX10_readNumber f m21)))))))
def fX10_readNumber (m : Mem) : Option Mem := (pt (sI m 1 6 (0 : Int32)) fun m1 => (gX10_readNumber 5000 m1))
set_option maxHeartbeats 4000000 in
set_option maxRecDepth 100000 in
theorem wX10_readNumber {X : Cx} {G : Gt} (h : OkX (X, G, wC, nC) cX10_readNumber RX10 1 none 2) : ∀ f : Nat, (∀ (m : Mem), JR (X, G, wC, nC) cvV m 5 [some (.ref (G.2.2 1))] [] (gX10_readNumber f m)) := by
  intro f
  induction f with
  | zero => exact (fun _ => j_none)
  | succ f ih =>
    intro m
    rw [gX10_readNumber]
    refine j_aload_n h dX10_readNumber_5 rfl ?_
    refine gC10_36 h dX10_readNumber_6 ?_
    refine j_aload_n h dX10_readNumber_9 rfl ?_
    refine gC10_33 h dX10_readNumber_10 ?_
    refine j_icmp_ge (tgt := 64) h dX10_readNumber_13 (by decide) (fun c1 => ?_) (fun c1 => ?_)
    · refine j_aload_n h dX10_readNumber_64 rfl ?_
      refine j_aload_n h dX10_readNumber_65 rfl ?_
      refine gC10_36 h dX10_readNumber_66 ?_
      refine j_aload_n h dX10_readNumber_69 rfl ?_
      refine gC10_42 h dX10_readNumber_70 ?_
      refine j_isub h dX10_readNumber_73 ?_
      refine j_iconst (v := (4 : Int32)) h dX10_readNumber_74 kiconst_4 ?_
      refine j_icmp_gt (tgt := 89) h dX10_readNumber_75 (by decide) (fun c2 => ?_) (fun c2 => ?_)
      · refine j_iconst (v := (0 : Int32)) h dX10_readNumber_89 kiconst_0 ?_
        refine j_goto (tgt := 94) h dX10_readNumber_90 (by decide) ?_
        refine pC10_45 h dX10_readNumber_94 (fun m3 hm3 => ?_)
        exact j_vret h rfl dX10_readNumber_97
      · refine j_aload_n h dX10_readNumber_78 rfl ?_
        refine j_aload_n h dX10_readNumber_79 rfl ?_
        refine gC10_36 h dX10_readNumber_80 ?_
        refine j_callVP (q0 := 1) (ci := 10) h [.int (m.1 1 3)] (kX10_isLetterAt _ G h.2.2.2.2.2.2.2.2.2.2 m (m.1 1 3)) okX10_isLetterAt inX10_isLetterAt ml10_48 rfl rfl rfl rfl (by decide) (by decide) (Nat.le_of_ble_eq_true rfl) rfl dX10_readNumber_83 (fun r4 hr4 => ?_)
        refine j_if_eq (tgt := 93) h dX10_readNumber_86 (by decide) (fun c6 => ?_) (fun c6 => ?_)
        · refine j_iconst (v := (3 : Int32)) h dX10_readNumber_93 kiconst_3 ?_
          refine pC10_45 h dX10_readNumber_94 (fun m7 hm7 => ?_)
          exact j_vret h rfl dX10_readNumber_97
        · refine j_iconst (v := (0 : Int32)) h dX10_readNumber_89 kiconst_0 ?_
          refine j_goto (tgt := 94) h dX10_readNumber_90 (by decide) ?_
          refine pC10_45 h dX10_readNumber_94 (fun m8 hm8 => ?_)
          exact j_vret h rfl dX10_readNumber_97
    · refine j_aload_n h dX10_readNumber_16 rfl ?_
      refine j_aload_n h dX10_readNumber_17 rfl ?_
      refine gC10_36 h dX10_readNumber_18 ?_
      refine j_callVP (q0 := 1) (ci := 10) h [.int (m.1 1 3)] (kX10_isDigitAt _ G h.2.2.2.2.2.2.2.2.2.2 m (m.1 1 3)) okX10_isDigitAt inX10_isDigitAt ml10_55 rfl rfl rfl rfl (by decide) (by decide) (Nat.le_of_ble_eq_true rfl) rfl dX10_readNumber_21 (fun r9 hr9 => ?_)
      refine j_if_eq (tgt := 64) h dX10_readNumber_24 (by decide) (fun c11 => ?_) (fun c11 => ?_)
      · refine j_aload_n h dX10_readNumber_64 rfl ?_
        refine j_aload_n h dX10_readNumber_65 rfl ?_
        refine gC10_36 h dX10_readNumber_66 ?_
        refine j_aload_n h dX10_readNumber_69 rfl ?_
        refine gC10_42 h dX10_readNumber_70 ?_
        refine j_isub h dX10_readNumber_73 ?_
        refine j_iconst (v := (4 : Int32)) h dX10_readNumber_74 kiconst_4 ?_
        refine j_icmp_gt (tgt := 89) h dX10_readNumber_75 (by decide) (fun c12 => ?_) (fun c12 => ?_)
        · refine j_iconst (v := (0 : Int32)) h dX10_readNumber_89 kiconst_0 ?_
          refine j_goto (tgt := 94) h dX10_readNumber_90 (by decide) ?_
          refine pC10_45 h dX10_readNumber_94 (fun m13 hm13 => ?_)
          exact j_vret h rfl dX10_readNumber_97
        · refine j_aload_n h dX10_readNumber_78 rfl ?_
          refine j_aload_n h dX10_readNumber_79 rfl ?_
          refine gC10_36 h dX10_readNumber_80 ?_
          refine j_callVP (q0 := 1) (ci := 10) h [.int (m.1 1 3)] (kX10_isLetterAt _ G h.2.2.2.2.2.2.2.2.2.2 m (m.1 1 3)) okX10_isLetterAt inX10_isLetterAt ml10_48 rfl rfl rfl rfl (by decide) (by decide) (Nat.le_of_ble_eq_true rfl) rfl dX10_readNumber_83 (fun r14 hr14 => ?_)
          refine j_if_eq (tgt := 93) h dX10_readNumber_86 (by decide) (fun c16 => ?_) (fun c16 => ?_)
          · refine j_iconst (v := (3 : Int32)) h dX10_readNumber_93 kiconst_3 ?_
            refine pC10_45 h dX10_readNumber_94 (fun m17 hm17 => ?_)
            exact j_vret h rfl dX10_readNumber_97
          · refine j_iconst (v := (0 : Int32)) h dX10_readNumber_89 kiconst_0 ?_
            refine j_goto (tgt := 94) h dX10_readNumber_90 (by decide) ?_
            refine pC10_45 h dX10_readNumber_94 (fun m18 hm18 => ?_)
            exact j_vret h rfl dX10_readNumber_97
      · refine j_aload_n h dX10_readNumber_27 rfl ?_
        refine j_aload_n h dX10_readNumber_28 rfl ?_
        refine gC10_71 h dX10_readNumber_29 ?_
        refine j_bipush (v := (10 : Int32)) h dX10_readNumber_32 kbipush_10 ?_
        refine j_imul h dX10_readNumber_34 ?_
        refine j_aload_n h dX10_readNumber_35 rfl ?_
        refine gC10_9 h dX10_readNumber_36 ?_
        refine j_aload_n h dX10_readNumber_39 rfl ?_
        refine gC10_36 h dX10_readNumber_40 ?_
        refine aC_2 h dX10_readNumber_43 (fun v19 hv19 => ?_)
        refine j_iadd h dX10_readNumber_44 ?_
        refine j_bipush (v := (48 : Int32)) h dX10_readNumber_45 kbipush_48 ?_
        refine j_isub h dX10_readNumber_47 ?_
        refine pC10_71 h dX10_readNumber_48 (fun m20 hm20 => ?_)
        refine j_aload_n h dX10_readNumber_51 rfl ?_
        refine j_dup h dX10_readNumber_52 rfl ?_
        refine gC10_36 h dX10_readNumber_53 ?_
        refine j_iconst (v := (1 : Int32)) h dX10_readNumber_56 kiconst_1 ?_
        refine j_iadd h dX10_readNumber_57 ?_
        refine pC10_36 h dX10_readNumber_58 (fun m21 hm21 => ?_)
        refine j_goto (tgt := 5) h dX10_readNumber_61 (by decide) ?_
        refine j_wk (ls' := [some (.ref (G.2.2 1))]) (And.intro rfl trivial) ?_
        exact ih m21
set_option maxHeartbeats 4000000 in
set_option maxRecDepth 100000 in
theorem kX10_readNumber (l : Launch) (G : Gt) (hD : ∀ m, va_D (inA G nC) (wC G m)) (m : Mem) : ∀ a, fX10_readNumber m = some a → Ct l G wC nC yX10_readNumber cX10_readNumber 1 none 2 [.ref (G.2.2 1)] m (cvV a) := by
  refine ct_of (own := RX10) (ls0 := [some (.ref (G.2.2 1))]) (by decide) rfl rfl rfl (Nat.le_of_ble_eq_true rfl) hD (fun X h => ?_) l
  unfold fX10_readNumber
  refine j_aload_n h dX10_readNumber_0 rfl ?_
  refine j_iconst (v := (0 : Int32)) h dX10_readNumber_1 kiconst_0 ?_
  refine pC10_71 h dX10_readNumber_2 (fun m1 hm1 => ?_)
  refine j_wk (ls' := [some (.ref (G.2.2 1))]) (And.intro rfl trivial) ?_
  exact (wX10_readNumber h 5000) m1
theorem dX10_advance_0 : DD cX10_advance 0 (.aload_n 0) 1 1 := ⟨by decide +kernel, rfl⟩
theorem dX10_advance_1 : DD cX10_advance 1 (.getfield 36) 3 4 := ⟨by decide +kernel, rfl⟩
theorem dX10_advance_4 : DD cX10_advance 4 (.aload_n 0) 1 5 := ⟨by decide +kernel, rfl⟩
theorem dX10_advance_5 : DD cX10_advance 5 (.getfield 33) 3 8 := ⟨by decide +kernel, rfl⟩
theorem dX10_advance_8 : DD cX10_advance 8 (.if_icmp .ge 44) 3 11 := ⟨by decide +kernel, rfl⟩
theorem dX10_advance_11 : DD cX10_advance 11 (.aload_n 0) 1 12 := ⟨by decide +kernel, rfl⟩
theorem dX10_advance_12 : DD cX10_advance 12 (.getfield 9) 3 15 := ⟨by decide +kernel, rfl⟩
theorem dX10_advance_15 : DD cX10_advance 15 (.aload_n 0) 1 16 := ⟨by decide +kernel, rfl⟩
theorem dX10_advance_16 : DD cX10_advance 16 (.getfield 36) 3 19 := ⟨by decide +kernel, rfl⟩
theorem dX10_advance_19 : DD cX10_advance 19 (.baload) 1 20 := ⟨by decide +kernel, rfl⟩
theorem dX10_advance_20 : DD cX10_advance 20 (.bipush 32) 2 22 := ⟨by decide +kernel, rfl⟩
theorem dX10_advance_22 : DD cX10_advance 22 (.if_icmp .eq 17) 3 25 := ⟨by decide +kernel, rfl⟩
theorem dX10_advance_25 : DD cX10_advance 25 (.aload_n 0) 1 26 := ⟨by decide +kernel, rfl⟩
theorem dX10_advance_26 : DD cX10_advance 26 (.getfield 9) 3 29 := ⟨by decide +kernel, rfl⟩
theorem dX10_advance_29 : DD cX10_advance 29 (.aload_n 0) 1 30 := ⟨by decide +kernel, rfl⟩
theorem dX10_advance_30 : DD cX10_advance 30 (.getfield 36) 3 33 := ⟨by decide +kernel, rfl⟩
theorem dX10_advance_33 : DD cX10_advance 33 (.baload) 1 34 := ⟨by decide +kernel, rfl⟩
theorem dX10_advance_34 : DD cX10_advance 34 (.bipush 10) 2 36 := ⟨by decide +kernel, rfl⟩
theorem dX10_advance_36 : DD cX10_advance 36 (.if_icmp .ne 16) 3 39 := ⟨by decide +kernel, rfl⟩
theorem dX10_advance_39 : DD cX10_advance 39 (.aload_n 0) 1 40 := ⟨by decide +kernel, rfl⟩
theorem dX10_advance_40 : DD cX10_advance 40 (.dup) 1 41 := ⟨by decide +kernel, rfl⟩
theorem dX10_advance_41 : DD cX10_advance 41 (.getfield 36) 3 44 := ⟨by decide +kernel, rfl⟩
theorem dX10_advance_44 : DD cX10_advance 44 (.iconst 1) 1 45 := ⟨by decide +kernel, rfl⟩
theorem dX10_advance_45 : DD cX10_advance 45 (.iadd) 1 46 := ⟨by decide +kernel, rfl⟩
theorem dX10_advance_46 : DD cX10_advance 46 (.putfield 36) 3 49 := ⟨by decide +kernel, rfl⟩
theorem dX10_advance_49 : DD cX10_advance 49 (.goto (-49)) 3 52 := ⟨by decide +kernel, rfl⟩
theorem dX10_advance_52 : DD cX10_advance 52 (.aload_n 0) 1 53 := ⟨by decide +kernel, rfl⟩
theorem dX10_advance_53 : DD cX10_advance 53 (.aload_n 0) 1 54 := ⟨by decide +kernel, rfl⟩
theorem dX10_advance_54 : DD cX10_advance 54 (.getfield 36) 3 57 := ⟨by decide +kernel, rfl⟩
theorem dX10_advance_57 : DD cX10_advance 57 (.putfield 42) 3 60 := ⟨by decide +kernel, rfl⟩
theorem dX10_advance_60 : DD cX10_advance 60 (.aload_n 0) 1 61 := ⟨by decide +kernel, rfl⟩
theorem dX10_advance_61 : DD cX10_advance 61 (.getfield 36) 3 64 := ⟨by decide +kernel, rfl⟩
theorem dX10_advance_64 : DD cX10_advance 64 (.aload_n 0) 1 65 := ⟨by decide +kernel, rfl⟩
theorem dX10_advance_65 : DD cX10_advance 65 (.getfield 33) 3 68 := ⟨by decide +kernel, rfl⟩
theorem dX10_advance_68 : DD cX10_advance 68 (.if_icmp .lt 11) 3 71 := ⟨by decide +kernel, rfl⟩
theorem dX10_advance_71 : DD cX10_advance 71 (.aload_n 0) 1 72 := ⟨by decide +kernel, rfl⟩
theorem dX10_advance_72 : DD cX10_advance 72 (.iconst 1) 1 73 := ⟨by decide +kernel, rfl⟩
theorem dX10_advance_73 : DD cX10_advance 73 (.putfield 45) 3 76 := ⟨by decide +kernel, rfl⟩
theorem dX10_advance_76 : DD cX10_advance 76 (.goto 82) 3 79 := ⟨by decide +kernel, rfl⟩
theorem dX10_advance_79 : DD cX10_advance 79 (.aload_n 0) 1 80 := ⟨by decide +kernel, rfl⟩
theorem dX10_advance_80 : DD cX10_advance 80 (.aload_n 0) 1 81 := ⟨by decide +kernel, rfl⟩
theorem dX10_advance_81 : DD cX10_advance 81 (.getfield 36) 3 84 := ⟨by decide +kernel, rfl⟩
theorem dX10_advance_84 : DD cX10_advance 84 (.invokevirtual 48) 3 87 := ⟨by decide +kernel, rfl⟩
theorem dX10_advance_87 : DD cX10_advance 87 (.ifCond .eq 10) 3 90 := ⟨by decide +kernel, rfl⟩
theorem dX10_advance_90 : DD cX10_advance 90 (.aload_n 0) 1 91 := ⟨by decide +kernel, rfl⟩
theorem dX10_advance_91 : DD cX10_advance 91 (.invokevirtual 52) 3 94 := ⟨by decide +kernel, rfl⟩
theorem dX10_advance_94 : DD cX10_advance 94 (.goto 64) 3 97 := ⟨by decide +kernel, rfl⟩
theorem dX10_advance_97 : DD cX10_advance 97 (.aload_n 0) 1 98 := ⟨by decide +kernel, rfl⟩
theorem dX10_advance_98 : DD cX10_advance 98 (.aload_n 0) 1 99 := ⟨by decide +kernel, rfl⟩
theorem dX10_advance_99 : DD cX10_advance 99 (.getfield 36) 3 102 := ⟨by decide +kernel, rfl⟩
theorem dX10_advance_102 : DD cX10_advance 102 (.invokevirtual 55) 3 105 := ⟨by decide +kernel, rfl⟩
theorem dX10_advance_105 : DD cX10_advance 105 (.ifCond .eq 10) 3 108 := ⟨by decide +kernel, rfl⟩
theorem dX10_advance_108 : DD cX10_advance 108 (.aload_n 0) 1 109 := ⟨by decide +kernel, rfl⟩
theorem dX10_advance_109 : DD cX10_advance 109 (.invokevirtual 58) 3 112 := ⟨by decide +kernel, rfl⟩
theorem dX10_advance_112 : DD cX10_advance 112 (.goto 46) 3 115 := ⟨by decide +kernel, rfl⟩
theorem dX10_advance_115 : DD cX10_advance 115 (.aload_n 0) 1 116 := ⟨by decide +kernel, rfl⟩
theorem dX10_advance_116 : DD cX10_advance 116 (.getfield 9) 3 119 := ⟨by decide +kernel, rfl⟩
theorem dX10_advance_119 : DD cX10_advance 119 (.aload_n 0) 1 120 := ⟨by decide +kernel, rfl⟩
theorem dX10_advance_120 : DD cX10_advance 120 (.getfield 36) 3 123 := ⟨by decide +kernel, rfl⟩
theorem dX10_advance_123 : DD cX10_advance 123 (.baload) 1 124 := ⟨by decide +kernel, rfl⟩
theorem dX10_advance_124 : DD cX10_advance 124 (.sipush 255) 3 127 := ⟨by decide +kernel, rfl⟩
theorem dX10_advance_127 : DD cX10_advance 127 (.iand) 1 128 := ⟨by decide +kernel, rfl⟩
theorem dX10_advance_128 : DD cX10_advance 128 (.istore_n 1) 1 129 := ⟨by decide +kernel, rfl⟩
theorem dX10_advance_129 : DD cX10_advance 129 (.aload_n 0) 1 130 := ⟨by decide +kernel, rfl⟩
theorem dX10_advance_130 : DD cX10_advance 130 (.ldc 61) 2 132 := ⟨by decide +kernel, rfl⟩
theorem dX10_advance_132 : DD cX10_advance 132 (.iload_n 1) 1 133 := ⟨by decide +kernel, rfl⟩
theorem dX10_advance_133 : DD cX10_advance 133 (.i2c) 1 134 := ⟨by decide +kernel, rfl⟩
theorem dX10_advance_134 : DD cX10_advance 134 (.invokevirtual 63) 3 137 := ⟨by decide +kernel, rfl⟩
theorem dX10_advance_137 : DD cX10_advance 137 (.ifCond .lt 7) 3 140 := ⟨by decide +kernel, rfl⟩
theorem dX10_advance_140 : DD cX10_advance 140 (.iload_n 1) 1 141 := ⟨by decide +kernel, rfl⟩
theorem dX10_advance_141 : DD cX10_advance 141 (.goto 4) 3 144 := ⟨by decide +kernel, rfl⟩
theorem dX10_advance_144 : DD cX10_advance 144 (.iconst 0) 1 145 := ⟨by decide +kernel, rfl⟩
theorem dX10_advance_145 : DD cX10_advance 145 (.putfield 45) 3 148 := ⟨by decide +kernel, rfl⟩
theorem dX10_advance_148 : DD cX10_advance 148 (.aload_n 0) 1 149 := ⟨by decide +kernel, rfl⟩
theorem dX10_advance_149 : DD cX10_advance 149 (.dup) 1 150 := ⟨by decide +kernel, rfl⟩
theorem dX10_advance_150 : DD cX10_advance 150 (.getfield 36) 3 153 := ⟨by decide +kernel, rfl⟩
theorem dX10_advance_153 : DD cX10_advance 153 (.iconst 1) 1 154 := ⟨by decide +kernel, rfl⟩
theorem dX10_advance_154 : DD cX10_advance 154 (.iadd) 1 155 := ⟨by decide +kernel, rfl⟩
theorem dX10_advance_155 : DD cX10_advance 155 (.putfield 36) 3 158 := ⟨by decide +kernel, rfl⟩
theorem dX10_advance_158 : DD cX10_advance 158 (.return_) 1 159 := ⟨by decide +kernel, rfl⟩
def gX10_advance : Nat → Mem → Option Mem
  | 0, _ => none
  | f + 1, m => (if (m.1 1 1) ≤ (m.1 1 3) then (pt (sI m 1 5 (m.1 1 3)) fun m2 => (if (m2.1 1 3) < (m2.1 1 1) then (cP (fX10_isLetterAt m2 (m2.1 1 3)) fun r4 => (if r4 = 0 then (cP (fX10_isDigitAt m2 (m2.1 1 3)) fun r7 => (if r7 = 0 then (rd (m2.1 2) 1600 (m2.1 1 3) fun v10 => (nm (v10 &&& (255 : Int32)) fun v11 => (cP (fsigns ((v11).toUInt32 % 65536).toInt32) fun r12 => (if r12 < 0 then (pt (sI m2 1 4 (0 : Int32)) fun m14 => (pt (sI m14 1 3 ((m14.1 1 3) + (1 : Int32))) fun m15 => (some m15))) else (pt (sI m2 1 4 v11) fun m16 => (pt (sI m16 1 3 ((m16.1 1 3) + (1 : Int32))) fun m17 => (some m17))))))) else (cV (fX10_readNumber m2) fun m19 => (some m19)))) else (cV (fX10_readWord m2) fun m21 => (some m21)))) else (pt (sI m2 1 4 (1 : Int32)) fun m22 => (some m22)))) else (rd (m.1 2) 1600 (m.1 1 3) fun v23 => (if v23 = (32 : Int32) then (pt (sI m 1 3 ((m.1 1 3) + (1 : Int32))) fun m25 => (gX10_advance f m25)) else (rd (m.1 2) 1600 (m.1 1 3) fun v26 => (if v26 = (10 : Int32) then (pt (sI m 1 3 ((m.1 1 3) + (1 : Int32))) fun m49 => (gX10_advance f m49)) else (pt (sI m 1 5 (m.1 1 3)) fun m28 => (if (m28.1 1 3) < (m28.1 1 1) then (cP (fX10_isLetterAt m28 (m28.1 1 3)) fun r30 => (if r30 = 0 then (cP (fX10_isDigitAt m28 (m28.1 1 3)) fun r33 => (if r33 = 0 then (rd (m28.1 2) 1600 (m28.1 1 3) fun v36 => (nm (v36 &&& (255 : Int32)) fun v37 => (cP (fsigns ((v37).toUInt32 % 65536).toInt32) fun r38 => (if r38 < 0 then (pt (sI m28 1 4 (0 : Int32)) fun m40 => (pt (sI m40 1 3 ((m40.1 1 3) + (1 : Int32))) fun m41 => (some m41))) else (pt (sI m28 1 4 v37) fun m42 => (pt (sI m42 1 3 ((m42.1 1 3) + (1 : Int32))) fun m43 => (some m43))))))) else (cV (fX10_readNumber m28) fun m45 => (some m45)))) else (cV (fX10_readWord m28) fun m47 => (some m47)))) else (pt (sI m28 1 4 (1 : Int32)) fun m48 => (some m48)))))))))
def fX10_advance (m : Mem) : Option Mem := (gX10_advance 5000 m)
set_option maxHeartbeats 4000000 in
set_option maxRecDepth 100000 in
theorem wX10_advance {X : Cx} {G : Gt} (h : OkX (X, G, wC, nC) cX10_advance RX10 2 none 4) : ∀ f : Nat, (∀ (m : Mem), JR (X, G, wC, nC) cvV m 0 [some (.ref (G.2.2 1)), none] [] (gX10_advance f m)) := by
  intro f
  induction f with
  | zero => exact (fun _ => j_none)
  | succ f ih =>
    intro m
    rw [gX10_advance]
    refine j_aload_n h dX10_advance_0 rfl ?_
    refine gC10_36 h dX10_advance_1 ?_
    refine j_aload_n h dX10_advance_4 rfl ?_
    refine gC10_33 h dX10_advance_5 ?_
    refine j_icmp_ge (tgt := 52) h dX10_advance_8 (by decide) (fun c1 => ?_) (fun c1 => ?_)
    · refine j_aload_n h dX10_advance_52 rfl ?_
      refine j_aload_n h dX10_advance_53 rfl ?_
      refine gC10_36 h dX10_advance_54 ?_
      refine pC10_42 h dX10_advance_57 (fun m2 hm2 => ?_)
      refine j_aload_n h dX10_advance_60 rfl ?_
      refine gC10_36 h dX10_advance_61 ?_
      refine j_aload_n h dX10_advance_64 rfl ?_
      refine gC10_33 h dX10_advance_65 ?_
      refine j_icmp_lt (tgt := 79) h dX10_advance_68 (by decide) (fun c3 => ?_) (fun c3 => ?_)
      · refine j_aload_n h dX10_advance_79 rfl ?_
        refine j_aload_n h dX10_advance_80 rfl ?_
        refine gC10_36 h dX10_advance_81 ?_
        refine j_callVP (q0 := 1) (ci := 10) h [.int (m2.1 1 3)] (kX10_isLetterAt _ G h.2.2.2.2.2.2.2.2.2.2 m2 (m2.1 1 3)) okX10_isLetterAt inX10_isLetterAt ml10_48 rfl rfl rfl rfl (by decide) (by decide) (Nat.le_of_ble_eq_true rfl) rfl dX10_advance_84 (fun r4 hr4 => ?_)
        refine j_if_eq (tgt := 97) h dX10_advance_87 (by decide) (fun c6 => ?_) (fun c6 => ?_)
        · refine j_aload_n h dX10_advance_97 rfl ?_
          refine j_aload_n h dX10_advance_98 rfl ?_
          refine gC10_36 h dX10_advance_99 ?_
          refine j_callVP (q0 := 1) (ci := 10) h [.int (m2.1 1 3)] (kX10_isDigitAt _ G h.2.2.2.2.2.2.2.2.2.2 m2 (m2.1 1 3)) okX10_isDigitAt inX10_isDigitAt ml10_55 rfl rfl rfl rfl (by decide) (by decide) (Nat.le_of_ble_eq_true rfl) rfl dX10_advance_102 (fun r7 hr7 => ?_)
          refine j_if_eq (tgt := 115) h dX10_advance_105 (by decide) (fun c9 => ?_) (fun c9 => ?_)
          · refine j_aload_n h dX10_advance_115 rfl ?_
            refine gC10_9 h dX10_advance_116 ?_
            refine j_aload_n h dX10_advance_119 rfl ?_
            refine gC10_36 h dX10_advance_120 ?_
            refine aC_2 h dX10_advance_123 (fun v10 hv10 => ?_)
            refine j_sipush (v := (255 : Int32)) h dX10_advance_124 ksipush_255 ?_
            refine j_iand h dX10_advance_127 ?_
            refine j_nm (fun v11 hv11 => ?_)
            refine j_istore_n h dX10_advance_128 rfl rfl ?_
            refine j_aload_n h dX10_advance_129 rfl ?_
            refine j_ldcS61 h dX10_advance_130 ?_
            refine j_iload_n h dX10_advance_132 rfl ?_
            refine j_i2c h dX10_advance_133 ?_
            refine j_signs h ml10_63 (Nat.le_of_ble_eq_true rfl) rfl (by decide) dX10_advance_134 (fun r12 hr12 => ?_)
            refine j_if_lt (tgt := 144) h dX10_advance_137 (by decide) (fun c13 => ?_) (fun c13 => ?_)
            · refine j_iconst (v := (0 : Int32)) h dX10_advance_144 kiconst_0 ?_
              refine pC10_45 h dX10_advance_145 (fun m14 hm14 => ?_)
              refine j_aload_n h dX10_advance_148 rfl ?_
              refine j_dup h dX10_advance_149 rfl ?_
              refine gC10_36 h dX10_advance_150 ?_
              refine j_iconst (v := (1 : Int32)) h dX10_advance_153 kiconst_1 ?_
              refine j_iadd h dX10_advance_154 ?_
              refine pC10_36 h dX10_advance_155 (fun m15 hm15 => ?_)
              exact j_vret h rfl dX10_advance_158
            · refine j_iload_n h dX10_advance_140 rfl ?_
              refine j_goto (tgt := 145) h dX10_advance_141 (by decide) ?_
              refine pC10_45 h dX10_advance_145 (fun m16 hm16 => ?_)
              refine j_aload_n h dX10_advance_148 rfl ?_
              refine j_dup h dX10_advance_149 rfl ?_
              refine gC10_36 h dX10_advance_150 ?_
              refine j_iconst (v := (1 : Int32)) h dX10_advance_153 kiconst_1 ?_
              refine j_iadd h dX10_advance_154 ?_
              refine pC10_36 h dX10_advance_155 (fun m17 hm17 => ?_)
              exact j_vret h rfl dX10_advance_158
          · refine j_aload_n h dX10_advance_108 rfl ?_
            refine j_callVV (q0 := 1) (ci := 10) h [] (kX10_readNumber _ G h.2.2.2.2.2.2.2.2.2.2 m2) okX10_readNumber inX10_readNumber ml10_58 rfl rfl rfl rfl (by decide) (by decide) (Nat.le_of_ble_eq_true rfl) rfl dX10_advance_109 (fun m19 hm19 => ?_)
            refine j_goto (tgt := 158) h dX10_advance_112 (by decide) ?_
            exact j_vret h rfl dX10_advance_158
        · refine j_aload_n h dX10_advance_90 rfl ?_
          refine j_callVV (q0 := 1) (ci := 10) h [] (kX10_readWord _ G h.2.2.2.2.2.2.2.2.2.2 m2) okX10_readWord inX10_readWord ml10_52 rfl rfl rfl rfl (by decide) (by decide) (Nat.le_of_ble_eq_true rfl) rfl dX10_advance_91 (fun m21 hm21 => ?_)
          refine j_goto (tgt := 158) h dX10_advance_94 (by decide) ?_
          exact j_vret h rfl dX10_advance_158
      · refine j_aload_n h dX10_advance_71 rfl ?_
        refine j_iconst (v := (1 : Int32)) h dX10_advance_72 kiconst_1 ?_
        refine pC10_45 h dX10_advance_73 (fun m22 hm22 => ?_)
        refine j_goto (tgt := 158) h dX10_advance_76 (by decide) ?_
        exact j_vret h rfl dX10_advance_158
    · refine j_aload_n h dX10_advance_11 rfl ?_
      refine gC10_9 h dX10_advance_12 ?_
      refine j_aload_n h dX10_advance_15 rfl ?_
      refine gC10_36 h dX10_advance_16 ?_
      refine aC_2 h dX10_advance_19 (fun v23 hv23 => ?_)
      refine j_bipush (v := (32 : Int32)) h dX10_advance_20 kbipush_32 ?_
      refine j_icmp_eq (tgt := 39) h dX10_advance_22 (by decide) (fun c24 => ?_) (fun c24 => ?_)
      · refine j_aload_n h dX10_advance_39 rfl ?_
        refine j_dup h dX10_advance_40 rfl ?_
        refine gC10_36 h dX10_advance_41 ?_
        refine j_iconst (v := (1 : Int32)) h dX10_advance_44 kiconst_1 ?_
        refine j_iadd h dX10_advance_45 ?_
        refine pC10_36 h dX10_advance_46 (fun m25 hm25 => ?_)
        refine j_goto (tgt := 0) h dX10_advance_49 (by decide) ?_
        refine j_wk (ls' := [some (.ref (G.2.2 1)), none]) (And.intro rfl trivial) ?_
        exact ih m25
      · refine j_aload_n h dX10_advance_25 rfl ?_
        refine gC10_9 h dX10_advance_26 ?_
        refine j_aload_n h dX10_advance_29 rfl ?_
        refine gC10_36 h dX10_advance_30 ?_
        refine aC_2 h dX10_advance_33 (fun v26 hv26 => ?_)
        refine j_bipush (v := (10 : Int32)) h dX10_advance_34 kbipush_10 ?_
        refine j_icmp_ne (tgt := 52) h dX10_advance_36 (by decide) (fun c27 => ?_) (fun c27 => ?_)
        · refine j_aload_n h dX10_advance_52 rfl ?_
          refine j_aload_n h dX10_advance_53 rfl ?_
          refine gC10_36 h dX10_advance_54 ?_
          refine pC10_42 h dX10_advance_57 (fun m28 hm28 => ?_)
          refine j_aload_n h dX10_advance_60 rfl ?_
          refine gC10_36 h dX10_advance_61 ?_
          refine j_aload_n h dX10_advance_64 rfl ?_
          refine gC10_33 h dX10_advance_65 ?_
          refine j_icmp_lt (tgt := 79) h dX10_advance_68 (by decide) (fun c29 => ?_) (fun c29 => ?_)
          · refine j_aload_n h dX10_advance_79 rfl ?_
            refine j_aload_n h dX10_advance_80 rfl ?_
            refine gC10_36 h dX10_advance_81 ?_
            refine j_callVP (q0 := 1) (ci := 10) h [.int (m28.1 1 3)] (kX10_isLetterAt _ G h.2.2.2.2.2.2.2.2.2.2 m28 (m28.1 1 3)) okX10_isLetterAt inX10_isLetterAt ml10_48 rfl rfl rfl rfl (by decide) (by decide) (Nat.le_of_ble_eq_true rfl) rfl dX10_advance_84 (fun r30 hr30 => ?_)
            refine j_if_eq (tgt := 97) h dX10_advance_87 (by decide) (fun c32 => ?_) (fun c32 => ?_)
            · refine j_aload_n h dX10_advance_97 rfl ?_
              refine j_aload_n h dX10_advance_98 rfl ?_
              refine gC10_36 h dX10_advance_99 ?_
              refine j_callVP (q0 := 1) (ci := 10) h [.int (m28.1 1 3)] (kX10_isDigitAt _ G h.2.2.2.2.2.2.2.2.2.2 m28 (m28.1 1 3)) okX10_isDigitAt inX10_isDigitAt ml10_55 rfl rfl rfl rfl (by decide) (by decide) (Nat.le_of_ble_eq_true rfl) rfl dX10_advance_102 (fun r33 hr33 => ?_)
              refine j_if_eq (tgt := 115) h dX10_advance_105 (by decide) (fun c35 => ?_) (fun c35 => ?_)
              · refine j_aload_n h dX10_advance_115 rfl ?_
                refine gC10_9 h dX10_advance_116 ?_
                refine j_aload_n h dX10_advance_119 rfl ?_
                refine gC10_36 h dX10_advance_120 ?_
                refine aC_2 h dX10_advance_123 (fun v36 hv36 => ?_)
                refine j_sipush (v := (255 : Int32)) h dX10_advance_124 ksipush_255 ?_
                refine j_iand h dX10_advance_127 ?_
                refine j_nm (fun v37 hv37 => ?_)
                refine j_istore_n h dX10_advance_128 rfl rfl ?_
                refine j_aload_n h dX10_advance_129 rfl ?_
                refine j_ldcS61 h dX10_advance_130 ?_
                refine j_iload_n h dX10_advance_132 rfl ?_
                refine j_i2c h dX10_advance_133 ?_
                refine j_signs h ml10_63 (Nat.le_of_ble_eq_true rfl) rfl (by decide) dX10_advance_134 (fun r38 hr38 => ?_)
                refine j_if_lt (tgt := 144) h dX10_advance_137 (by decide) (fun c39 => ?_) (fun c39 => ?_)
                · refine j_iconst (v := (0 : Int32)) h dX10_advance_144 kiconst_0 ?_
                  refine pC10_45 h dX10_advance_145 (fun m40 hm40 => ?_)
                  refine j_aload_n h dX10_advance_148 rfl ?_
                  refine j_dup h dX10_advance_149 rfl ?_
                  refine gC10_36 h dX10_advance_150 ?_
                  refine j_iconst (v := (1 : Int32)) h dX10_advance_153 kiconst_1 ?_
                  refine j_iadd h dX10_advance_154 ?_
                  refine pC10_36 h dX10_advance_155 (fun m41 hm41 => ?_)
                  exact j_vret h rfl dX10_advance_158
                · refine j_iload_n h dX10_advance_140 rfl ?_
                  refine j_goto (tgt := 145) h dX10_advance_141 (by decide) ?_
                  refine pC10_45 h dX10_advance_145 (fun m42 hm42 => ?_)
                  refine j_aload_n h dX10_advance_148 rfl ?_
                  refine j_dup h dX10_advance_149 rfl ?_
                  refine gC10_36 h dX10_advance_150 ?_
                  refine j_iconst (v := (1 : Int32)) h dX10_advance_153 kiconst_1 ?_
                  refine j_iadd h dX10_advance_154 ?_
                  refine pC10_36 h dX10_advance_155 (fun m43 hm43 => ?_)
                  exact j_vret h rfl dX10_advance_158
              · refine j_aload_n h dX10_advance_108 rfl ?_
                refine j_callVV (q0 := 1) (ci := 10) h [] (kX10_readNumber _ G h.2.2.2.2.2.2.2.2.2.2 m28) okX10_readNumber inX10_readNumber ml10_58 rfl rfl rfl rfl (by decide) (by decide) (Nat.le_of_ble_eq_true rfl) rfl dX10_advance_109 (fun m45 hm45 => ?_)
                refine j_goto (tgt := 158) h dX10_advance_112 (by decide) ?_
                exact j_vret h rfl dX10_advance_158
            · refine j_aload_n h dX10_advance_90 rfl ?_
              refine j_callVV (q0 := 1) (ci := 10) h [] (kX10_readWord _ G h.2.2.2.2.2.2.2.2.2.2 m28) okX10_readWord inX10_readWord ml10_52 rfl rfl rfl rfl (by decide) (by decide) (Nat.le_of_ble_eq_true rfl) rfl dX10_advance_91 (fun m47 hm47 => ?_)
              refine j_goto (tgt := 158) h dX10_advance_94 (by decide) ?_
              exact j_vret h rfl dX10_advance_158
          · refine j_aload_n h dX10_advance_71 rfl ?_
            refine j_iconst (v := (1 : Int32)) h dX10_advance_72 kiconst_1 ?_
            refine pC10_45 h dX10_advance_73 (fun m48 hm48 => ?_)
            refine j_goto (tgt := 158) h dX10_advance_76 (by decide) ?_
            exact j_vret h rfl dX10_advance_158
        · refine j_aload_n h dX10_advance_39 rfl ?_
          refine j_dup h dX10_advance_40 rfl ?_
          refine gC10_36 h dX10_advance_41 ?_
          refine j_iconst (v := (1 : Int32)) h dX10_advance_44 kiconst_1 ?_
          refine j_iadd h dX10_advance_45 ?_
          refine pC10_36 h dX10_advance_46 (fun m49 hm49 => ?_)
          refine j_goto (tgt := 0) h dX10_advance_49 (by decide) ?_
          refine j_wk (ls' := [some (.ref (G.2.2 1)), none]) (And.intro rfl trivial) ?_
          exact ih m49
set_option maxHeartbeats 4000000 in
set_option maxRecDepth 100000 in
theorem kX10_advance (l : Launch) (G : Gt) (hD : ∀ m, va_D (inA G nC) (wC G m)) (m : Mem) : ∀ a, fX10_advance m = some a → Ct l G wC nC yX10_advance cX10_advance 2 none 4 [.ref (G.2.2 1)] m (cvV a) := by
  refine ct_of (own := RX10) (ls0 := [some (.ref (G.2.2 1)), none]) (by decide) rfl rfl rfl (Nat.le_of_ble_eq_true rfl) hD (fun X h => ?_) l
  unfold fX10_advance
  refine j_wk (ls' := [some (.ref (G.2.2 1)), none]) (And.intro rfl trivial) ?_
  exact (wX10_advance h 5000) m
theorem dX7_refuse_0 : DD cX7_refuse 0 (.aload_n 0) 1 1 := ⟨by decide +kernel, rfl⟩
theorem dX7_refuse_1 : DD cX7_refuse 1 (.aload_n 0) 1 2 := ⟨by decide +kernel, rfl⟩
theorem dX7_refuse_2 : DD cX7_refuse 2 (.getfield 29) 3 5 := ⟨by decide +kernel, rfl⟩
theorem dX7_refuse_5 : DD cX7_refuse 5 (.getfield 44) 3 8 := ⟨by decide +kernel, rfl⟩
theorem dX7_refuse_8 : DD cX7_refuse 8 (.ifCond .ne 7) 3 11 := ⟨by decide +kernel, rfl⟩
theorem dX7_refuse_11 : DD cX7_refuse 11 (.iconst 1) 1 12 := ⟨by decide +kernel, rfl⟩
theorem dX7_refuse_12 : DD cX7_refuse 12 (.goto 4) 3 15 := ⟨by decide +kernel, rfl⟩
theorem dX7_refuse_15 : DD cX7_refuse 15 (.iload_n 1) 1 16 := ⟨by decide +kernel, rfl⟩
theorem dX7_refuse_16 : DD cX7_refuse 16 (.putfield 33) 3 19 := ⟨by decide +kernel, rfl⟩
theorem dX7_refuse_19 : DD cX7_refuse 19 (.aload_n 0) 1 20 := ⟨by decide +kernel, rfl⟩
theorem dX7_refuse_20 : DD cX7_refuse 20 (.aload_n 0) 1 21 := ⟨by decide +kernel, rfl⟩
theorem dX7_refuse_21 : DD cX7_refuse 21 (.getfield 29) 3 24 := ⟨by decide +kernel, rfl⟩
theorem dX7_refuse_24 : DD cX7_refuse 24 (.getfield 211) 3 27 := ⟨by decide +kernel, rfl⟩
theorem dX7_refuse_27 : DD cX7_refuse 27 (.putfield 25) 3 30 := ⟨by decide +kernel, rfl⟩
theorem dX7_refuse_30 : DD cX7_refuse 30 (.iconst 0) 1 31 := ⟨by decide +kernel, rfl⟩
theorem dX7_refuse_31 : DD cX7_refuse 31 (.ireturn) 1 32 := ⟨by decide +kernel, rfl⟩
def fX7_refuse (m : Mem) (x1 : Int32) : Option (Int32 × Mem) := (if (m.1 1 4) = 0 then (pt (sI m 4 4 (1 : Int32)) fun m4 => (pt (sI m4 4 5 (m4.1 1 5)) fun m5 => (some ((0 : Int32), m5)))) else (pt (sI m 4 4 x1) fun m2 => (pt (sI m2 4 5 (m2.1 1 5)) fun m3 => (some ((0 : Int32), m3)))))
set_option maxHeartbeats 4000000 in
set_option maxRecDepth 100000 in
theorem kX7_refuse (l : Launch) (G : Gt) (hD : ∀ m, va_D (inA G nC) (wC G m)) (m : Mem) (x1 : Int32) : ∀ a, fX7_refuse m x1 = some a → Ct l G wC nC yX7_refuse cX7_refuse 2 (some .boolean) 1 [.ref (G.2.2 4), .int x1] m (cvI a) := by
  refine ct_of (own := RX7) (ls0 := [some (.ref (G.2.2 4)), some (.int x1)]) (by decide) rfl rfl rfl (Nat.le_of_ble_eq_true rfl) hD (fun X h => ?_) l
  unfold fX7_refuse
  refine j_aload_n h dX7_refuse_0 rfl ?_
  refine j_aload_n h dX7_refuse_1 rfl ?_
  refine gC7_29 h dX7_refuse_2 ?_
  refine gC7_44 h dX7_refuse_5 ?_
  refine j_if_ne (tgt := 15) h dX7_refuse_8 (by decide) (fun c1 => ?_) (fun c1 => ?_)
  · refine j_iload_n h dX7_refuse_15 rfl ?_
    refine pC7_33 h dX7_refuse_16 (fun m2 hm2 => ?_)
    refine j_aload_n h dX7_refuse_19 rfl ?_
    refine j_aload_n h dX7_refuse_20 rfl ?_
    refine gC7_29 h dX7_refuse_21 ?_
    refine gC7_211 h dX7_refuse_24 ?_
    refine pC7_25 h dX7_refuse_27 (fun m3 hm3 => ?_)
    refine j_iconst (v := (0 : Int32)) h dX7_refuse_30 kiconst_0 ?_
    exact j_zretB h rfl rfl dX7_refuse_31
  · refine j_iconst (v := (1 : Int32)) h dX7_refuse_11 kiconst_1 ?_
    refine j_goto (tgt := 16) h dX7_refuse_12 (by decide) ?_
    refine pC7_33 h dX7_refuse_16 (fun m4 hm4 => ?_)
    refine j_aload_n h dX7_refuse_19 rfl ?_
    refine j_aload_n h dX7_refuse_20 rfl ?_
    refine gC7_29 h dX7_refuse_21 ?_
    refine gC7_211 h dX7_refuse_24 ?_
    refine pC7_25 h dX7_refuse_27 (fun m5 hm5 => ?_)
    refine j_iconst (v := (0 : Int32)) h dX7_refuse_30 kiconst_0 ?_
    exact j_zretB h rfl rfl dX7_refuse_31
theorem dX7_pass_0 : DD cX7_pass 0 (.aload_n 0) 1 1 := ⟨by decide +kernel, rfl⟩
theorem dX7_pass_1 : DD cX7_pass 1 (.getfield 29) 3 4 := ⟨by decide +kernel, rfl⟩
theorem dX7_pass_4 : DD cX7_pass 4 (.getfield 44) 3 7 := ⟨by decide +kernel, rfl⟩
theorem dX7_pass_7 : DD cX7_pass 7 (.iload_n 1) 1 8 := ⟨by decide +kernel, rfl⟩
theorem dX7_pass_8 : DD cX7_pass 8 (.if_icmp .eq 9) 3 11 := ⟨by decide +kernel, rfl⟩
theorem dX7_pass_11 : DD cX7_pass 11 (.aload_n 0) 1 12 := ⟨by decide +kernel, rfl⟩
theorem dX7_pass_12 : DD cX7_pass 12 (.iconst 2) 1 13 := ⟨by decide +kernel, rfl⟩
theorem dX7_pass_13 : DD cX7_pass 13 (.invokevirtual 73) 3 16 := ⟨by decide +kernel, rfl⟩
theorem dX7_pass_16 : DD cX7_pass 16 (.ireturn) 1 17 := ⟨by decide +kernel, rfl⟩
theorem dX7_pass_17 : DD cX7_pass 17 (.aload_n 0) 1 18 := ⟨by decide +kernel, rfl⟩
theorem dX7_pass_18 : DD cX7_pass 18 (.getfield 29) 3 21 := ⟨by decide +kernel, rfl⟩
theorem dX7_pass_21 : DD cX7_pass 21 (.invokevirtual 80) 3 24 := ⟨by decide +kernel, rfl⟩
theorem dX7_pass_24 : DD cX7_pass 24 (.iconst 1) 1 25 := ⟨by decide +kernel, rfl⟩
theorem dX7_pass_25 : DD cX7_pass 25 (.ireturn) 1 26 := ⟨by decide +kernel, rfl⟩
def fX7_pass (m : Mem) (x1 : Int32) : Option (Int32 × Mem) := (if (m.1 1 4) = x1 then (cV (fX10_advance m) fun m3 => (some ((1 : Int32), m3))) else (cI (fX7_refuse m (2 : Int32)) fun r4 m5 => (tz r4 (some (r4, m5)))))
set_option maxHeartbeats 4000000 in
set_option maxRecDepth 100000 in
theorem kX7_pass (l : Launch) (G : Gt) (hD : ∀ m, va_D (inA G nC) (wC G m)) (m : Mem) (x1 : Int32) : ∀ a, fX7_pass m x1 = some a → Ct l G wC nC yX7_pass cX7_pass 2 (some .boolean) 5 [.ref (G.2.2 4), .int x1] m (cvI a) := by
  refine ct_of (own := RX7) (ls0 := [some (.ref (G.2.2 4)), some (.int x1)]) (by decide) rfl rfl rfl (Nat.le_of_ble_eq_true rfl) hD (fun X h => ?_) l
  unfold fX7_pass
  refine j_aload_n h dX7_pass_0 rfl ?_
  refine gC7_29 h dX7_pass_1 ?_
  refine gC7_44 h dX7_pass_4 ?_
  refine j_iload_n h dX7_pass_7 rfl ?_
  refine j_icmp_eq (tgt := 17) h dX7_pass_8 (by decide) (fun c1 => ?_) (fun c1 => ?_)
  · refine j_aload_n h dX7_pass_17 rfl ?_
    refine gC7_29 h dX7_pass_18 ?_
    refine j_callVV (q0 := 1) (ci := 10) h [] (kX10_advance _ G h.2.2.2.2.2.2.2.2.2.2 m) okX10_advance inX10_advance ml7_80 rfl rfl rfl rfl (by decide) (by decide) (Nat.le_of_ble_eq_true rfl) rfl dX7_pass_21 (fun m3 hm3 => ?_)
    refine j_iconst (v := (1 : Int32)) h dX7_pass_24 kiconst_1 ?_
    exact j_zretB h rfl rfl dX7_pass_25
  · refine j_aload_n h dX7_pass_11 rfl ?_
    refine j_iconst (v := (2 : Int32)) h dX7_pass_12 kiconst_2 ?_
    refine j_callVI (q0 := 4) (ci := 7) h [.int (2 : Int32)] (kX7_refuse _ G h.2.2.2.2.2.2.2.2.2.2 m (2 : Int32)) okX7_refuse inX7_refuse ml7_73 rfl rfl rfl rfl (by decide) (by decide) (Nat.le_of_ble_eq_true rfl) rfl dX7_pass_13 (fun r4 m5 hr4 => ?_)
    exact j_zret h rfl dX7_pass_16
theorem dX3_put_0 : DD cX3_put 0 (.aload_n 0) 1 1 := ⟨by decide +kernel, rfl⟩
theorem dX3_put_1 : DD cX3_put 1 (.getfield 16) 3 4 := ⟨by decide +kernel, rfl⟩
theorem dX3_put_4 : DD cX3_put 4 (.aload_n 0) 1 5 := ⟨by decide +kernel, rfl⟩
theorem dX3_put_5 : DD cX3_put 5 (.getfield 9) 3 8 := ⟨by decide +kernel, rfl⟩
theorem dX3_put_8 : DD cX3_put 8 (.arraylength) 1 9 := ⟨by decide +kernel, rfl⟩
theorem dX3_put_9 : DD cX3_put 9 (.if_icmp .ge 23) 3 12 := ⟨by decide +kernel, rfl⟩
theorem dX3_put_12 : DD cX3_put 12 (.aload_n 0) 1 13 := ⟨by decide +kernel, rfl⟩
theorem dX3_put_13 : DD cX3_put 13 (.getfield 9) 3 16 := ⟨by decide +kernel, rfl⟩
theorem dX3_put_16 : DD cX3_put 16 (.aload_n 0) 1 17 := ⟨by decide +kernel, rfl⟩
theorem dX3_put_17 : DD cX3_put 17 (.getfield 16) 3 20 := ⟨by decide +kernel, rfl⟩
theorem dX3_put_20 : DD cX3_put 20 (.iload_n 1) 1 21 := ⟨by decide +kernel, rfl⟩
theorem dX3_put_21 : DD cX3_put 21 (.iastore) 1 22 := ⟨by decide +kernel, rfl⟩
theorem dX3_put_22 : DD cX3_put 22 (.aload_n 0) 1 23 := ⟨by decide +kernel, rfl⟩
theorem dX3_put_23 : DD cX3_put 23 (.dup) 1 24 := ⟨by decide +kernel, rfl⟩
theorem dX3_put_24 : DD cX3_put 24 (.getfield 16) 3 27 := ⟨by decide +kernel, rfl⟩
theorem dX3_put_27 : DD cX3_put 27 (.iconst 1) 1 28 := ⟨by decide +kernel, rfl⟩
theorem dX3_put_28 : DD cX3_put 28 (.iadd) 1 29 := ⟨by decide +kernel, rfl⟩
theorem dX3_put_29 : DD cX3_put 29 (.putfield 16) 3 32 := ⟨by decide +kernel, rfl⟩
theorem dX3_put_32 : DD cX3_put 32 (.return_) 1 33 := ⟨by decide +kernel, rfl⟩
def fX3_put (m : Mem) (x0 : Nat) (x1 : Int32) : Option Mem := (gFm x0 (if (120 : Int32) ≤ (m.1 x0 2) then (some m) else (wr m (x0 + 1) 120 (m.1 x0 2) x1 fun m3 => (pt (sI m3 x0 2 ((m3.1 x0 2) + (1 : Int32))) fun m4 => (some m4)))))
set_option maxHeartbeats 4000000 in
set_option maxRecDepth 100000 in
theorem kX3_put (l : Launch) (G : Gt) (hD : ∀ m, va_D (inA G nC) (wC G m)) (m : Mem) (x0 : Nat) (x1 : Int32) : ∀ a, fX3_put m x0 x1 = some a → Ct l G wC nC yX3_put cX3_put 2 none 1 [.ref (G.2.2 x0), .int x1] m (cvV a) := by
  refine ct_of (own := RX3) (ls0 := [some (.ref (G.2.2 x0)), some (.int x1)]) (by decide) rfl rfl rfl (Nat.le_of_ble_eq_true rfl) hD (fun X h => ?_) l
  unfold fX3_put
  refine j_aload_n h dX3_put_0 rfl ?_
  refine j_gFm (fun hg1 => ?_)
  refine gC3_16 h hg1 dX3_put_1 ?_
  refine j_aload_n h dX3_put_4 rfl ?_
  refine gC3_9 h hg1 dX3_put_5 ?_
  refine j_alen (q0 := (x0 + 1)) (v := (120 : Int32)) h (at_Fm1 hg1) rfl dX3_put_8 ?_
  refine j_icmp_ge (tgt := 32) h dX3_put_9 (by decide) (fun c2 => ?_) (fun c2 => ?_)
  · exact j_vret h rfl dX3_put_32
  · refine j_aload_n h dX3_put_12 rfl ?_
    refine gC3_9 h hg1 dX3_put_13 ?_
    refine j_aload_n h dX3_put_16 rfl ?_
    refine gC3_16 h hg1 dX3_put_17 ?_
    refine j_iload_n h dX3_put_20 rfl ?_
    refine bC_Fm1 h hg1 dX3_put_21 (fun m3 hm3 => ?_)
    refine j_aload_n h dX3_put_22 rfl ?_
    refine j_dup h dX3_put_23 rfl ?_
    refine gC3_16 h hg1 dX3_put_24 ?_
    refine j_iconst (v := (1 : Int32)) h dX3_put_27 kiconst_1 ?_
    refine j_iadd h dX3_put_28 ?_
    refine pC3_16 h hg1 dX3_put_29 (fun m4 hm4 => ?_)
    exact j_vret h rfl dX3_put_32
theorem dX7_givenHere_0 : DD cX7_givenHere 0 (.aload_n 0) 1 1 := ⟨by decide +kernel, rfl⟩
theorem dX7_givenHere_1 : DD cX7_givenHere 1 (.getfield 29) 3 4 := ⟨by decide +kernel, rfl⟩
theorem dX7_givenHere_4 : DD cX7_givenHere 4 (.getfield 44) 3 7 := ⟨by decide +kernel, rfl⟩
theorem dX7_givenHere_7 : DD cX7_givenHere 7 (.tableswitch 60 135 143 #[49, 60, 60, 60, 60, 60, 54, 51, 57]) 49 56 := ⟨by decide +kernel, rfl⟩
theorem dX7_givenHere_56 : DD cX7_givenHere 56 (.iconst (-1)) 1 57 := ⟨by decide +kernel, rfl⟩
theorem dX7_givenHere_57 : DD cX7_givenHere 57 (.ireturn) 1 58 := ⟨by decide +kernel, rfl⟩
theorem dX7_givenHere_58 : DD cX7_givenHere 58 (.bipush (-2)) 2 60 := ⟨by decide +kernel, rfl⟩
theorem dX7_givenHere_60 : DD cX7_givenHere 60 (.ireturn) 1 61 := ⟨by decide +kernel, rfl⟩
theorem dX7_givenHere_61 : DD cX7_givenHere 61 (.bipush (-3)) 2 63 := ⟨by decide +kernel, rfl⟩
theorem dX7_givenHere_63 : DD cX7_givenHere 63 (.ireturn) 1 64 := ⟨by decide +kernel, rfl⟩
theorem dX7_givenHere_64 : DD cX7_givenHere 64 (.bipush (-4)) 2 66 := ⟨by decide +kernel, rfl⟩
theorem dX7_givenHere_66 : DD cX7_givenHere 66 (.ireturn) 1 67 := ⟨by decide +kernel, rfl⟩
theorem dX7_givenHere_67 : DD cX7_givenHere 67 (.iconst 0) 1 68 := ⟨by decide +kernel, rfl⟩
theorem dX7_givenHere_68 : DD cX7_givenHere 68 (.ireturn) 1 69 := ⟨by decide +kernel, rfl⟩
def fX7_givenHere (m : Mem) : Option Int32 := (if (m.1 1 4) = (135 : Int32) then (some (-1 : Int32)) else (if (m.1 1 4) = (141 : Int32) then (some (-3 : Int32)) else (if (m.1 1 4) = (142 : Int32) then (some (-2 : Int32)) else (if (m.1 1 4) = (143 : Int32) then (some (-4 : Int32)) else (some (0 : Int32))))))
set_option maxHeartbeats 4000000 in
set_option maxRecDepth 100000 in
theorem kX7_givenHere (l : Launch) (G : Gt) (hD : ∀ m, va_D (inA G nC) (wC G m)) (m : Mem) : ∀ a, fX7_givenHere m = some a → Ct l G wC nC yX7_givenHere cX7_givenHere 1 (some .int) 1 [.ref (G.2.2 4)] m ((cvP m) a) := by
  refine ct_of (own := RX7) (ls0 := [some (.ref (G.2.2 4))]) (by decide) rfl rfl rfl (Nat.le_of_ble_eq_true rfl) hD (fun X h => ?_) l
  unfold fX7_givenHere
  refine j_aload_n h dX7_givenHere_0 rfl ?_
  refine gC7_29 h dX7_givenHere_1 ?_
  refine gC7_44 h dX7_givenHere_4 ?_
  by_cases c1 : (m.1 1 4) = (135 : Int32)
  · rw [if_pos c1]
    refine j_tabIn (off := 49) (tgt := 56) h c1 dX7_givenHere_7 (by decide) (by decide) (by decide) (by decide) ?_
    refine j_iconst (v := (-1 : Int32)) h dX7_givenHere_56 kiconst_m1 ?_
    exact j_iret h rfl dX7_givenHere_57
  · rw [if_neg c1]
    by_cases c2 : (m.1 1 4) = (141 : Int32)
    · rw [if_pos c2]
      refine j_tabIn (off := 54) (tgt := 61) h c2 dX7_givenHere_7 (by decide) (by decide) (by decide) (by decide) ?_
      refine j_bipush (v := (-3 : Int32)) h dX7_givenHere_61 kbipush_m3 ?_
      exact j_iret h rfl dX7_givenHere_63
    · rw [if_neg c2]
      by_cases c3 : (m.1 1 4) = (142 : Int32)
      · rw [if_pos c3]
        refine j_tabIn (off := 51) (tgt := 58) h c3 dX7_givenHere_7 (by decide) (by decide) (by decide) (by decide) ?_
        refine j_bipush (v := (-2 : Int32)) h dX7_givenHere_58 kbipush_m2 ?_
        exact j_iret h rfl dX7_givenHere_60
      · rw [if_neg c3]
        by_cases c4 : (m.1 1 4) = (143 : Int32)
        · rw [if_pos c4]
          refine j_tabIn (off := 57) (tgt := 64) h c4 dX7_givenHere_7 (by decide) (by decide) (by decide) (by decide) ?_
          refine j_bipush (v := (-4 : Int32)) h dX7_givenHere_64 kbipush_m4 ?_
          exact j_iret h rfl dX7_givenHere_66
        · rw [if_neg c4]
          refine j_key (pc' := 67) (st' := []) ?_ (fun key => ?_)
          · refine j_iconst (v := (0 : Int32)) h dX7_givenHere_67 kiconst_0 ?_
            exact j_iret h rfl dX7_givenHere_68
          · by_cases cd0 : (m.1 1 4) = (136 : Int32)
            · exact j_tabIn (off := 60) (tgt := 67) h cd0 dX7_givenHere_7 (by decide) (by decide) (by decide) (by decide) key
            · by_cases cd1 : (m.1 1 4) = (137 : Int32)
              · exact j_tabIn (off := 60) (tgt := 67) h cd1 dX7_givenHere_7 (by decide) (by decide) (by decide) (by decide) key
              · by_cases cd2 : (m.1 1 4) = (138 : Int32)
                · exact j_tabIn (off := 60) (tgt := 67) h cd2 dX7_givenHere_7 (by decide) (by decide) (by decide) (by decide) key
                · by_cases cd3 : (m.1 1 4) = (139 : Int32)
                  · exact j_tabIn (off := 60) (tgt := 67) h cd3 dX7_givenHere_7 (by decide) (by decide) (by decide) (by decide) key
                  · by_cases cd4 : (m.1 1 4) = (140 : Int32)
                    · exact j_tabIn (off := 60) (tgt := 67) h cd4 dX7_givenHere_7 (by decide) (by decide) (by decide) (by decide) key
                    · exact j_tabOut (tgt := 67) h [(135 : Int32), (136 : Int32), (137 : Int32), (138 : Int32), (139 : Int32), (140 : Int32), (141 : Int32), (142 : Int32), (143 : Int32)] dX7_givenHere_7 (by intro v hv; simp only [List.mem_cons, List.not_mem_nil, or_false] at hv; rcases hv with rfl | rfl | rfl | rfl | rfl | rfl | rfl | rfl | rfl <;> assumption) (by decide) (by decide) (by decide) key
theorem dX7_factorHere_0 : DD cX7_factorHere 0 (.aload_n 0) 1 1 := ⟨by decide +kernel, rfl⟩
theorem dX7_factorHere_1 : DD cX7_factorHere 1 (.getfield 29) 3 4 := ⟨by decide +kernel, rfl⟩
theorem dX7_factorHere_4 : DD cX7_factorHere 4 (.getfield 44) 3 7 := ⟨by decide +kernel, rfl⟩
theorem dX7_factorHere_7 : DD cX7_factorHere 7 (.lookupswitch 42 #[(37, 39), (42, 33), (47, 36)]) 33 40 := ⟨by decide +kernel, rfl⟩
theorem dX7_factorHere_40 : DD cX7_factorHere 40 (.bipush (-13)) 2 42 := ⟨by decide +kernel, rfl⟩
theorem dX7_factorHere_42 : DD cX7_factorHere 42 (.ireturn) 1 43 := ⟨by decide +kernel, rfl⟩
theorem dX7_factorHere_43 : DD cX7_factorHere 43 (.bipush (-14)) 2 45 := ⟨by decide +kernel, rfl⟩
theorem dX7_factorHere_45 : DD cX7_factorHere 45 (.ireturn) 1 46 := ⟨by decide +kernel, rfl⟩
theorem dX7_factorHere_46 : DD cX7_factorHere 46 (.bipush (-15)) 2 48 := ⟨by decide +kernel, rfl⟩
theorem dX7_factorHere_48 : DD cX7_factorHere 48 (.ireturn) 1 49 := ⟨by decide +kernel, rfl⟩
theorem dX7_factorHere_49 : DD cX7_factorHere 49 (.iconst 0) 1 50 := ⟨by decide +kernel, rfl⟩
theorem dX7_factorHere_50 : DD cX7_factorHere 50 (.ireturn) 1 51 := ⟨by decide +kernel, rfl⟩
def fX7_factorHere (m : Mem) : Option Int32 := (if (m.1 1 4) = (37 : Int32) then (some (-15 : Int32)) else (if (m.1 1 4) = (42 : Int32) then (some (-13 : Int32)) else (if (m.1 1 4) = (47 : Int32) then (some (-14 : Int32)) else (some (0 : Int32)))))
set_option maxHeartbeats 4000000 in
set_option maxRecDepth 100000 in
theorem kX7_factorHere (l : Launch) (G : Gt) (hD : ∀ m, va_D (inA G nC) (wC G m)) (m : Mem) : ∀ a, fX7_factorHere m = some a → Ct l G wC nC yX7_factorHere cX7_factorHere 1 (some .int) 1 [.ref (G.2.2 4)] m ((cvP m) a) := by
  refine ct_of (own := RX7) (ls0 := [some (.ref (G.2.2 4))]) (by decide) rfl rfl rfl (Nat.le_of_ble_eq_true rfl) hD (fun X h => ?_) l
  unfold fX7_factorHere
  refine j_aload_n h dX7_factorHere_0 rfl ?_
  refine gC7_29 h dX7_factorHere_1 ?_
  refine gC7_44 h dX7_factorHere_4 ?_
  by_cases c1 : (m.1 1 4) = (37 : Int32)
  · rw [if_pos c1]
    refine j_lookup (off := 39) (tgt := 46) h dX7_factorHere_7 (by decide) (by rw [c1]; decide) (by decide) ?_
    refine j_bipush (v := (-15 : Int32)) h dX7_factorHere_46 kbipush_m15 ?_
    exact j_iret h rfl dX7_factorHere_48
  · rw [if_neg c1]
    by_cases c2 : (m.1 1 4) = (42 : Int32)
    · rw [if_pos c2]
      refine j_lookup (off := 33) (tgt := 40) h dX7_factorHere_7 (by decide) (by rw [c2]; decide) (by decide) ?_
      refine j_bipush (v := (-13 : Int32)) h dX7_factorHere_40 kbipush_m13 ?_
      exact j_iret h rfl dX7_factorHere_42
    · rw [if_neg c2]
      by_cases c3 : (m.1 1 4) = (47 : Int32)
      · rw [if_pos c3]
        refine j_lookup (off := 36) (tgt := 43) h dX7_factorHere_7 (by decide) (by rw [c3]; decide) (by decide) ?_
        refine j_bipush (v := (-14 : Int32)) h dX7_factorHere_43 kbipush_m14 ?_
        exact j_iret h rfl dX7_factorHere_45
      · rw [if_neg c3]
        refine j_lookup (off := 42) (tgt := 49) h dX7_factorHere_7 (by decide) (by simp only []; rw [lv_osw (a := 37) c1 rfl, lv_osw (a := 42) c2 rfl, lv_osw (a := 47) c3 rfl]; rfl) (by decide) ?_
        refine j_iconst (v := (0 : Int32)) h dX7_factorHere_49 kiconst_0 ?_
        exact j_iret h rfl dX7_factorHere_50
theorem dX7_relationHere_0 : DD cX7_relationHere 0 (.aload_n 0) 1 1 := ⟨by decide +kernel, rfl⟩
theorem dX7_relationHere_1 : DD cX7_relationHere 1 (.getfield 29) 3 4 := ⟨by decide +kernel, rfl⟩
theorem dX7_relationHere_4 : DD cX7_relationHere 4 (.getfield 44) 3 7 := ⟨by decide +kernel, rfl⟩
theorem dX7_relationHere_7 : DD cX7_relationHere 7 (.tableswitch 34 60 62 #[25, 31, 28]) 25 32 := ⟨by decide +kernel, rfl⟩
theorem dX7_relationHere_32 : DD cX7_relationHere 32 (.bipush (-8)) 2 34 := ⟨by decide +kernel, rfl⟩
theorem dX7_relationHere_34 : DD cX7_relationHere 34 (.ireturn) 1 35 := ⟨by decide +kernel, rfl⟩
theorem dX7_relationHere_35 : DD cX7_relationHere 35 (.bipush (-9)) 2 37 := ⟨by decide +kernel, rfl⟩
theorem dX7_relationHere_37 : DD cX7_relationHere 37 (.ireturn) 1 38 := ⟨by decide +kernel, rfl⟩
theorem dX7_relationHere_38 : DD cX7_relationHere 38 (.bipush (-10)) 2 40 := ⟨by decide +kernel, rfl⟩
theorem dX7_relationHere_40 : DD cX7_relationHere 40 (.ireturn) 1 41 := ⟨by decide +kernel, rfl⟩
theorem dX7_relationHere_41 : DD cX7_relationHere 41 (.iconst 0) 1 42 := ⟨by decide +kernel, rfl⟩
theorem dX7_relationHere_42 : DD cX7_relationHere 42 (.ireturn) 1 43 := ⟨by decide +kernel, rfl⟩
def fX7_relationHere (m : Mem) : Option Int32 := (if (m.1 1 4) = (60 : Int32) then (some (-8 : Int32)) else (if (m.1 1 4) = (61 : Int32) then (some (-10 : Int32)) else (if (m.1 1 4) = (62 : Int32) then (some (-9 : Int32)) else (some (0 : Int32)))))
set_option maxHeartbeats 4000000 in
set_option maxRecDepth 100000 in
theorem kX7_relationHere (l : Launch) (G : Gt) (hD : ∀ m, va_D (inA G nC) (wC G m)) (m : Mem) : ∀ a, fX7_relationHere m = some a → Ct l G wC nC yX7_relationHere cX7_relationHere 1 (some .int) 1 [.ref (G.2.2 4)] m ((cvP m) a) := by
  refine ct_of (own := RX7) (ls0 := [some (.ref (G.2.2 4))]) (by decide) rfl rfl rfl (Nat.le_of_ble_eq_true rfl) hD (fun X h => ?_) l
  unfold fX7_relationHere
  refine j_aload_n h dX7_relationHere_0 rfl ?_
  refine gC7_29 h dX7_relationHere_1 ?_
  refine gC7_44 h dX7_relationHere_4 ?_
  by_cases c1 : (m.1 1 4) = (60 : Int32)
  · rw [if_pos c1]
    refine j_tabIn (off := 25) (tgt := 32) h c1 dX7_relationHere_7 (by decide) (by decide) (by decide) (by decide) ?_
    refine j_bipush (v := (-8 : Int32)) h dX7_relationHere_32 kbipush_m8 ?_
    exact j_iret h rfl dX7_relationHere_34
  · rw [if_neg c1]
    by_cases c2 : (m.1 1 4) = (61 : Int32)
    · rw [if_pos c2]
      refine j_tabIn (off := 31) (tgt := 38) h c2 dX7_relationHere_7 (by decide) (by decide) (by decide) (by decide) ?_
      refine j_bipush (v := (-10 : Int32)) h dX7_relationHere_38 kbipush_m10 ?_
      exact j_iret h rfl dX7_relationHere_40
    · rw [if_neg c2]
      by_cases c3 : (m.1 1 4) = (62 : Int32)
      · rw [if_pos c3]
        refine j_tabIn (off := 28) (tgt := 35) h c3 dX7_relationHere_7 (by decide) (by decide) (by decide) (by decide) ?_
        refine j_bipush (v := (-9 : Int32)) h dX7_relationHere_35 kbipush_m9 ?_
        exact j_iret h rfl dX7_relationHere_37
      · rw [if_neg c3]
        refine j_tabOut (tgt := 41) h [(60 : Int32), (61 : Int32), (62 : Int32)] dX7_relationHere_7 (by intro v hv; simp only [List.mem_cons, List.not_mem_nil, or_false] at hv; rcases hv with rfl | rfl | rfl <;> assumption) (by decide) (by decide) (by decide) ?_
        refine j_iconst (v := (0 : Int32)) h dX7_relationHere_41 kiconst_0 ?_
        exact j_iret h rfl dX7_relationHere_42
theorem dX7_readUnit_0 : DD cX7_readUnit 0 (.aload_n 0) 1 1 := ⟨by decide +kernel, rfl⟩
theorem dX7_readUnit_1 : DD cX7_readUnit 1 (.getfield 29) 3 4 := ⟨by decide +kernel, rfl⟩
theorem dX7_readUnit_4 : DD cX7_readUnit 4 (.getfield 44) 3 7 := ⟨by decide +kernel, rfl⟩
theorem dX7_readUnit_7 : DD cX7_readUnit 7 (.bipush 40) 2 9 := ⟨by decide +kernel, rfl⟩
theorem dX7_readUnit_9 : DD cX7_readUnit 9 (.if_icmp .ne 7) 3 12 := ⟨by decide +kernel, rfl⟩
theorem dX7_readUnit_12 : DD cX7_readUnit 12 (.iconst 1) 1 13 := ⟨by decide +kernel, rfl⟩
theorem dX7_readUnit_13 : DD cX7_readUnit 13 (.goto 4) 3 16 := ⟨by decide +kernel, rfl⟩
theorem dX7_readUnit_16 : DD cX7_readUnit 16 (.iconst 0) 1 17 := ⟨by decide +kernel, rfl⟩
theorem dX7_readUnit_17 : DD cX7_readUnit 17 (.istore_n 2) 1 18 := ⟨by decide +kernel, rfl⟩
theorem dX7_readUnit_18 : DD cX7_readUnit 18 (.iload_n 2) 1 19 := ⟨by decide +kernel, rfl⟩
theorem dX7_readUnit_19 : DD cX7_readUnit 19 (.ifCond .ne 27) 3 22 := ⟨by decide +kernel, rfl⟩
theorem dX7_readUnit_22 : DD cX7_readUnit 22 (.aload_n 0) 1 23 := ⟨by decide +kernel, rfl⟩
theorem dX7_readUnit_23 : DD cX7_readUnit 23 (.getfield 29) 3 26 := ⟨by decide +kernel, rfl⟩
theorem dX7_readUnit_26 : DD cX7_readUnit 26 (.getfield 44) 3 29 := ⟨by decide +kernel, rfl⟩
theorem dX7_readUnit_29 : DD cX7_readUnit 29 (.iconst 3) 1 30 := ⟨by decide +kernel, rfl⟩
theorem dX7_readUnit_30 : DD cX7_readUnit 30 (.if_icmp .eq 16) 3 33 := ⟨by decide +kernel, rfl⟩
theorem dX7_readUnit_33 : DD cX7_readUnit 33 (.aload_n 0) 1 34 := ⟨by decide +kernel, rfl⟩
theorem dX7_readUnit_34 : DD cX7_readUnit 34 (.invokevirtual 205) 3 37 := ⟨by decide +kernel, rfl⟩
theorem dX7_readUnit_37 : DD cX7_readUnit 37 (.ifCond .ne 9) 3 40 := ⟨by decide +kernel, rfl⟩
theorem dX7_readUnit_40 : DD cX7_readUnit 40 (.aload_n 0) 1 41 := ⟨by decide +kernel, rfl⟩
theorem dX7_readUnit_41 : DD cX7_readUnit 41 (.iconst 2) 1 42 := ⟨by decide +kernel, rfl⟩
theorem dX7_readUnit_42 : DD cX7_readUnit 42 (.invokevirtual 73) 3 45 := ⟨by decide +kernel, rfl⟩
theorem dX7_readUnit_45 : DD cX7_readUnit 45 (.ireturn) 1 46 := ⟨by decide +kernel, rfl⟩
theorem dX7_readUnit_46 : DD cX7_readUnit 46 (.aload_n 0) 1 47 := ⟨by decide +kernel, rfl⟩
theorem dX7_readUnit_47 : DD cX7_readUnit 47 (.getfield 12) 3 50 := ⟨by decide +kernel, rfl⟩
theorem dX7_readUnit_50 : DD cX7_readUnit 50 (.getfield 208) 3 53 := ⟨by decide +kernel, rfl⟩
theorem dX7_readUnit_53 : DD cX7_readUnit 53 (.bipush 60) 2 55 := ⟨by decide +kernel, rfl⟩
theorem dX7_readUnit_55 : DD cX7_readUnit 55 (.if_icmp .ge 12) 3 58 := ⟨by decide +kernel, rfl⟩
theorem dX7_readUnit_58 : DD cX7_readUnit 58 (.aload_n 0) 1 59 := ⟨by decide +kernel, rfl⟩
theorem dX7_readUnit_59 : DD cX7_readUnit 59 (.getfield 171) 3 62 := ⟨by decide +kernel, rfl⟩
theorem dX7_readUnit_62 : DD cX7_readUnit 62 (.bipush 30) 2 64 := ⟨by decide +kernel, rfl⟩
theorem dX7_readUnit_64 : DD cX7_readUnit 64 (.if_icmp .lt 9) 3 67 := ⟨by decide +kernel, rfl⟩
theorem dX7_readUnit_67 : DD cX7_readUnit 67 (.aload_n 0) 1 68 := ⟨by decide +kernel, rfl⟩
theorem dX7_readUnit_68 : DD cX7_readUnit 68 (.iconst 2) 1 69 := ⟨by decide +kernel, rfl⟩
theorem dX7_readUnit_69 : DD cX7_readUnit 69 (.invokevirtual 73) 3 72 := ⟨by decide +kernel, rfl⟩
theorem dX7_readUnit_72 : DD cX7_readUnit 72 (.ireturn) 1 73 := ⟨by decide +kernel, rfl⟩
theorem dX7_readUnit_73 : DD cX7_readUnit 73 (.iload_n 2) 1 74 := ⟨by decide +kernel, rfl⟩
theorem dX7_readUnit_74 : DD cX7_readUnit 74 (.ifCond .eq 15) 3 77 := ⟨by decide +kernel, rfl⟩
theorem dX7_readUnit_77 : DD cX7_readUnit 77 (.iload_n 1) 1 78 := ⟨by decide +kernel, rfl⟩
theorem dX7_readUnit_78 : DD cX7_readUnit 78 (.bipush 6) 2 80 := ⟨by decide +kernel, rfl⟩
theorem dX7_readUnit_80 : DD cX7_readUnit 80 (.if_icmp .le 9) 3 83 := ⟨by decide +kernel, rfl⟩
theorem dX7_readUnit_83 : DD cX7_readUnit 83 (.aload_n 0) 1 84 := ⟨by decide +kernel, rfl⟩
theorem dX7_readUnit_84 : DD cX7_readUnit 84 (.iconst 2) 1 85 := ⟨by decide +kernel, rfl⟩
theorem dX7_readUnit_85 : DD cX7_readUnit 85 (.invokevirtual 73) 3 88 := ⟨by decide +kernel, rfl⟩
theorem dX7_readUnit_88 : DD cX7_readUnit 88 (.ireturn) 1 89 := ⟨by decide +kernel, rfl⟩
theorem dX7_readUnit_89 : DD cX7_readUnit 89 (.aload_n 0) 1 90 := ⟨by decide +kernel, rfl⟩
theorem dX7_readUnit_90 : DD cX7_readUnit 90 (.getfield 12) 3 93 := ⟨by decide +kernel, rfl⟩
theorem dX7_readUnit_93 : DD cX7_readUnit 93 (.dup) 1 94 := ⟨by decide +kernel, rfl⟩
theorem dX7_readUnit_94 : DD cX7_readUnit 94 (.getfield 208) 3 97 := ⟨by decide +kernel, rfl⟩
theorem dX7_readUnit_97 : DD cX7_readUnit 97 (.iconst 1) 1 98 := ⟨by decide +kernel, rfl⟩
theorem dX7_readUnit_98 : DD cX7_readUnit 98 (.iadd) 1 99 := ⟨by decide +kernel, rfl⟩
theorem dX7_readUnit_99 : DD cX7_readUnit 99 (.putfield 208) 3 102 := ⟨by decide +kernel, rfl⟩
theorem dX7_readUnit_102 : DD cX7_readUnit 102 (.aload_n 0) 1 103 := ⟨by decide +kernel, rfl⟩
theorem dX7_readUnit_103 : DD cX7_readUnit 103 (.dup) 1 104 := ⟨by decide +kernel, rfl⟩
theorem dX7_readUnit_104 : DD cX7_readUnit 104 (.getfield 171) 3 107 := ⟨by decide +kernel, rfl⟩
theorem dX7_readUnit_107 : DD cX7_readUnit 107 (.iconst 1) 1 108 := ⟨by decide +kernel, rfl⟩
theorem dX7_readUnit_108 : DD cX7_readUnit 108 (.iadd) 1 109 := ⟨by decide +kernel, rfl⟩
theorem dX7_readUnit_109 : DD cX7_readUnit 109 (.putfield 171) 3 112 := ⟨by decide +kernel, rfl⟩
theorem dX7_readUnit_112 : DD cX7_readUnit 112 (.iload_n 2) 1 113 := ⟨by decide +kernel, rfl⟩
theorem dX7_readUnit_113 : DD cX7_readUnit 113 (.ifCond .ne 35) 3 116 := ⟨by decide +kernel, rfl⟩
theorem dX7_readUnit_116 : DD cX7_readUnit 116 (.aload_n 0) 1 117 := ⟨by decide +kernel, rfl⟩
theorem dX7_readUnit_117 : DD cX7_readUnit 117 (.getfield 22) 3 120 := ⟨by decide +kernel, rfl⟩
theorem dX7_readUnit_120 : DD cX7_readUnit 120 (.aload_n 0) 1 121 := ⟨by decide +kernel, rfl⟩
theorem dX7_readUnit_121 : DD cX7_readUnit 121 (.getfield 29) 3 124 := ⟨by decide +kernel, rfl⟩
theorem dX7_readUnit_124 : DD cX7_readUnit 124 (.getfield 44) 3 127 := ⟨by decide +kernel, rfl⟩
theorem dX7_readUnit_127 : DD cX7_readUnit 127 (.iconst 3) 1 128 := ⟨by decide +kernel, rfl⟩
theorem dX7_readUnit_128 : DD cX7_readUnit 128 (.if_icmp .ne 13) 3 131 := ⟨by decide +kernel, rfl⟩
theorem dX7_readUnit_131 : DD cX7_readUnit 131 (.aload_n 0) 1 132 := ⟨by decide +kernel, rfl⟩
theorem dX7_readUnit_132 : DD cX7_readUnit 132 (.getfield 29) 3 135 := ⟨by decide +kernel, rfl⟩
theorem dX7_readUnit_135 : DD cX7_readUnit 135 (.getfield 103) 3 138 := ⟨by decide +kernel, rfl⟩
theorem dX7_readUnit_138 : DD cX7_readUnit 138 (.goto 7) 3 141 := ⟨by decide +kernel, rfl⟩
theorem dX7_readUnit_141 : DD cX7_readUnit 141 (.aload_n 0) 1 142 := ⟨by decide +kernel, rfl⟩
theorem dX7_readUnit_142 : DD cX7_readUnit 142 (.invokevirtual 205) 3 145 := ⟨by decide +kernel, rfl⟩
theorem dX7_readUnit_145 : DD cX7_readUnit 145 (.invokevirtual 180) 3 148 := ⟨by decide +kernel, rfl⟩
theorem dX7_readUnit_148 : DD cX7_readUnit 148 (.aload_n 0) 1 149 := ⟨by decide +kernel, rfl⟩
theorem dX7_readUnit_149 : DD cX7_readUnit 149 (.getfield 29) 3 152 := ⟨by decide +kernel, rfl⟩
theorem dX7_readUnit_152 : DD cX7_readUnit 152 (.invokevirtual 80) 3 155 := ⟨by decide +kernel, rfl⟩
theorem dX7_readUnit_155 : DD cX7_readUnit 155 (.iload_n 2) 1 156 := ⟨by decide +kernel, rfl⟩
theorem dX7_readUnit_156 : DD cX7_readUnit 156 (.ifCond .eq 22) 3 159 := ⟨by decide +kernel, rfl⟩
theorem dX7_readUnit_159 : DD cX7_readUnit 159 (.aload_n 0) 1 160 := ⟨by decide +kernel, rfl⟩
theorem dX7_readUnit_160 : DD cX7_readUnit 160 (.iload_n 1) 1 161 := ⟨by decide +kernel, rfl⟩
theorem dX7_readUnit_161 : DD cX7_readUnit 161 (.iconst 1) 1 162 := ⟨by decide +kernel, rfl⟩
theorem dX7_readUnit_162 : DD cX7_readUnit 162 (.iadd) 1 163 := ⟨by decide +kernel, rfl⟩
theorem dX7_readUnit_163 : DD cX7_readUnit 163 (.invokevirtual 174) 3 166 := ⟨by decide +kernel, rfl⟩
theorem dX7_readUnit_166 : DD cX7_readUnit 166 (.ifCond .eq 16) 3 169 := ⟨by decide +kernel, rfl⟩
theorem dX7_readUnit_169 : DD cX7_readUnit 169 (.aload_n 0) 1 170 := ⟨by decide +kernel, rfl⟩
theorem dX7_readUnit_170 : DD cX7_readUnit 170 (.bipush 41) 2 172 := ⟨by decide +kernel, rfl⟩
theorem dX7_readUnit_172 : DD cX7_readUnit 172 (.invokevirtual 116) 3 175 := ⟨by decide +kernel, rfl⟩
theorem dX7_readUnit_175 : DD cX7_readUnit 175 (.ifCond .eq 7) 3 178 := ⟨by decide +kernel, rfl⟩
theorem dX7_readUnit_178 : DD cX7_readUnit 178 (.iconst 1) 1 179 := ⟨by decide +kernel, rfl⟩
theorem dX7_readUnit_179 : DD cX7_readUnit 179 (.goto 4) 3 182 := ⟨by decide +kernel, rfl⟩
theorem dX7_readUnit_182 : DD cX7_readUnit 182 (.iconst 0) 1 183 := ⟨by decide +kernel, rfl⟩
theorem dX7_readUnit_183 : DD cX7_readUnit 183 (.ireturn) 1 184 := ⟨by decide +kernel, rfl⟩
def fX7_readUnit (rec : Mem → Int32 → Option (Int32 × Mem)) (m : Mem) (x1 : Int32) : Option (Int32 × Mem) := (if (m.1 1 4) = (40 : Int32) then (gPl (m.2.2 4 1) (if (60 : Int32) ≤ (m.1 (m.2.2 4 1) 18) then (cI (fX7_refuse m (2 : Int32)) fun r54 m55 => (tz r54 (some (r54, m55)))) else (if (m.1 4 3) < (30 : Int32) then (if x1 ≤ (6 : Int32) then (pt (sI m (m.2.2 4 1) 18 ((m.1 (m.2.2 4 1) 18) + (1 : Int32))) fun m58 => (pt (sI m58 4 3 ((m58.1 4 3) + (1 : Int32))) fun m59 => (cV (fX10_advance m59) fun m61 => (cI (rec m61 (x1 + (1 : Int32))) fun r62 m63 => (if r62 = 0 then (some ((0 : Int32), m63)) else (cI (fX7_pass m63 (41 : Int32)) fun r65 m66 => (if r65 = 0 then (some ((0 : Int32), m66)) else (some ((1 : Int32), m66))))))))) else (cI (fX7_refuse m (2 : Int32)) fun r68 m69 => (tz r68 (some (r68, m69))))) else (cI (fX7_refuse m (2 : Int32)) fun r70 m71 => (tz r70 (some (r70, m71))))))) else (if (m.1 1 4) = (3 : Int32) then (gPl (m.2.2 4 1) (if (60 : Int32) ≤ (m.1 (m.2.2 4 1) 18) then (cI (fX7_refuse m (2 : Int32)) fun r5 m6 => (tz r5 (some (r5, m6)))) else (if (m.1 4 3) < (30 : Int32) then (pt (sI m (m.2.2 4 1) 18 ((m.1 (m.2.2 4 1) 18) + (1 : Int32))) fun m8 => (pt (sI m8 4 3 ((m8.1 4 3) + (1 : Int32))) fun m9 => (if (m9.1 1 4) = (3 : Int32) then (gFm (m9.2.2 4 2) (cV (fX3_put m9 (m9.2.2 4 2) (m9.1 1 6)) fun m20 => (cV (fX10_advance m20) fun m22 => (some ((1 : Int32), m22))))) else (cP (fX7_givenHere m9) fun r11 => (gFm (m9.2.2 4 2) (cV (fX3_put m9 (m9.2.2 4 2) r11) fun m15 => (cV (fX10_advance m15) fun m17 => (some ((1 : Int32), m17))))))))) else (cI (fX7_refuse m (2 : Int32)) fun r23 m24 => (tz r23 (some (r23, m24))))))) else (cP (fX7_givenHere m) fun r25 => (if r25 = 0 then (cI (fX7_refuse m (2 : Int32)) fun r50 m51 => (tz r50 (some (r50, m51)))) else (gPl (m.2.2 4 1) (if (60 : Int32) ≤ (m.1 (m.2.2 4 1) 18) then (cI (fX7_refuse m (2 : Int32)) fun r30 m31 => (tz r30 (some (r30, m31)))) else (if (m.1 4 3) < (30 : Int32) then (pt (sI m (m.2.2 4 1) 18 ((m.1 (m.2.2 4 1) 18) + (1 : Int32))) fun m33 => (pt (sI m33 4 3 ((m33.1 4 3) + (1 : Int32))) fun m34 => (if (m34.1 1 4) = (3 : Int32) then (gFm (m34.2.2 4 2) (cV (fX3_put m34 (m34.2.2 4 2) (m34.1 1 6)) fun m45 => (cV (fX10_advance m45) fun m47 => (some ((1 : Int32), m47))))) else (cP (fX7_givenHere m34) fun r36 => (gFm (m34.2.2 4 2) (cV (fX3_put m34 (m34.2.2 4 2) r36) fun m40 => (cV (fX10_advance m40) fun m42 => (some ((1 : Int32), m42))))))))) else (cI (fX7_refuse m (2 : Int32)) fun r48 m49 => (tz r48 (some (r48, m49)))))))))))
set_option maxHeartbeats 4000000 in
set_option maxRecDepth 100000 in
theorem kX7_readUnit (l : Launch) (G : Gt) (hD : ∀ m, va_D (inA G nC) (wC G m)) (L : Nat) (hL : 30 ≤ L) (rec : Mem → Int32 → Option (Int32 × Mem)) (hrec : ∀ (l : Launch) (m : Mem) (x : Int32), ∀ a, rec m x = some a → Ct l G wC nC yX7_readEither cX7_readEither 3 (some .boolean) L [.ref (G.2.2 4), .int x] m (cvI a)) (m : Mem) (x1 : Int32) : ∀ a, fX7_readUnit rec m x1 = some a → Ct l G wC nC yX7_readUnit cX7_readUnit 3 (some .boolean) (L + 1) [.ref (G.2.2 4), .int x1] m (cvI a) := by
  refine ct_of (own := RX7) (ls0 := [some (.ref (G.2.2 4)), some (.int x1), none]) (by decide) rfl rfl rfl (Nat.le_of_ble_eq_true rfl) hD (fun X h => ?_) l
  unfold fX7_readUnit
  refine j_aload_n h dX7_readUnit_0 rfl ?_
  refine gC7_29 h dX7_readUnit_1 ?_
  refine gC7_44 h dX7_readUnit_4 ?_
  refine j_bipush (v := (40 : Int32)) h dX7_readUnit_7 kbipush_40 ?_
  refine j_icmp_ne (tgt := 16) h dX7_readUnit_9 (by decide) (fun c1 => ?_) (fun c1 => ?_)
  · refine j_iconst (v := (0 : Int32)) h dX7_readUnit_16 kiconst_0 ?_
    refine j_istore_n h dX7_readUnit_17 rfl rfl ?_
    refine j_iload_n h dX7_readUnit_18 rfl ?_
    refine j_if_neB (tgt := 46) h dX7_readUnit_19 (by decide) (fun cc => absurd cc (by decide)) (fun _ => ?_)
    refine j_aload_n h dX7_readUnit_22 rfl ?_
    refine gC7_29 h dX7_readUnit_23 ?_
    refine gC7_44 h dX7_readUnit_26 ?_
    refine j_iconst (v := (3 : Int32)) h dX7_readUnit_29 kiconst_3 ?_
    refine j_icmp_eq (tgt := 46) h dX7_readUnit_30 (by decide) (fun c2 => ?_) (fun c2 => ?_)
    · refine j_aload_n h dX7_readUnit_46 rfl ?_
      refine gC7_12 h dX7_readUnit_47 ?_
      refine j_gPl (fun hg3 => ?_)
      refine gC7_208 h hg3 dX7_readUnit_50 ?_
      refine j_bipush (v := (60 : Int32)) h dX7_readUnit_53 kbipush_60 ?_
      refine j_icmp_ge (tgt := 67) h dX7_readUnit_55 (by decide) (fun c4 => ?_) (fun c4 => ?_)
      · refine j_aload_n h dX7_readUnit_67 rfl ?_
        refine j_iconst (v := (2 : Int32)) h dX7_readUnit_68 kiconst_2 ?_
        refine j_callVI (q0 := 4) (ci := 7) h [.int (2 : Int32)] (kX7_refuse _ G h.2.2.2.2.2.2.2.2.2.2 m (2 : Int32)) okX7_refuse inX7_refuse ml7_73 rfl rfl rfl rfl (by omega) (by decide) (Nat.le_of_ble_eq_true rfl) rfl dX7_readUnit_69 (fun r5 m6 hr5 => ?_)
        exact j_zret h rfl dX7_readUnit_72
      · refine j_aload_n h dX7_readUnit_58 rfl ?_
        refine gC7_171 h dX7_readUnit_59 ?_
        refine j_bipush (v := (30 : Int32)) h dX7_readUnit_62 kbipush_30 ?_
        refine j_icmp_lt (tgt := 73) h dX7_readUnit_64 (by decide) (fun c7 => ?_) (fun c7 => ?_)
        · refine j_iload_n h dX7_readUnit_73 rfl ?_
          refine j_if_eqB (tgt := 89) h dX7_readUnit_74 (by decide) (fun _ => ?_) (fun cc => absurd (by decide) cc)
          refine j_aload_n h dX7_readUnit_89 rfl ?_
          refine gC7_12 h dX7_readUnit_90 ?_
          refine j_dup h dX7_readUnit_93 rfl ?_
          refine gC7_208 h hg3 dX7_readUnit_94 ?_
          refine j_iconst (v := (1 : Int32)) h dX7_readUnit_97 kiconst_1 ?_
          refine j_iadd h dX7_readUnit_98 ?_
          refine pC7_208 h hg3 dX7_readUnit_99 (fun m8 hm8 => ?_)
          refine j_aload_n h dX7_readUnit_102 rfl ?_
          refine j_dup h dX7_readUnit_103 rfl ?_
          refine gC7_171 h dX7_readUnit_104 ?_
          refine j_iconst (v := (1 : Int32)) h dX7_readUnit_107 kiconst_1 ?_
          refine j_iadd h dX7_readUnit_108 ?_
          refine pC7_171 h dX7_readUnit_109 (fun m9 hm9 => ?_)
          refine j_iload_n h dX7_readUnit_112 rfl ?_
          refine j_if_neB (tgt := 148) h dX7_readUnit_113 (by decide) (fun cc => absurd cc (by decide)) (fun _ => ?_)
          refine j_aload_n h dX7_readUnit_116 rfl ?_
          refine gC7_22 h dX7_readUnit_117 ?_
          refine j_aload_n h dX7_readUnit_120 rfl ?_
          refine gC7_29 h dX7_readUnit_121 ?_
          refine gC7_44 h dX7_readUnit_124 ?_
          refine j_iconst (v := (3 : Int32)) h dX7_readUnit_127 kiconst_3 ?_
          refine j_icmp_ne (tgt := 141) h dX7_readUnit_128 (by decide) (fun c10 => ?_) (fun c10 => ?_)
          · refine j_aload_n h dX7_readUnit_141 rfl ?_
            refine j_callVP (q0 := 4) (ci := 7) h [] (kX7_givenHere _ G h.2.2.2.2.2.2.2.2.2.2 m9) okX7_givenHere inX7_givenHere ml7_205 rfl rfl rfl rfl (by omega) (by decide) (Nat.le_of_ble_eq_true rfl) rfl dX7_readUnit_142 (fun r11 hr11 => ?_)
            refine j_gFm (fun hg13 => ?_)
            refine j_callVV (q0 := (m9.2.2 4 2)) (ci := 3) h [.int r11] (kX3_put _ G h.2.2.2.2.2.2.2.2.2.2 m9 (m9.2.2 4 2) r11) okX3_put inX3_put ml7_180 rfl (at_Fm hg13) rfl rfl (by omega) (by decide) (Nat.le_of_ble_eq_true rfl) rfl dX7_readUnit_145 (fun m15 hm15 => ?_)
            refine j_aload_n h dX7_readUnit_148 rfl ?_
            refine gC7_29 h dX7_readUnit_149 ?_
            refine j_callVV (q0 := 1) (ci := 10) h [] (kX10_advance _ G h.2.2.2.2.2.2.2.2.2.2 m15) okX10_advance inX10_advance ml7_80 rfl rfl rfl rfl (by omega) (by decide) (Nat.le_of_ble_eq_true rfl) rfl dX7_readUnit_152 (fun m17 hm17 => ?_)
            refine j_iload_n h dX7_readUnit_155 rfl ?_
            refine j_if_eqB (tgt := 178) h dX7_readUnit_156 (by decide) (fun _ => ?_) (fun cc => absurd (by decide) cc)
            refine j_iconst (v := (1 : Int32)) h dX7_readUnit_178 kiconst_1 ?_
            refine j_goto (tgt := 183) h dX7_readUnit_179 (by decide) ?_
            exact j_zretB h rfl rfl dX7_readUnit_183
          · refine j_aload_n h dX7_readUnit_131 rfl ?_
            refine gC7_29 h dX7_readUnit_132 ?_
            refine gC7_103 h dX7_readUnit_135 ?_
            refine j_goto (tgt := 145) h dX7_readUnit_138 (by decide) ?_
            refine j_gFm (fun hg18 => ?_)
            refine j_callVV (q0 := (m9.2.2 4 2)) (ci := 3) h [.int (m9.1 1 6)] (kX3_put _ G h.2.2.2.2.2.2.2.2.2.2 m9 (m9.2.2 4 2) (m9.1 1 6)) okX3_put inX3_put ml7_180 rfl (at_Fm hg18) rfl rfl (by omega) (by decide) (Nat.le_of_ble_eq_true rfl) rfl dX7_readUnit_145 (fun m20 hm20 => ?_)
            refine j_aload_n h dX7_readUnit_148 rfl ?_
            refine gC7_29 h dX7_readUnit_149 ?_
            refine j_callVV (q0 := 1) (ci := 10) h [] (kX10_advance _ G h.2.2.2.2.2.2.2.2.2.2 m20) okX10_advance inX10_advance ml7_80 rfl rfl rfl rfl (by omega) (by decide) (Nat.le_of_ble_eq_true rfl) rfl dX7_readUnit_152 (fun m22 hm22 => ?_)
            refine j_iload_n h dX7_readUnit_155 rfl ?_
            refine j_if_eqB (tgt := 178) h dX7_readUnit_156 (by decide) (fun _ => ?_) (fun cc => absurd (by decide) cc)
            refine j_iconst (v := (1 : Int32)) h dX7_readUnit_178 kiconst_1 ?_
            refine j_goto (tgt := 183) h dX7_readUnit_179 (by decide) ?_
            exact j_zretB h rfl rfl dX7_readUnit_183
        · refine j_aload_n h dX7_readUnit_67 rfl ?_
          refine j_iconst (v := (2 : Int32)) h dX7_readUnit_68 kiconst_2 ?_
          refine j_callVI (q0 := 4) (ci := 7) h [.int (2 : Int32)] (kX7_refuse _ G h.2.2.2.2.2.2.2.2.2.2 m (2 : Int32)) okX7_refuse inX7_refuse ml7_73 rfl rfl rfl rfl (by omega) (by decide) (Nat.le_of_ble_eq_true rfl) rfl dX7_readUnit_69 (fun r23 m24 hr23 => ?_)
          exact j_zret h rfl dX7_readUnit_72
    · refine j_aload_n h dX7_readUnit_33 rfl ?_
      refine j_callVP (q0 := 4) (ci := 7) h [] (kX7_givenHere _ G h.2.2.2.2.2.2.2.2.2.2 m) okX7_givenHere inX7_givenHere ml7_205 rfl rfl rfl rfl (by omega) (by decide) (Nat.le_of_ble_eq_true rfl) rfl dX7_readUnit_34 (fun r25 hr25 => ?_)
      refine j_if_ne (tgt := 46) h dX7_readUnit_37 (by decide) (fun c27 => ?_) (fun c27 => ?_)
      · refine j_aload_n h dX7_readUnit_46 rfl ?_
        refine gC7_12 h dX7_readUnit_47 ?_
        refine j_gPl (fun hg28 => ?_)
        refine gC7_208 h hg28 dX7_readUnit_50 ?_
        refine j_bipush (v := (60 : Int32)) h dX7_readUnit_53 kbipush_60 ?_
        refine j_icmp_ge (tgt := 67) h dX7_readUnit_55 (by decide) (fun c29 => ?_) (fun c29 => ?_)
        · refine j_aload_n h dX7_readUnit_67 rfl ?_
          refine j_iconst (v := (2 : Int32)) h dX7_readUnit_68 kiconst_2 ?_
          refine j_callVI (q0 := 4) (ci := 7) h [.int (2 : Int32)] (kX7_refuse _ G h.2.2.2.2.2.2.2.2.2.2 m (2 : Int32)) okX7_refuse inX7_refuse ml7_73 rfl rfl rfl rfl (by omega) (by decide) (Nat.le_of_ble_eq_true rfl) rfl dX7_readUnit_69 (fun r30 m31 hr30 => ?_)
          exact j_zret h rfl dX7_readUnit_72
        · refine j_aload_n h dX7_readUnit_58 rfl ?_
          refine gC7_171 h dX7_readUnit_59 ?_
          refine j_bipush (v := (30 : Int32)) h dX7_readUnit_62 kbipush_30 ?_
          refine j_icmp_lt (tgt := 73) h dX7_readUnit_64 (by decide) (fun c32 => ?_) (fun c32 => ?_)
          · refine j_iload_n h dX7_readUnit_73 rfl ?_
            refine j_if_eqB (tgt := 89) h dX7_readUnit_74 (by decide) (fun _ => ?_) (fun cc => absurd (by decide) cc)
            refine j_aload_n h dX7_readUnit_89 rfl ?_
            refine gC7_12 h dX7_readUnit_90 ?_
            refine j_dup h dX7_readUnit_93 rfl ?_
            refine gC7_208 h hg28 dX7_readUnit_94 ?_
            refine j_iconst (v := (1 : Int32)) h dX7_readUnit_97 kiconst_1 ?_
            refine j_iadd h dX7_readUnit_98 ?_
            refine pC7_208 h hg28 dX7_readUnit_99 (fun m33 hm33 => ?_)
            refine j_aload_n h dX7_readUnit_102 rfl ?_
            refine j_dup h dX7_readUnit_103 rfl ?_
            refine gC7_171 h dX7_readUnit_104 ?_
            refine j_iconst (v := (1 : Int32)) h dX7_readUnit_107 kiconst_1 ?_
            refine j_iadd h dX7_readUnit_108 ?_
            refine pC7_171 h dX7_readUnit_109 (fun m34 hm34 => ?_)
            refine j_iload_n h dX7_readUnit_112 rfl ?_
            refine j_if_neB (tgt := 148) h dX7_readUnit_113 (by decide) (fun cc => absurd cc (by decide)) (fun _ => ?_)
            refine j_aload_n h dX7_readUnit_116 rfl ?_
            refine gC7_22 h dX7_readUnit_117 ?_
            refine j_aload_n h dX7_readUnit_120 rfl ?_
            refine gC7_29 h dX7_readUnit_121 ?_
            refine gC7_44 h dX7_readUnit_124 ?_
            refine j_iconst (v := (3 : Int32)) h dX7_readUnit_127 kiconst_3 ?_
            refine j_icmp_ne (tgt := 141) h dX7_readUnit_128 (by decide) (fun c35 => ?_) (fun c35 => ?_)
            · refine j_aload_n h dX7_readUnit_141 rfl ?_
              refine j_callVP (q0 := 4) (ci := 7) h [] (kX7_givenHere _ G h.2.2.2.2.2.2.2.2.2.2 m34) okX7_givenHere inX7_givenHere ml7_205 rfl rfl rfl rfl (by omega) (by decide) (Nat.le_of_ble_eq_true rfl) rfl dX7_readUnit_142 (fun r36 hr36 => ?_)
              refine j_gFm (fun hg38 => ?_)
              refine j_callVV (q0 := (m34.2.2 4 2)) (ci := 3) h [.int r36] (kX3_put _ G h.2.2.2.2.2.2.2.2.2.2 m34 (m34.2.2 4 2) r36) okX3_put inX3_put ml7_180 rfl (at_Fm hg38) rfl rfl (by omega) (by decide) (Nat.le_of_ble_eq_true rfl) rfl dX7_readUnit_145 (fun m40 hm40 => ?_)
              refine j_aload_n h dX7_readUnit_148 rfl ?_
              refine gC7_29 h dX7_readUnit_149 ?_
              refine j_callVV (q0 := 1) (ci := 10) h [] (kX10_advance _ G h.2.2.2.2.2.2.2.2.2.2 m40) okX10_advance inX10_advance ml7_80 rfl rfl rfl rfl (by omega) (by decide) (Nat.le_of_ble_eq_true rfl) rfl dX7_readUnit_152 (fun m42 hm42 => ?_)
              refine j_iload_n h dX7_readUnit_155 rfl ?_
              refine j_if_eqB (tgt := 178) h dX7_readUnit_156 (by decide) (fun _ => ?_) (fun cc => absurd (by decide) cc)
              refine j_iconst (v := (1 : Int32)) h dX7_readUnit_178 kiconst_1 ?_
              refine j_goto (tgt := 183) h dX7_readUnit_179 (by decide) ?_
              exact j_zretB h rfl rfl dX7_readUnit_183
            · refine j_aload_n h dX7_readUnit_131 rfl ?_
              refine gC7_29 h dX7_readUnit_132 ?_
              refine gC7_103 h dX7_readUnit_135 ?_
              refine j_goto (tgt := 145) h dX7_readUnit_138 (by decide) ?_
              refine j_gFm (fun hg43 => ?_)
              refine j_callVV (q0 := (m34.2.2 4 2)) (ci := 3) h [.int (m34.1 1 6)] (kX3_put _ G h.2.2.2.2.2.2.2.2.2.2 m34 (m34.2.2 4 2) (m34.1 1 6)) okX3_put inX3_put ml7_180 rfl (at_Fm hg43) rfl rfl (by omega) (by decide) (Nat.le_of_ble_eq_true rfl) rfl dX7_readUnit_145 (fun m45 hm45 => ?_)
              refine j_aload_n h dX7_readUnit_148 rfl ?_
              refine gC7_29 h dX7_readUnit_149 ?_
              refine j_callVV (q0 := 1) (ci := 10) h [] (kX10_advance _ G h.2.2.2.2.2.2.2.2.2.2 m45) okX10_advance inX10_advance ml7_80 rfl rfl rfl rfl (by omega) (by decide) (Nat.le_of_ble_eq_true rfl) rfl dX7_readUnit_152 (fun m47 hm47 => ?_)
              refine j_iload_n h dX7_readUnit_155 rfl ?_
              refine j_if_eqB (tgt := 178) h dX7_readUnit_156 (by decide) (fun _ => ?_) (fun cc => absurd (by decide) cc)
              refine j_iconst (v := (1 : Int32)) h dX7_readUnit_178 kiconst_1 ?_
              refine j_goto (tgt := 183) h dX7_readUnit_179 (by decide) ?_
              exact j_zretB h rfl rfl dX7_readUnit_183
          · refine j_aload_n h dX7_readUnit_67 rfl ?_
            refine j_iconst (v := (2 : Int32)) h dX7_readUnit_68 kiconst_2 ?_
            refine j_callVI (q0 := 4) (ci := 7) h [.int (2 : Int32)] (kX7_refuse _ G h.2.2.2.2.2.2.2.2.2.2 m (2 : Int32)) okX7_refuse inX7_refuse ml7_73 rfl rfl rfl rfl (by omega) (by decide) (Nat.le_of_ble_eq_true rfl) rfl dX7_readUnit_69 (fun r48 m49 hr48 => ?_)
            exact j_zret h rfl dX7_readUnit_72
      · refine j_aload_n h dX7_readUnit_40 rfl ?_
        refine j_iconst (v := (2 : Int32)) h dX7_readUnit_41 kiconst_2 ?_
        refine j_callVI (q0 := 4) (ci := 7) h [.int (2 : Int32)] (kX7_refuse _ G h.2.2.2.2.2.2.2.2.2.2 m (2 : Int32)) okX7_refuse inX7_refuse ml7_73 rfl rfl rfl rfl (by omega) (by decide) (Nat.le_of_ble_eq_true rfl) rfl dX7_readUnit_42 (fun r50 m51 hr50 => ?_)
        exact j_zret h rfl dX7_readUnit_45
  · refine j_iconst (v := (1 : Int32)) h dX7_readUnit_12 kiconst_1 ?_
    refine j_goto (tgt := 17) h dX7_readUnit_13 (by decide) ?_
    refine j_istore_n h dX7_readUnit_17 rfl rfl ?_
    refine j_iload_n h dX7_readUnit_18 rfl ?_
    refine j_if_neB (tgt := 46) h dX7_readUnit_19 (by decide) (fun _ => ?_) (fun cc => absurd (by decide) cc)
    refine j_aload_n h dX7_readUnit_46 rfl ?_
    refine gC7_12 h dX7_readUnit_47 ?_
    refine j_gPl (fun hg52 => ?_)
    refine gC7_208 h hg52 dX7_readUnit_50 ?_
    refine j_bipush (v := (60 : Int32)) h dX7_readUnit_53 kbipush_60 ?_
    refine j_icmp_ge (tgt := 67) h dX7_readUnit_55 (by decide) (fun c53 => ?_) (fun c53 => ?_)
    · refine j_aload_n h dX7_readUnit_67 rfl ?_
      refine j_iconst (v := (2 : Int32)) h dX7_readUnit_68 kiconst_2 ?_
      refine j_callVI (q0 := 4) (ci := 7) h [.int (2 : Int32)] (kX7_refuse _ G h.2.2.2.2.2.2.2.2.2.2 m (2 : Int32)) okX7_refuse inX7_refuse ml7_73 rfl rfl rfl rfl (by omega) (by decide) (Nat.le_of_ble_eq_true rfl) rfl dX7_readUnit_69 (fun r54 m55 hr54 => ?_)
      exact j_zret h rfl dX7_readUnit_72
    · refine j_aload_n h dX7_readUnit_58 rfl ?_
      refine gC7_171 h dX7_readUnit_59 ?_
      refine j_bipush (v := (30 : Int32)) h dX7_readUnit_62 kbipush_30 ?_
      refine j_icmp_lt (tgt := 73) h dX7_readUnit_64 (by decide) (fun c56 => ?_) (fun c56 => ?_)
      · refine j_iload_n h dX7_readUnit_73 rfl ?_
        refine j_if_eqB (tgt := 89) h dX7_readUnit_74 (by decide) (fun cc => absurd cc (by decide)) (fun _ => ?_)
        refine j_iload_n h dX7_readUnit_77 rfl ?_
        refine j_bipush (v := (6 : Int32)) h dX7_readUnit_78 kbipush_6 ?_
        refine j_icmp_le (tgt := 89) h dX7_readUnit_80 (by decide) (fun c57 => ?_) (fun c57 => ?_)
        · refine j_aload_n h dX7_readUnit_89 rfl ?_
          refine gC7_12 h dX7_readUnit_90 ?_
          refine j_dup h dX7_readUnit_93 rfl ?_
          refine gC7_208 h hg52 dX7_readUnit_94 ?_
          refine j_iconst (v := (1 : Int32)) h dX7_readUnit_97 kiconst_1 ?_
          refine j_iadd h dX7_readUnit_98 ?_
          refine pC7_208 h hg52 dX7_readUnit_99 (fun m58 hm58 => ?_)
          refine j_aload_n h dX7_readUnit_102 rfl ?_
          refine j_dup h dX7_readUnit_103 rfl ?_
          refine gC7_171 h dX7_readUnit_104 ?_
          refine j_iconst (v := (1 : Int32)) h dX7_readUnit_107 kiconst_1 ?_
          refine j_iadd h dX7_readUnit_108 ?_
          refine pC7_171 h dX7_readUnit_109 (fun m59 hm59 => ?_)
          refine j_iload_n h dX7_readUnit_112 rfl ?_
          refine j_if_neB (tgt := 148) h dX7_readUnit_113 (by decide) (fun _ => ?_) (fun cc => absurd (by decide) cc)
          refine j_aload_n h dX7_readUnit_148 rfl ?_
          refine gC7_29 h dX7_readUnit_149 ?_
          refine j_callVV (q0 := 1) (ci := 10) h [] (kX10_advance _ G h.2.2.2.2.2.2.2.2.2.2 m59) okX10_advance inX10_advance ml7_80 rfl rfl rfl rfl (by omega) (by decide) (Nat.le_of_ble_eq_true rfl) rfl dX7_readUnit_152 (fun m61 hm61 => ?_)
          refine j_iload_n h dX7_readUnit_155 rfl ?_
          refine j_if_eqB (tgt := 178) h dX7_readUnit_156 (by decide) (fun cc => absurd cc (by decide)) (fun _ => ?_)
          refine j_aload_n h dX7_readUnit_159 rfl ?_
          refine j_iload_n h dX7_readUnit_160 rfl ?_
          refine j_iconst (v := (1 : Int32)) h dX7_readUnit_161 kiconst_1 ?_
          refine j_iadd h dX7_readUnit_162 ?_
          refine j_callVI (q0 := 4) (ci := 7) h [.int (x1 + (1 : Int32))] (hrec _ m61 (x1 + (1 : Int32))) okX7_readEither inX7_readEither ml7_174 rfl rfl rfl rfl (by omega) (by decide) (Nat.le_of_ble_eq_true rfl) rfl dX7_readUnit_163 (fun r62 m63 hr62 => ?_)
          refine j_if_eq (tgt := 182) h dX7_readUnit_166 (by decide) (fun c64 => ?_) (fun c64 => ?_)
          · refine j_iconst (v := (0 : Int32)) h dX7_readUnit_182 kiconst_0 ?_
            exact j_zretB h rfl rfl dX7_readUnit_183
          · refine j_aload_n h dX7_readUnit_169 rfl ?_
            refine j_bipush (v := (41 : Int32)) h dX7_readUnit_170 kbipush_41 ?_
            refine j_callVI (q0 := 4) (ci := 7) h [.int (41 : Int32)] (kX7_pass _ G h.2.2.2.2.2.2.2.2.2.2 m63 (41 : Int32)) okX7_pass inX7_pass ml7_116 rfl rfl rfl rfl (by omega) (by decide) (Nat.le_of_ble_eq_true rfl) rfl dX7_readUnit_172 (fun r65 m66 hr65 => ?_)
            refine j_if_eq (tgt := 182) h dX7_readUnit_175 (by decide) (fun c67 => ?_) (fun c67 => ?_)
            · refine j_iconst (v := (0 : Int32)) h dX7_readUnit_182 kiconst_0 ?_
              exact j_zretB h rfl rfl dX7_readUnit_183
            · refine j_iconst (v := (1 : Int32)) h dX7_readUnit_178 kiconst_1 ?_
              refine j_goto (tgt := 183) h dX7_readUnit_179 (by decide) ?_
              exact j_zretB h rfl rfl dX7_readUnit_183
        · refine j_aload_n h dX7_readUnit_83 rfl ?_
          refine j_iconst (v := (2 : Int32)) h dX7_readUnit_84 kiconst_2 ?_
          refine j_callVI (q0 := 4) (ci := 7) h [.int (2 : Int32)] (kX7_refuse _ G h.2.2.2.2.2.2.2.2.2.2 m (2 : Int32)) okX7_refuse inX7_refuse ml7_73 rfl rfl rfl rfl (by omega) (by decide) (Nat.le_of_ble_eq_true rfl) rfl dX7_readUnit_85 (fun r68 m69 hr68 => ?_)
          exact j_zret h rfl dX7_readUnit_88
      · refine j_aload_n h dX7_readUnit_67 rfl ?_
        refine j_iconst (v := (2 : Int32)) h dX7_readUnit_68 kiconst_2 ?_
        refine j_callVI (q0 := 4) (ci := 7) h [.int (2 : Int32)] (kX7_refuse _ G h.2.2.2.2.2.2.2.2.2.2 m (2 : Int32)) okX7_refuse inX7_refuse ml7_73 rfl rfl rfl rfl (by omega) (by decide) (Nat.le_of_ble_eq_true rfl) rfl dX7_readUnit_69 (fun r70 m71 hr70 => ?_)
        exact j_zret h rfl dX7_readUnit_72
