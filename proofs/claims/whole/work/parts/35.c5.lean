theorem dX7_readDate_0 : DD cX7_readDate 0 (.aload_n 0) 1 1 := ⟨by decide +kernel, rfl⟩
theorem dX7_readDate_1 : DD cX7_readDate 1 (.getfield 12) 3 4 := ⟨by decide +kernel, rfl⟩
theorem dX7_readDate_4 : DD cX7_readDate 4 (.getfield 162) 3 7 := ⟨by decide +kernel, rfl⟩
theorem dX7_readDate_7 : DD cX7_readDate 7 (.iconst (-1)) 1 8 := ⟨by decide +kernel, rfl⟩
theorem dX7_readDate_8 : DD cX7_readDate 8 (.if_icmp .eq 9) 3 11 := ⟨by decide +kernel, rfl⟩
theorem dX7_readDate_11 : DD cX7_readDate 11 (.aload_n 0) 1 12 := ⟨by decide +kernel, rfl⟩
theorem dX7_readDate_12 : DD cX7_readDate 12 (.iconst 2) 1 13 := ⟨by decide +kernel, rfl⟩
theorem dX7_readDate_13 : DD cX7_readDate 13 (.invokevirtual 73) 3 16 := ⟨by decide +kernel, rfl⟩
theorem dX7_readDate_16 : DD cX7_readDate 16 (.ireturn) 1 17 := ⟨by decide +kernel, rfl⟩
theorem dX7_readDate_17 : DD cX7_readDate 17 (.aload_n 0) 1 18 := ⟨by decide +kernel, rfl⟩
theorem dX7_readDate_18 : DD cX7_readDate 18 (.getfield 29) 3 21 := ⟨by decide +kernel, rfl⟩
theorem dX7_readDate_21 : DD cX7_readDate 21 (.invokevirtual 80) 3 24 := ⟨by decide +kernel, rfl⟩
theorem dX7_readDate_24 : DD cX7_readDate 24 (.aload_n 0) 1 25 := ⟨by decide +kernel, rfl⟩
theorem dX7_readDate_25 : DD cX7_readDate 25 (.iconst 0) 1 26 := ⟨by decide +kernel, rfl⟩
theorem dX7_readDate_26 : DD cX7_readDate 26 (.sipush 364) 3 29 := ⟨by decide +kernel, rfl⟩
theorem dX7_readDate_29 : DD cX7_readDate 29 (.invokevirtual 159) 3 32 := ⟨by decide +kernel, rfl⟩
theorem dX7_readDate_32 : DD cX7_readDate 32 (.ifCond .ne 5) 3 35 := ⟨by decide +kernel, rfl⟩
theorem dX7_readDate_35 : DD cX7_readDate 35 (.iconst 0) 1 36 := ⟨by decide +kernel, rfl⟩
theorem dX7_readDate_36 : DD cX7_readDate 36 (.ireturn) 1 37 := ⟨by decide +kernel, rfl⟩
theorem dX7_readDate_37 : DD cX7_readDate 37 (.aload_n 0) 1 38 := ⟨by decide +kernel, rfl⟩
theorem dX7_readDate_38 : DD cX7_readDate 38 (.getfield 12) 3 41 := ⟨by decide +kernel, rfl⟩
theorem dX7_readDate_41 : DD cX7_readDate 41 (.aload_n 0) 1 42 := ⟨by decide +kernel, rfl⟩
theorem dX7_readDate_42 : DD cX7_readDate 42 (.getfield 29) 3 45 := ⟨by decide +kernel, rfl⟩
theorem dX7_readDate_45 : DD cX7_readDate 45 (.getfield 103) 3 48 := ⟨by decide +kernel, rfl⟩
theorem dX7_readDate_48 : DD cX7_readDate 48 (.putfield 162) 3 51 := ⟨by decide +kernel, rfl⟩
theorem dX7_readDate_51 : DD cX7_readDate 51 (.aload_n 0) 1 52 := ⟨by decide +kernel, rfl⟩
theorem dX7_readDate_52 : DD cX7_readDate 52 (.getfield 29) 3 55 := ⟨by decide +kernel, rfl⟩
theorem dX7_readDate_55 : DD cX7_readDate 55 (.invokevirtual 80) 3 58 := ⟨by decide +kernel, rfl⟩
theorem dX7_readDate_58 : DD cX7_readDate 58 (.aload_n 0) 1 59 := ⟨by decide +kernel, rfl⟩
theorem dX7_readDate_59 : DD cX7_readDate 59 (.bipush 59) 2 61 := ⟨by decide +kernel, rfl⟩
theorem dX7_readDate_61 : DD cX7_readDate 61 (.invokevirtual 116) 3 64 := ⟨by decide +kernel, rfl⟩
theorem dX7_readDate_64 : DD cX7_readDate 64 (.ireturn) 1 65 := ⟨by decide +kernel, rfl⟩
def fX7_readDate (m : Mem) : Option (Int32 × Mem) := (gPl (m.2.2 4 1) (if (m.1 (m.2.2 4 1) 14) = (-1 : Int32) then (cV (fX10_advance m) fun m4 => (cI (fX7_isNumberHere m4 (0 : Int32) (364 : Int32)) fun r5 m6 => (if r5 = 0 then (some ((0 : Int32), m6)) else (gPl (m6.2.2 4 1) (pt (sI m6 (m6.2.2 4 1) 14 (m6.1 1 6)) fun m8 => (cV (fX10_advance m8) fun m11 => (cI (fX7_pass m11 (59 : Int32)) fun r12 m13 => (tz r12 (some (r12, m13)))))))))) else (cI (fX7_refuse m (2 : Int32)) fun r14 m15 => (tz r14 (some (r14, m15))))))
set_option maxHeartbeats 4000000 in
set_option maxRecDepth 100000 in
theorem kX7_readDate (l : Launch) (G : Gt) (hD : ∀ m, va_D (inA G nC) (wC G m)) (m : Mem) : ∀ a, fX7_readDate m = some a → Ct l G wC nC yX7_readDate cX7_readDate 1 (some .boolean) 6 [.ref (G.2.2 4)] m (cvI a) := by
  refine ct_of (own := RX7) (ls0 := [some (.ref (G.2.2 4))]) (by decide) rfl rfl rfl (Nat.le_of_ble_eq_true rfl) hD (fun X h => ?_) l
  unfold fX7_readDate
  refine j_aload_n h dX7_readDate_0 rfl ?_
  refine gC7_12 h dX7_readDate_1 ?_
  refine j_gPl (fun hg1 => ?_)
  refine gC7_162 h hg1 dX7_readDate_4 ?_
  refine j_iconst (v := (-1 : Int32)) h dX7_readDate_7 kiconst_m1 ?_
  refine j_icmp_eq (tgt := 17) h dX7_readDate_8 (by decide) (fun c2 => ?_) (fun c2 => ?_)
  · refine j_aload_n h dX7_readDate_17 rfl ?_
    refine gC7_29 h dX7_readDate_18 ?_
    refine j_callVV (q0 := 1) (ci := 10) h [] (kX10_advance _ G h.2.2.2.2.2.2.2.2.2.2 m) okX10_advance inX10_advance ml7_80 rfl rfl rfl rfl (by decide) (by decide) (Nat.le_of_ble_eq_true rfl) rfl dX7_readDate_21 (fun m4 hm4 => ?_)
    refine j_aload_n h dX7_readDate_24 rfl ?_
    refine j_iconst (v := (0 : Int32)) h dX7_readDate_25 kiconst_0 ?_
    refine j_sipush (v := (364 : Int32)) h dX7_readDate_26 ksipush_364 ?_
    refine j_callVI (q0 := 4) (ci := 7) h [.int (0 : Int32), .int (364 : Int32)] (kX7_isNumberHere _ G h.2.2.2.2.2.2.2.2.2.2 m4 (0 : Int32) (364 : Int32)) okX7_isNumberHere inX7_isNumberHere ml7_159 rfl rfl rfl rfl (by decide) (by decide) (Nat.le_of_ble_eq_true rfl) rfl dX7_readDate_29 (fun r5 m6 hr5 => ?_)
    refine j_if_ne (tgt := 37) h dX7_readDate_32 (by decide) (fun c7 => ?_) (fun c7 => ?_)
    · refine j_aload_n h dX7_readDate_37 rfl ?_
      refine gC7_12 h dX7_readDate_38 ?_
      refine j_aload_n h dX7_readDate_41 rfl ?_
      refine gC7_29 h dX7_readDate_42 ?_
      refine gC7_103 h dX7_readDate_45 ?_
      refine j_gPl (fun hg9 => ?_)
      refine pC7_162 h hg9 dX7_readDate_48 (fun m8 hm8 => ?_)
      refine j_aload_n h dX7_readDate_51 rfl ?_
      refine gC7_29 h dX7_readDate_52 ?_
      refine j_callVV (q0 := 1) (ci := 10) h [] (kX10_advance _ G h.2.2.2.2.2.2.2.2.2.2 m8) okX10_advance inX10_advance ml7_80 rfl rfl rfl rfl (by decide) (by decide) (Nat.le_of_ble_eq_true rfl) rfl dX7_readDate_55 (fun m11 hm11 => ?_)
      refine j_aload_n h dX7_readDate_58 rfl ?_
      refine j_bipush (v := (59 : Int32)) h dX7_readDate_59 kbipush_59 ?_
      refine j_callVI (q0 := 4) (ci := 7) h [.int (59 : Int32)] (kX7_pass _ G h.2.2.2.2.2.2.2.2.2.2 m11 (59 : Int32)) okX7_pass inX7_pass ml7_116 rfl rfl rfl rfl (by decide) (by decide) (Nat.le_of_ble_eq_true rfl) rfl dX7_readDate_61 (fun r12 m13 hr12 => ?_)
      exact j_zret h rfl dX7_readDate_64
    · refine j_iconst (v := (0 : Int32)) h dX7_readDate_35 kiconst_0 ?_
      exact j_zretB h rfl rfl dX7_readDate_36
  · refine j_aload_n h dX7_readDate_11 rfl ?_
    refine j_iconst (v := (2 : Int32)) h dX7_readDate_12 kiconst_2 ?_
    refine j_callVI (q0 := 4) (ci := 7) h [.int (2 : Int32)] (kX7_refuse _ G h.2.2.2.2.2.2.2.2.2.2 m (2 : Int32)) okX7_refuse inX7_refuse ml7_73 rfl rfl rfl rfl (by decide) (by decide) (Nat.le_of_ble_eq_true rfl) rfl dX7_readDate_13 (fun r14 m15 hr14 => ?_)
    exact j_zret h rfl dX7_readDate_16
theorem dX7_readTown_0 : DD cX7_readTown 0 (.aload_n 0) 1 1 := ⟨by decide +kernel, rfl⟩
theorem dX7_readTown_1 : DD cX7_readTown 1 (.iconst 0) 1 2 := ⟨by decide +kernel, rfl⟩
theorem dX7_readTown_2 : DD cX7_readTown 2 (.putfield 33) 3 5 := ⟨by decide +kernel, rfl⟩
theorem dX7_readTown_5 : DD cX7_readTown 5 (.aload_n 0) 1 6 := ⟨by decide +kernel, rfl⟩
theorem dX7_readTown_6 : DD cX7_readTown 6 (.iconst (-1)) 1 7 := ⟨by decide +kernel, rfl⟩
theorem dX7_readTown_7 : DD cX7_readTown 7 (.putfield 25) 3 10 := ⟨by decide +kernel, rfl⟩
theorem dX7_readTown_10 : DD cX7_readTown 10 (.aload_n 0) 1 11 := ⟨by decide +kernel, rfl⟩
theorem dX7_readTown_11 : DD cX7_readTown 11 (.getfield 12) 3 14 := ⟨by decide +kernel, rfl⟩
theorem dX7_readTown_14 : DD cX7_readTown 14 (.invokevirtual 36) 3 17 := ⟨by decide +kernel, rfl⟩
theorem dX7_readTown_17 : DD cX7_readTown 17 (.aload_n 0) 1 18 := ⟨by decide +kernel, rfl⟩
theorem dX7_readTown_18 : DD cX7_readTown 18 (.getfield 29) 3 21 := ⟨by decide +kernel, rfl⟩
theorem dX7_readTown_21 : DD cX7_readTown 21 (.invokevirtual 39) 3 24 := ⟨by decide +kernel, rfl⟩
theorem dX7_readTown_24 : DD cX7_readTown 24 (.iconst 1) 1 25 := ⟨by decide +kernel, rfl⟩
theorem dX7_readTown_25 : DD cX7_readTown 25 (.istore_n 1) 1 26 := ⟨by decide +kernel, rfl⟩
theorem dX7_readTown_26 : DD cX7_readTown 26 (.iconst 0) 1 27 := ⟨by decide +kernel, rfl⟩
theorem dX7_readTown_27 : DD cX7_readTown 27 (.istore_n 2) 1 28 := ⟨by decide +kernel, rfl⟩
theorem dX7_readTown_28 : DD cX7_readTown 28 (.iload_n 2) 1 29 := ⟨by decide +kernel, rfl⟩
theorem dX7_readTown_29 : DD cX7_readTown 29 (.sipush 1600) 3 32 := ⟨by decide +kernel, rfl⟩
theorem dX7_readTown_32 : DD cX7_readTown 32 (.if_icmp .ge 169) 3 35 := ⟨by decide +kernel, rfl⟩
theorem dX7_readTown_35 : DD cX7_readTown 35 (.iload_n 1) 1 36 := ⟨by decide +kernel, rfl⟩
theorem dX7_readTown_36 : DD cX7_readTown 36 (.ifCond .eq 165) 3 39 := ⟨by decide +kernel, rfl⟩
theorem dX7_readTown_39 : DD cX7_readTown 39 (.aload_n 0) 1 40 := ⟨by decide +kernel, rfl⟩
theorem dX7_readTown_40 : DD cX7_readTown 40 (.getfield 29) 3 43 := ⟨by decide +kernel, rfl⟩
theorem dX7_readTown_43 : DD cX7_readTown 43 (.getfield 44) 3 46 := ⟨by decide +kernel, rfl⟩
theorem dX7_readTown_46 : DD cX7_readTown 46 (.iconst 1) 1 47 := ⟨by decide +kernel, rfl⟩
theorem dX7_readTown_47 : DD cX7_readTown 47 (.if_icmp .eq 154) 3 50 := ⟨by decide +kernel, rfl⟩
theorem dX7_readTown_50 : DD cX7_readTown 50 (.aload_n 0) 1 51 := ⟨by decide +kernel, rfl⟩
theorem dX7_readTown_51 : DD cX7_readTown 51 (.getfield 29) 3 54 := ⟨by decide +kernel, rfl⟩
theorem dX7_readTown_54 : DD cX7_readTown 54 (.getfield 44) 3 57 := ⟨by decide +kernel, rfl⟩
theorem dX7_readTown_57 : DD cX7_readTown 57 (.tableswitch 132 128 135 #[47, 55, 63, 71, 79, 94, 109, 124]) 47 104 := ⟨by decide +kernel, rfl⟩
theorem dX7_readTown_104 : DD cX7_readTown 104 (.aload_n 0) 1 105 := ⟨by decide +kernel, rfl⟩
theorem dX7_readTown_105 : DD cX7_readTown 105 (.invokevirtual 47) 3 108 := ⟨by decide +kernel, rfl⟩
theorem dX7_readTown_108 : DD cX7_readTown 108 (.istore_n 1) 1 109 := ⟨by decide +kernel, rfl⟩
theorem dX7_readTown_109 : DD cX7_readTown 109 (.goto 86) 3 112 := ⟨by decide +kernel, rfl⟩
theorem dX7_readTown_112 : DD cX7_readTown 112 (.aload_n 0) 1 113 := ⟨by decide +kernel, rfl⟩
theorem dX7_readTown_113 : DD cX7_readTown 113 (.invokevirtual 51) 3 116 := ⟨by decide +kernel, rfl⟩
theorem dX7_readTown_116 : DD cX7_readTown 116 (.istore_n 1) 1 117 := ⟨by decide +kernel, rfl⟩
theorem dX7_readTown_117 : DD cX7_readTown 117 (.goto 78) 3 120 := ⟨by decide +kernel, rfl⟩
theorem dX7_readTown_120 : DD cX7_readTown 120 (.aload_n 0) 1 121 := ⟨by decide +kernel, rfl⟩
theorem dX7_readTown_121 : DD cX7_readTown 121 (.invokevirtual 54) 3 124 := ⟨by decide +kernel, rfl⟩
theorem dX7_readTown_124 : DD cX7_readTown 124 (.istore_n 1) 1 125 := ⟨by decide +kernel, rfl⟩
theorem dX7_readTown_125 : DD cX7_readTown 125 (.goto 70) 3 128 := ⟨by decide +kernel, rfl⟩
theorem dX7_readTown_128 : DD cX7_readTown 128 (.aload_n 0) 1 129 := ⟨by decide +kernel, rfl⟩
theorem dX7_readTown_129 : DD cX7_readTown 129 (.invokevirtual 57) 3 132 := ⟨by decide +kernel, rfl⟩
theorem dX7_readTown_132 : DD cX7_readTown 132 (.istore_n 1) 1 133 := ⟨by decide +kernel, rfl⟩
theorem dX7_readTown_133 : DD cX7_readTown 133 (.goto 62) 3 136 := ⟨by decide +kernel, rfl⟩
theorem dX7_readTown_136 : DD cX7_readTown 136 (.aload_n 0) 1 137 := ⟨by decide +kernel, rfl⟩
theorem dX7_readTown_137 : DD cX7_readTown 137 (.aload_n 0) 1 138 := ⟨by decide +kernel, rfl⟩
theorem dX7_readTown_138 : DD cX7_readTown 138 (.getfield 12) 3 141 := ⟨by decide +kernel, rfl⟩
theorem dX7_readTown_141 : DD cX7_readTown 141 (.getfield 18) 3 144 := ⟨by decide +kernel, rfl⟩
theorem dX7_readTown_144 : DD cX7_readTown 144 (.invokevirtual 60) 3 147 := ⟨by decide +kernel, rfl⟩
theorem dX7_readTown_147 : DD cX7_readTown 147 (.istore_n 1) 1 148 := ⟨by decide +kernel, rfl⟩
theorem dX7_readTown_148 : DD cX7_readTown 148 (.goto 47) 3 151 := ⟨by decide +kernel, rfl⟩
theorem dX7_readTown_151 : DD cX7_readTown 151 (.aload_n 0) 1 152 := ⟨by decide +kernel, rfl⟩
theorem dX7_readTown_152 : DD cX7_readTown 152 (.aload_n 0) 1 153 := ⟨by decide +kernel, rfl⟩
theorem dX7_readTown_153 : DD cX7_readTown 153 (.getfield 12) 3 156 := ⟨by decide +kernel, rfl⟩
theorem dX7_readTown_156 : DD cX7_readTown 156 (.getfield 64) 3 159 := ⟨by decide +kernel, rfl⟩
theorem dX7_readTown_159 : DD cX7_readTown 159 (.invokevirtual 60) 3 162 := ⟨by decide +kernel, rfl⟩
theorem dX7_readTown_162 : DD cX7_readTown 162 (.istore_n 1) 1 163 := ⟨by decide +kernel, rfl⟩
theorem dX7_readTown_163 : DD cX7_readTown 163 (.goto 32) 3 166 := ⟨by decide +kernel, rfl⟩
theorem dX7_readTown_166 : DD cX7_readTown 166 (.aload_n 0) 1 167 := ⟨by decide +kernel, rfl⟩
theorem dX7_readTown_167 : DD cX7_readTown 167 (.aload_n 0) 1 168 := ⟨by decide +kernel, rfl⟩
theorem dX7_readTown_168 : DD cX7_readTown 168 (.getfield 12) 3 171 := ⟨by decide +kernel, rfl⟩
theorem dX7_readTown_171 : DD cX7_readTown 171 (.getfield 67) 3 174 := ⟨by decide +kernel, rfl⟩
theorem dX7_readTown_174 : DD cX7_readTown 174 (.invokevirtual 60) 3 177 := ⟨by decide +kernel, rfl⟩
theorem dX7_readTown_177 : DD cX7_readTown 177 (.istore_n 1) 1 178 := ⟨by decide +kernel, rfl⟩
theorem dX7_readTown_178 : DD cX7_readTown 178 (.goto 17) 3 181 := ⟨by decide +kernel, rfl⟩
theorem dX7_readTown_181 : DD cX7_readTown 181 (.aload_n 0) 1 182 := ⟨by decide +kernel, rfl⟩
theorem dX7_readTown_182 : DD cX7_readTown 182 (.invokevirtual 70) 3 185 := ⟨by decide +kernel, rfl⟩
theorem dX7_readTown_185 : DD cX7_readTown 185 (.istore_n 1) 1 186 := ⟨by decide +kernel, rfl⟩
theorem dX7_readTown_186 : DD cX7_readTown 186 (.goto 9) 3 189 := ⟨by decide +kernel, rfl⟩
theorem dX7_readTown_189 : DD cX7_readTown 189 (.aload_n 0) 1 190 := ⟨by decide +kernel, rfl⟩
theorem dX7_readTown_190 : DD cX7_readTown 190 (.iconst 2) 1 191 := ⟨by decide +kernel, rfl⟩
theorem dX7_readTown_191 : DD cX7_readTown 191 (.invokevirtual 73) 3 194 := ⟨by decide +kernel, rfl⟩
theorem dX7_readTown_194 : DD cX7_readTown 194 (.istore_n 1) 1 195 := ⟨by decide +kernel, rfl⟩
theorem dX7_readTown_195 : DD cX7_readTown 195 (.iinc 2 1) 3 198 := ⟨by decide +kernel, rfl⟩
theorem dX7_readTown_198 : DD cX7_readTown 198 (.goto (-170)) 3 201 := ⟨by decide +kernel, rfl⟩
theorem dX7_readTown_201 : DD cX7_readTown 201 (.iload_n 1) 1 202 := ⟨by decide +kernel, rfl⟩
theorem dX7_readTown_202 : DD cX7_readTown 202 (.ireturn) 1 203 := ⟨by decide +kernel, rfl⟩
def gX7_readTown : Nat → Int32 → Int32 → Mem → Option (Int32 × Mem)
  | 0, _, _, _ => none
  | f + 1, x1, x2, m => (if (1600 : Int32) ≤ x2 then (tz x1 (some (x1, m))) else (if x1 = 0 then (tz x1 (some (x1, m))) else (if (m.1 1 4) = (1 : Int32) then (tz x1 (some (x1, m))) else (if (m.1 1 4) = (128 : Int32) then (cI (fX7_readPerson m) fun r5 m6 => (gX7_readTown f r5 (x2 + (1 : Int32)) m6)) else (if (m.1 1 4) = (129 : Int32) then (cI (fX7_readMeet m) fun r8 m9 => (gX7_readTown f r8 (x2 + (1 : Int32)) m9)) else (if (m.1 1 4) = (130 : Int32) then (cI (fX7_readNoise m) fun r11 m12 => (gX7_readTown f r11 (x2 + (1 : Int32)) m12)) else (if (m.1 1 4) = (131 : Int32) then (cI (fX7_readWakeful m) fun r14 m15 => (gX7_readTown f r14 (x2 + (1 : Int32)) m15)) else (if (m.1 1 4) = (132 : Int32) then (gPl (m.2.2 4 1) (cI (fX7_readFormula m ((m.2.2 4 1) + 12)) fun r18 m19 => (gX7_readTown f r18 (x2 + (1 : Int32)) m19))) else (if (m.1 1 4) = (133 : Int32) then (gPl (m.2.2 4 1) (cI (fX7_readFormula m ((m.2.2 4 1) + 15)) fun r22 m23 => (gX7_readTown f r22 (x2 + (1 : Int32)) m23))) else (if (m.1 1 4) = (134 : Int32) then (gPl (m.2.2 4 1) (cI (fX7_readFormula m ((m.2.2 4 1) + 18)) fun r26 m27 => (gX7_readTown f r26 (x2 + (1 : Int32)) m27))) else (if (m.1 1 4) = (135 : Int32) then (cI (fX7_readDate m) fun r29 m30 => (gX7_readTown f r29 (x2 + (1 : Int32)) m30)) else (cI (fX7_refuse m (2 : Int32)) fun r31 m32 => (gX7_readTown f r31 (x2 + (1 : Int32)) m32)))))))))))))
def fX7_readTown (m : Mem) : Option (Int32 × Mem) := (pt (sI m 4 4 (0 : Int32)) fun m1 => (pt (sI m1 4 5 (-1 : Int32)) fun m2 => (gPl (m2.2.2 4 1) (cV (fX6_clear m2 (m2.2.2 4 1)) fun m5 => (cV (fX10_open m5) fun m7 => (gX7_readTown 5000 (1 : Int32) (0 : Int32) m7))))))
set_option maxHeartbeats 4000000 in
set_option maxRecDepth 100000 in
theorem wX7_readTown {X : Cx} {G : Gt} (h : OkX (X, G, wC, nC) cX7_readTown RX7 3 (some .boolean) 102) : ∀ f : Nat, (∀ (x1 : Int32) (x2 : Int32) (m : Mem), JR (X, G, wC, nC) cvI m 28 [some (.ref (G.2.2 4)), some (.int x1), some (.int x2)] [] (gX7_readTown f x1 x2 m)) := by
  intro f
  induction f with
  | zero => exact (fun _ _ _ => j_none)
  | succ f ih =>
    intro x1 x2 m
    rw [gX7_readTown]
    refine j_iload_n h dX7_readTown_28 rfl ?_
    refine j_sipush (v := (1600 : Int32)) h dX7_readTown_29 ksipush_1600 ?_
    refine j_icmp_ge (tgt := 201) h dX7_readTown_32 (by decide) (fun c1 => ?_) (fun c1 => ?_)
    · refine j_iload_n h dX7_readTown_201 rfl ?_
      exact j_zret h rfl dX7_readTown_202
    · refine j_iload_n h dX7_readTown_35 rfl ?_
      refine j_if_eq (tgt := 201) h dX7_readTown_36 (by decide) (fun c2 => ?_) (fun c2 => ?_)
      · refine j_iload_n h dX7_readTown_201 rfl ?_
        exact j_zret h rfl dX7_readTown_202
      · refine j_aload_n h dX7_readTown_39 rfl ?_
        refine gC7_29 h dX7_readTown_40 ?_
        refine gC7_44 h dX7_readTown_43 ?_
        refine j_iconst (v := (1 : Int32)) h dX7_readTown_46 kiconst_1 ?_
        refine j_icmp_eq (tgt := 201) h dX7_readTown_47 (by decide) (fun c3 => ?_) (fun c3 => ?_)
        · refine j_iload_n h dX7_readTown_201 rfl ?_
          exact j_zret h rfl dX7_readTown_202
        · refine j_aload_n h dX7_readTown_50 rfl ?_
          refine gC7_29 h dX7_readTown_51 ?_
          refine gC7_44 h dX7_readTown_54 ?_
          by_cases c4 : (m.1 1 4) = (128 : Int32)
          · rw [if_pos c4]
            refine j_tabIn (off := 47) (tgt := 104) h c4 dX7_readTown_57 (by decide) (by decide) (by decide) (by decide) ?_
            refine j_aload_n h dX7_readTown_104 rfl ?_
            refine j_callVI (q0 := 4) (ci := 7) h [] (kX7_readPerson _ G h.2.2.2.2.2.2.2.2.2.2 m) okX7_readPerson inX7_readPerson ml7_47 rfl rfl rfl rfl (by decide) (by decide) (Nat.le_of_ble_eq_true rfl) rfl dX7_readTown_105 (fun r5 m6 hr5 => ?_)
            refine j_istore_n h dX7_readTown_108 rfl rfl ?_
            refine j_goto (tgt := 195) h dX7_readTown_109 (by decide) ?_
            refine j_iinc (v := (x2 + (1 : Int32))) h dX7_readTown_195 rfl (by rw [kiconst_1]) rfl ?_
            refine j_goto (tgt := 28) h dX7_readTown_198 (by decide) ?_
            refine j_wk (ls' := [some (.ref (G.2.2 4)), some (.int r5), some (.int (x2 + (1 : Int32)))]) (And.intro rfl (And.intro rfl (And.intro rfl trivial))) ?_
            exact ih r5 (x2 + (1 : Int32)) m6
          · rw [if_neg c4]
            by_cases c7 : (m.1 1 4) = (129 : Int32)
            · rw [if_pos c7]
              refine j_tabIn (off := 55) (tgt := 112) h c7 dX7_readTown_57 (by decide) (by decide) (by decide) (by decide) ?_
              refine j_aload_n h dX7_readTown_112 rfl ?_
              refine j_callVI (q0 := 4) (ci := 7) h [] (kX7_readMeet _ G h.2.2.2.2.2.2.2.2.2.2 m) okX7_readMeet inX7_readMeet ml7_51 rfl rfl rfl rfl (by decide) (by decide) (Nat.le_of_ble_eq_true rfl) rfl dX7_readTown_113 (fun r8 m9 hr8 => ?_)
              refine j_istore_n h dX7_readTown_116 rfl rfl ?_
              refine j_goto (tgt := 195) h dX7_readTown_117 (by decide) ?_
              refine j_iinc (v := (x2 + (1 : Int32))) h dX7_readTown_195 rfl (by rw [kiconst_1]) rfl ?_
              refine j_goto (tgt := 28) h dX7_readTown_198 (by decide) ?_
              refine j_wk (ls' := [some (.ref (G.2.2 4)), some (.int r8), some (.int (x2 + (1 : Int32)))]) (And.intro rfl (And.intro rfl (And.intro rfl trivial))) ?_
              exact ih r8 (x2 + (1 : Int32)) m9
            · rw [if_neg c7]
              by_cases c10 : (m.1 1 4) = (130 : Int32)
              · rw [if_pos c10]
                refine j_tabIn (off := 63) (tgt := 120) h c10 dX7_readTown_57 (by decide) (by decide) (by decide) (by decide) ?_
                refine j_aload_n h dX7_readTown_120 rfl ?_
                refine j_callVI (q0 := 4) (ci := 7) h [] (kX7_readNoise _ G h.2.2.2.2.2.2.2.2.2.2 m) okX7_readNoise inX7_readNoise ml7_54 rfl rfl rfl rfl (by decide) (by decide) (Nat.le_of_ble_eq_true rfl) rfl dX7_readTown_121 (fun r11 m12 hr11 => ?_)
                refine j_istore_n h dX7_readTown_124 rfl rfl ?_
                refine j_goto (tgt := 195) h dX7_readTown_125 (by decide) ?_
                refine j_iinc (v := (x2 + (1 : Int32))) h dX7_readTown_195 rfl (by rw [kiconst_1]) rfl ?_
                refine j_goto (tgt := 28) h dX7_readTown_198 (by decide) ?_
                refine j_wk (ls' := [some (.ref (G.2.2 4)), some (.int r11), some (.int (x2 + (1 : Int32)))]) (And.intro rfl (And.intro rfl (And.intro rfl trivial))) ?_
                exact ih r11 (x2 + (1 : Int32)) m12
              · rw [if_neg c10]
                by_cases c13 : (m.1 1 4) = (131 : Int32)
                · rw [if_pos c13]
                  refine j_tabIn (off := 71) (tgt := 128) h c13 dX7_readTown_57 (by decide) (by decide) (by decide) (by decide) ?_
                  refine j_aload_n h dX7_readTown_128 rfl ?_
                  refine j_callVI (q0 := 4) (ci := 7) h [] (kX7_readWakeful _ G h.2.2.2.2.2.2.2.2.2.2 m) okX7_readWakeful inX7_readWakeful ml7_57 rfl rfl rfl rfl (by decide) (by decide) (Nat.le_of_ble_eq_true rfl) rfl dX7_readTown_129 (fun r14 m15 hr14 => ?_)
                  refine j_istore_n h dX7_readTown_132 rfl rfl ?_
                  refine j_goto (tgt := 195) h dX7_readTown_133 (by decide) ?_
                  refine j_iinc (v := (x2 + (1 : Int32))) h dX7_readTown_195 rfl (by rw [kiconst_1]) rfl ?_
                  refine j_goto (tgt := 28) h dX7_readTown_198 (by decide) ?_
                  refine j_wk (ls' := [some (.ref (G.2.2 4)), some (.int r14), some (.int (x2 + (1 : Int32)))]) (And.intro rfl (And.intro rfl (And.intro rfl trivial))) ?_
                  exact ih r14 (x2 + (1 : Int32)) m15
                · rw [if_neg c13]
                  by_cases c16 : (m.1 1 4) = (132 : Int32)
                  · rw [if_pos c16]
                    refine j_tabIn (off := 79) (tgt := 136) h c16 dX7_readTown_57 (by decide) (by decide) (by decide) (by decide) ?_
                    refine j_aload_n h dX7_readTown_136 rfl ?_
                    refine j_aload_n h dX7_readTown_137 rfl ?_
                    refine gC7_12 h dX7_readTown_138 ?_
                    refine j_gPl (fun hg17 => ?_)
                    refine gC7_18 h hg17 dX7_readTown_141 ?_
                    refine j_callVI (q0 := 4) (ci := 7) h [.ref (G.2.2 ((m.2.2 4 1) + 12))] (kX7_readFormula _ G h.2.2.2.2.2.2.2.2.2.2 m ((m.2.2 4 1) + 12)) okX7_readFormula inX7_readFormula ml7_60 rfl rfl rfl rfl (by decide) (by decide) (Nat.le_of_ble_eq_true rfl) rfl dX7_readTown_144 (fun r18 m19 hr18 => ?_)
                    refine j_istore_n h dX7_readTown_147 rfl rfl ?_
                    refine j_goto (tgt := 195) h dX7_readTown_148 (by decide) ?_
                    refine j_iinc (v := (x2 + (1 : Int32))) h dX7_readTown_195 rfl (by rw [kiconst_1]) rfl ?_
                    refine j_goto (tgt := 28) h dX7_readTown_198 (by decide) ?_
                    refine j_wk (ls' := [some (.ref (G.2.2 4)), some (.int r18), some (.int (x2 + (1 : Int32)))]) (And.intro rfl (And.intro rfl (And.intro rfl trivial))) ?_
                    exact ih r18 (x2 + (1 : Int32)) m19
                  · rw [if_neg c16]
                    by_cases c20 : (m.1 1 4) = (133 : Int32)
                    · rw [if_pos c20]
                      refine j_tabIn (off := 94) (tgt := 151) h c20 dX7_readTown_57 (by decide) (by decide) (by decide) (by decide) ?_
                      refine j_aload_n h dX7_readTown_151 rfl ?_
                      refine j_aload_n h dX7_readTown_152 rfl ?_
                      refine gC7_12 h dX7_readTown_153 ?_
                      refine j_gPl (fun hg21 => ?_)
                      refine gC7_64 h hg21 dX7_readTown_156 ?_
                      refine j_callVI (q0 := 4) (ci := 7) h [.ref (G.2.2 ((m.2.2 4 1) + 15))] (kX7_readFormula _ G h.2.2.2.2.2.2.2.2.2.2 m ((m.2.2 4 1) + 15)) okX7_readFormula inX7_readFormula ml7_60 rfl rfl rfl rfl (by decide) (by decide) (Nat.le_of_ble_eq_true rfl) rfl dX7_readTown_159 (fun r22 m23 hr22 => ?_)
                      refine j_istore_n h dX7_readTown_162 rfl rfl ?_
                      refine j_goto (tgt := 195) h dX7_readTown_163 (by decide) ?_
                      refine j_iinc (v := (x2 + (1 : Int32))) h dX7_readTown_195 rfl (by rw [kiconst_1]) rfl ?_
                      refine j_goto (tgt := 28) h dX7_readTown_198 (by decide) ?_
                      refine j_wk (ls' := [some (.ref (G.2.2 4)), some (.int r22), some (.int (x2 + (1 : Int32)))]) (And.intro rfl (And.intro rfl (And.intro rfl trivial))) ?_
                      exact ih r22 (x2 + (1 : Int32)) m23
                    · rw [if_neg c20]
                      by_cases c24 : (m.1 1 4) = (134 : Int32)
                      · rw [if_pos c24]
                        refine j_tabIn (off := 109) (tgt := 166) h c24 dX7_readTown_57 (by decide) (by decide) (by decide) (by decide) ?_
                        refine j_aload_n h dX7_readTown_166 rfl ?_
                        refine j_aload_n h dX7_readTown_167 rfl ?_
                        refine gC7_12 h dX7_readTown_168 ?_
                        refine j_gPl (fun hg25 => ?_)
                        refine gC7_67 h hg25 dX7_readTown_171 ?_
                        refine j_callVI (q0 := 4) (ci := 7) h [.ref (G.2.2 ((m.2.2 4 1) + 18))] (kX7_readFormula _ G h.2.2.2.2.2.2.2.2.2.2 m ((m.2.2 4 1) + 18)) okX7_readFormula inX7_readFormula ml7_60 rfl rfl rfl rfl (by decide) (by decide) (Nat.le_of_ble_eq_true rfl) rfl dX7_readTown_174 (fun r26 m27 hr26 => ?_)
                        refine j_istore_n h dX7_readTown_177 rfl rfl ?_
                        refine j_goto (tgt := 195) h dX7_readTown_178 (by decide) ?_
                        refine j_iinc (v := (x2 + (1 : Int32))) h dX7_readTown_195 rfl (by rw [kiconst_1]) rfl ?_
                        refine j_goto (tgt := 28) h dX7_readTown_198 (by decide) ?_
                        refine j_wk (ls' := [some (.ref (G.2.2 4)), some (.int r26), some (.int (x2 + (1 : Int32)))]) (And.intro rfl (And.intro rfl (And.intro rfl trivial))) ?_
                        exact ih r26 (x2 + (1 : Int32)) m27
                      · rw [if_neg c24]
                        by_cases c28 : (m.1 1 4) = (135 : Int32)
                        · rw [if_pos c28]
                          refine j_tabIn (off := 124) (tgt := 181) h c28 dX7_readTown_57 (by decide) (by decide) (by decide) (by decide) ?_
                          refine j_aload_n h dX7_readTown_181 rfl ?_
                          refine j_callVI (q0 := 4) (ci := 7) h [] (kX7_readDate _ G h.2.2.2.2.2.2.2.2.2.2 m) okX7_readDate inX7_readDate ml7_70 rfl rfl rfl rfl (by decide) (by decide) (Nat.le_of_ble_eq_true rfl) rfl dX7_readTown_182 (fun r29 m30 hr29 => ?_)
                          refine j_istore_n h dX7_readTown_185 rfl rfl ?_
                          refine j_goto (tgt := 195) h dX7_readTown_186 (by decide) ?_
                          refine j_iinc (v := (x2 + (1 : Int32))) h dX7_readTown_195 rfl (by rw [kiconst_1]) rfl ?_
                          refine j_goto (tgt := 28) h dX7_readTown_198 (by decide) ?_
                          refine j_wk (ls' := [some (.ref (G.2.2 4)), some (.int r29), some (.int (x2 + (1 : Int32)))]) (And.intro rfl (And.intro rfl (And.intro rfl trivial))) ?_
                          exact ih r29 (x2 + (1 : Int32)) m30
                        · rw [if_neg c28]
                          refine j_tabOut (tgt := 189) h [(128 : Int32), (129 : Int32), (130 : Int32), (131 : Int32), (132 : Int32), (133 : Int32), (134 : Int32), (135 : Int32)] dX7_readTown_57 (by intro v hv; simp only [List.mem_cons, List.not_mem_nil, or_false] at hv; rcases hv with rfl | rfl | rfl | rfl | rfl | rfl | rfl | rfl <;> assumption) (by decide) (by decide) (by decide) ?_
                          refine j_aload_n h dX7_readTown_189 rfl ?_
                          refine j_iconst (v := (2 : Int32)) h dX7_readTown_190 kiconst_2 ?_
                          refine j_callVI (q0 := 4) (ci := 7) h [.int (2 : Int32)] (kX7_refuse _ G h.2.2.2.2.2.2.2.2.2.2 m (2 : Int32)) okX7_refuse inX7_refuse ml7_73 rfl rfl rfl rfl (by decide) (by decide) (Nat.le_of_ble_eq_true rfl) rfl dX7_readTown_191 (fun r31 m32 hr31 => ?_)
                          refine j_istore_n h dX7_readTown_194 rfl rfl ?_
                          refine j_iinc (v := (x2 + (1 : Int32))) h dX7_readTown_195 rfl (by rw [kiconst_1]) rfl ?_
                          refine j_goto (tgt := 28) h dX7_readTown_198 (by decide) ?_
                          refine j_wk (ls' := [some (.ref (G.2.2 4)), some (.int r31), some (.int (x2 + (1 : Int32)))]) (And.intro rfl (And.intro rfl (And.intro rfl trivial))) ?_
                          exact ih r31 (x2 + (1 : Int32)) m32
set_option maxHeartbeats 4000000 in
set_option maxRecDepth 100000 in
theorem kX7_readTown (l : Launch) (G : Gt) (hD : ∀ m, va_D (inA G nC) (wC G m)) (m : Mem) : ∀ a, fX7_readTown m = some a → Ct l G wC nC yX7_readTown cX7_readTown 3 (some .boolean) 102 [.ref (G.2.2 4)] m (cvI a) := by
  refine ct_of (own := RX7) (ls0 := [some (.ref (G.2.2 4)), none, none]) (by decide) rfl rfl rfl (Nat.le_of_ble_eq_true rfl) hD (fun X h => ?_) l
  unfold fX7_readTown
  refine j_aload_n h dX7_readTown_0 rfl ?_
  refine j_iconst (v := (0 : Int32)) h dX7_readTown_1 kiconst_0 ?_
  refine pC7_33 h dX7_readTown_2 (fun m1 hm1 => ?_)
  refine j_aload_n h dX7_readTown_5 rfl ?_
  refine j_iconst (v := (-1 : Int32)) h dX7_readTown_6 kiconst_m1 ?_
  refine pC7_25 h dX7_readTown_7 (fun m2 hm2 => ?_)
  refine j_aload_n h dX7_readTown_10 rfl ?_
  refine gC7_12 h dX7_readTown_11 ?_
  refine j_gPl (fun hg3 => ?_)
  refine j_callVV (q0 := (m2.2.2 4 1)) (ci := 6) h [] (kX6_clear _ G h.2.2.2.2.2.2.2.2.2.2 m2 (m2.2.2 4 1)) okX6_clear inX6_clear ml7_36 rfl (at_Pl hg3) rfl rfl (by decide) (by decide) (Nat.le_of_ble_eq_true rfl) rfl dX7_readTown_14 (fun m5 hm5 => ?_)
  refine j_aload_n h dX7_readTown_17 rfl ?_
  refine gC7_29 h dX7_readTown_18 ?_
  refine j_callVV (q0 := 1) (ci := 10) h [] (kX10_open _ G h.2.2.2.2.2.2.2.2.2.2 m5) okX10_open inX10_open ml7_39 rfl rfl rfl rfl (by decide) (by decide) (Nat.le_of_ble_eq_true rfl) rfl dX7_readTown_21 (fun m7 hm7 => ?_)
  refine j_iconst (v := (1 : Int32)) h dX7_readTown_24 kiconst_1 ?_
  refine j_istore_n h dX7_readTown_25 rfl rfl ?_
  refine j_iconst (v := (0 : Int32)) h dX7_readTown_26 kiconst_0 ?_
  refine j_istore_n h dX7_readTown_27 rfl rfl ?_
  refine j_wk (ls' := [some (.ref (G.2.2 4)), some (.int (1 : Int32)), some (.int (0 : Int32))]) (And.intro rfl (And.intro rfl (And.intro rfl trivial))) ?_
  exact (wX7_readTown h 5000) (1 : Int32) (0 : Int32) m7
theorem dX8_begin_0 : DD cX8_begin 0 (.aload_n 1) 1 1 := ⟨by decide +kernel, rfl⟩
theorem dX8_begin_1 : DD cX8_begin 1 (.getfield 24) 3 4 := ⟨by decide +kernel, rfl⟩
theorem dX8_begin_4 : DD cX8_begin 4 (.iconst 0) 1 5 := ⟨by decide +kernel, rfl⟩
theorem dX8_begin_5 : DD cX8_begin 5 (.aload_n 0) 1 6 := ⟨by decide +kernel, rfl⟩
theorem dX8_begin_6 : DD cX8_begin 6 (.getfield 9) 3 9 := ⟨by decide +kernel, rfl⟩
theorem dX8_begin_9 : DD cX8_begin 9 (.iconst 0) 1 10 := ⟨by decide +kernel, rfl⟩
theorem dX8_begin_10 : DD cX8_begin 10 (.bipush 7) 2 12 := ⟨by decide +kernel, rfl⟩
theorem dX8_begin_12 : DD cX8_begin 12 (.invokestatic 25) 3 15 := ⟨by decide +kernel, rfl⟩
theorem dX8_begin_15 : DD cX8_begin 15 (.aload_n 0) 1 16 := ⟨by decide +kernel, rfl⟩
theorem dX8_begin_16 : DD cX8_begin 16 (.getfield 15) 3 19 := ⟨by decide +kernel, rfl⟩
theorem dX8_begin_19 : DD cX8_begin 19 (.iconst 0) 1 20 := ⟨by decide +kernel, rfl⟩
theorem dX8_begin_20 : DD cX8_begin 20 (.invokestatic 31) 3 23 := ⟨by decide +kernel, rfl⟩
theorem dX8_begin_23 : DD cX8_begin 23 (.aload_n 0) 1 24 := ⟨by decide +kernel, rfl⟩
theorem dX8_begin_24 : DD cX8_begin 24 (.getfield 18) 3 27 := ⟨by decide +kernel, rfl⟩
theorem dX8_begin_27 : DD cX8_begin 27 (.iconst 0) 1 28 := ⟨by decide +kernel, rfl⟩
theorem dX8_begin_28 : DD cX8_begin 28 (.invokestatic 31) 3 31 := ⟨by decide +kernel, rfl⟩
theorem dX8_begin_31 : DD cX8_begin 31 (.aload_n 0) 1 32 := ⟨by decide +kernel, rfl⟩
theorem dX8_begin_32 : DD cX8_begin 32 (.getfield 21) 3 35 := ⟨by decide +kernel, rfl⟩
theorem dX8_begin_35 : DD cX8_begin 35 (.iconst 0) 1 36 := ⟨by decide +kernel, rfl⟩
theorem dX8_begin_36 : DD cX8_begin 36 (.invokestatic 31) 3 39 := ⟨by decide +kernel, rfl⟩
theorem dX8_begin_39 : DD cX8_begin 39 (.aload_n 0) 1 40 := ⟨by decide +kernel, rfl⟩
theorem dX8_begin_40 : DD cX8_begin 40 (.iconst 0) 1 41 := ⟨by decide +kernel, rfl⟩
theorem dX8_begin_41 : DD cX8_begin 41 (.putfield 37) 3 44 := ⟨by decide +kernel, rfl⟩
theorem dX8_begin_44 : DD cX8_begin 44 (.aload_n 0) 1 45 := ⟨by decide +kernel, rfl⟩
theorem dX8_begin_45 : DD cX8_begin 45 (.iconst 0) 1 46 := ⟨by decide +kernel, rfl⟩
theorem dX8_begin_46 : DD cX8_begin 46 (.putfield 41) 3 49 := ⟨by decide +kernel, rfl⟩
theorem dX8_begin_49 : DD cX8_begin 49 (.aload_n 0) 1 50 := ⟨by decide +kernel, rfl⟩
theorem dX8_begin_50 : DD cX8_begin 50 (.aload_n 1) 1 51 := ⟨by decide +kernel, rfl⟩
theorem dX8_begin_51 : DD cX8_begin 51 (.getfield 44) 3 54 := ⟨by decide +kernel, rfl⟩
theorem dX8_begin_54 : DD cX8_begin 54 (.iconst 0) 1 55 := ⟨by decide +kernel, rfl⟩
theorem dX8_begin_55 : DD cX8_begin 55 (.invokestatic 47) 3 58 := ⟨by decide +kernel, rfl⟩
theorem dX8_begin_58 : DD cX8_begin 58 (.putfield 53) 3 61 := ⟨by decide +kernel, rfl⟩
theorem dX8_begin_61 : DD cX8_begin 61 (.return_) 1 62 := ⟨by decide +kernel, rfl⟩
def fX8_begin (m : Mem) (x1 : Nat) : Option Mem := (gPl x1 (cpy m (x1 + 3) 7 28 7 (0 : Int32) (0 : Int32) (7 : Int32) fun m2 => (pt (fil m2 29 7 (0 : Int32)) fun m3 => (pt (fil m3 30 10 (0 : Int32)) fun m4 => (pt (fil m4 31 10 (0 : Int32)) fun m5 => (pt (sI m5 27 4 (0 : Int32)) fun m6 => (pt (sI m6 27 5 (0 : Int32)) fun m7 => (pt (sI m7 27 6 (imax (m7.1 x1 14) (0 : Int32))) fun m8 => (some m8)))))))))
set_option maxHeartbeats 4000000 in
set_option maxRecDepth 100000 in
theorem kX8_begin (l : Launch) (G : Gt) (hD : ∀ m, va_D (inA G nC) (wC G m)) (m : Mem) (x1 : Nat) : ∀ a, fX8_begin m x1 = some a → Ct l G wC nC yX8_begin cX8_begin 2 none 2 [.ref (G.2.2 27), .ref (G.2.2 x1)] m (cvV a) := by
  refine ct_of (own := RX8) (ls0 := [some (.ref (G.2.2 27)), some (.ref (G.2.2 x1))]) (by decide) rfl rfl rfl (Nat.le_of_ble_eq_true rfl) hD (fun X h => ?_) l
  unfold fX8_begin
  refine j_aload_n h dX8_begin_0 rfl ?_
  refine j_gPl (fun hg1 => ?_)
  refine gC8_24 h hg1 dX8_begin_1 ?_
  refine j_iconst (v := (0 : Int32)) h dX8_begin_4 kiconst_0 ?_
  refine j_aload_n h dX8_begin_5 rfl ?_
  refine gC8_9 h dX8_begin_6 ?_
  refine j_iconst (v := (0 : Int32)) h dX8_begin_9 kiconst_0 ?_
  refine j_bipush (v := (7 : Int32)) h dX8_begin_10 kbipush_7 ?_
  refine j_copy (q0 := (x1 + 3)) (q1 := 28) h ml8_25 (at_Pl3 hg1) (at_28) (se_28) (Nat.le_of_ble_eq_true rfl) rfl (by decide) dX8_begin_12 (fun m2 hm2 => ?_)
  refine j_aload_n h dX8_begin_15 rfl ?_
  refine gC8_15 h dX8_begin_16 ?_
  refine j_iconst (v := (0 : Int32)) h dX8_begin_19 kiconst_0 ?_
  refine j_fill (q := 29) h ml8_31 (at_29) (se_29) (by decide) (Nat.le_of_ble_eq_true rfl) rfl (by decide) dX8_begin_20 (fun m3 hm3 => ?_)
  refine j_aload_n h dX8_begin_23 rfl ?_
  refine gC8_18 h dX8_begin_24 ?_
  refine j_iconst (v := (0 : Int32)) h dX8_begin_27 kiconst_0 ?_
  refine j_fill (q := 30) h ml8_31 (at_30) (se_30) (by decide) (Nat.le_of_ble_eq_true rfl) rfl (by decide) dX8_begin_28 (fun m4 hm4 => ?_)
  refine j_aload_n h dX8_begin_31 rfl ?_
  refine gC8_21 h dX8_begin_32 ?_
  refine j_iconst (v := (0 : Int32)) h dX8_begin_35 kiconst_0 ?_
  refine j_fill (q := 31) h ml8_31 (at_31) (se_31) (by decide) (Nat.le_of_ble_eq_true rfl) rfl (by decide) dX8_begin_36 (fun m5 hm5 => ?_)
  refine j_aload_n h dX8_begin_39 rfl ?_
  refine j_iconst (v := (0 : Int32)) h dX8_begin_40 kiconst_0 ?_
  refine pC8_37 h dX8_begin_41 (fun m6 hm6 => ?_)
  refine j_aload_n h dX8_begin_44 rfl ?_
  refine j_iconst (v := (0 : Int32)) h dX8_begin_45 kiconst_0 ?_
  refine pC8_41 h dX8_begin_46 (fun m7 hm7 => ?_)
  refine j_aload_n h dX8_begin_49 rfl ?_
  refine j_aload_n h dX8_begin_50 rfl ?_
  refine gC8_44 h hg1 dX8_begin_51 ?_
  refine j_iconst (v := (0 : Int32)) h dX8_begin_54 kiconst_0 ?_
  refine j_mmax h ml8_47 (Nat.le_of_ble_eq_true rfl) rfl (by decide) dX8_begin_55 ?_
  refine pC8_53 h dX8_begin_58 (fun m8 hm8 => ?_)
  exact j_vret h rfl dX8_begin_61
theorem dX9_settle_0 : DD cX9_settle 0 (.aload_n 0) 1 1 := ⟨by decide +kernel, rfl⟩
theorem dX9_settle_1 : DD cX9_settle 1 (.aload_n 1) 1 2 := ⟨by decide +kernel, rfl⟩
theorem dX9_settle_2 : DD cX9_settle 2 (.putfield 21) 3 5 := ⟨by decide +kernel, rfl⟩
theorem dX9_settle_5 : DD cX9_settle 5 (.aload_n 0) 1 6 := ⟨by decide +kernel, rfl⟩
theorem dX9_settle_6 : DD cX9_settle 6 (.getfield 28) 3 9 := ⟨by decide +kernel, rfl⟩
theorem dX9_settle_9 : DD cX9_settle 9 (.iconst (-1)) 1 10 := ⟨by decide +kernel, rfl⟩
theorem dX9_settle_10 : DD cX9_settle 10 (.putfield 36) 3 13 := ⟨by decide +kernel, rfl⟩
theorem dX9_settle_13 : DD cX9_settle 13 (.aload_n 0) 1 14 := ⟨by decide +kernel, rfl⟩
theorem dX9_settle_14 : DD cX9_settle 14 (.getfield 32) 3 17 := ⟨by decide +kernel, rfl⟩
theorem dX9_settle_17 : DD cX9_settle 17 (.iconst 0) 1 18 := ⟨by decide +kernel, rfl⟩
theorem dX9_settle_18 : DD cX9_settle 18 (.invokestatic 40) 3 21 := ⟨by decide +kernel, rfl⟩
theorem dX9_settle_21 : DD cX9_settle 21 (.aload_n 0) 1 22 := ⟨by decide +kernel, rfl⟩
theorem dX9_settle_22 : DD cX9_settle 22 (.getfield 14) 3 25 := ⟨by decide +kernel, rfl⟩
theorem dX9_settle_25 : DD cX9_settle 25 (.aload_n 1) 1 26 := ⟨by decide +kernel, rfl⟩
theorem dX9_settle_26 : DD cX9_settle 26 (.invokevirtual 46) 3 29 := ⟨by decide +kernel, rfl⟩
theorem dX9_settle_29 : DD cX9_settle 29 (.return_) 1 30 := ⟨by decide +kernel, rfl⟩
def fX9_settle (m : Mem) (x1 : Nat) : Option Mem := (pt (sR m 26 1 x1) fun m1 => (pt (sI m1 53 0 (-1 : Int32)) fun m2 => (pt (fil m2 55 365 (0 : Int32)) fun m3 => (cV (fX8_begin m3 x1) fun m5 => (some m5)))))
set_option maxHeartbeats 4000000 in
set_option maxRecDepth 100000 in
theorem kX9_settle (l : Launch) (G : Gt) (hD : ∀ m, va_D (inA G nC) (wC G m)) (m : Mem) (x1 : Nat) : ∀ a, fX9_settle m x1 = some a → Ct l G wC nC yX9_settle cX9_settle 2 none 3 [.ref (G.2.2 26), .ref (G.2.2 x1)] m (cvV a) := by
  refine ct_of (own := RX9) (ls0 := [some (.ref (G.2.2 26)), some (.ref (G.2.2 x1))]) (by decide) rfl rfl rfl (Nat.le_of_ble_eq_true rfl) hD (fun X h => ?_) l
  unfold fX9_settle
  refine j_aload_n h dX9_settle_0 rfl ?_
  refine j_aload_n h dX9_settle_1 rfl ?_
  refine pC9_21 h dX9_settle_2 (fun m1 hm1 => ?_)
  refine j_aload_n h dX9_settle_5 rfl ?_
  refine gC9_28 h dX9_settle_6 ?_
  refine j_iconst (v := (-1 : Int32)) h dX9_settle_9 kiconst_m1 ?_
  refine pC9_36 h dX9_settle_10 (fun m2 hm2 => ?_)
  refine j_aload_n h dX9_settle_13 rfl ?_
  refine gC9_32 h dX9_settle_14 ?_
  refine j_iconst (v := (0 : Int32)) h dX9_settle_17 kiconst_0 ?_
  refine j_fill (q := 55) h ml9_40 (at_55) (se_55) (by decide) (Nat.le_of_ble_eq_true rfl) rfl (by decide) dX9_settle_18 (fun m3 hm3 => ?_)
  refine j_aload_n h dX9_settle_21 rfl ?_
  refine gC9_14 h dX9_settle_22 ?_
  refine j_aload_n h dX9_settle_25 rfl ?_
  refine j_callVV (q0 := 27) (ci := 8) h [.ref (G.2.2 x1)] (kX8_begin _ G h.2.2.2.2.2.2.2.2.2.2 m3 x1) okX8_begin inX8_begin ml9_46 rfl rfl rfl rfl (by decide) (by decide) (Nat.le_of_ble_eq_true rfl) rfl dX9_settle_26 (fun m5 hm5 => ?_)
  exact j_vret h rfl dX9_settle_29
theorem dX9_hasPerson_0 : DD cX9_hasPerson 0 (.iload_n 1) 1 1 := ⟨by decide +kernel, rfl⟩
theorem dX9_hasPerson_1 : DD cX9_hasPerson 1 (.ifCond .lt 18) 3 4 := ⟨by decide +kernel, rfl⟩
theorem dX9_hasPerson_4 : DD cX9_hasPerson 4 (.iload_n 1) 1 5 := ⟨by decide +kernel, rfl⟩
theorem dX9_hasPerson_5 : DD cX9_hasPerson 5 (.aload_n 0) 1 6 := ⟨by decide +kernel, rfl⟩
theorem dX9_hasPerson_6 : DD cX9_hasPerson 6 (.getfield 21) 3 9 := ⟨by decide +kernel, rfl⟩
theorem dX9_hasPerson_9 : DD cX9_hasPerson 9 (.getfield 50) 3 12 := ⟨by decide +kernel, rfl⟩
theorem dX9_hasPerson_12 : DD cX9_hasPerson 12 (.if_icmp .ge 7) 3 15 := ⟨by decide +kernel, rfl⟩
theorem dX9_hasPerson_15 : DD cX9_hasPerson 15 (.iconst 1) 1 16 := ⟨by decide +kernel, rfl⟩
theorem dX9_hasPerson_16 : DD cX9_hasPerson 16 (.goto 4) 3 19 := ⟨by decide +kernel, rfl⟩
theorem dX9_hasPerson_19 : DD cX9_hasPerson 19 (.iconst 0) 1 20 := ⟨by decide +kernel, rfl⟩
theorem dX9_hasPerson_20 : DD cX9_hasPerson 20 (.ireturn) 1 21 := ⟨by decide +kernel, rfl⟩
def fX9_hasPerson (m : Mem) (x1 : Int32) : Option Int32 := (if x1 < 0 then (some (0 : Int32)) else (gPl (m.2.2 26 1) (if (m.1 (m.2.2 26 1) 0) ≤ x1 then (some (0 : Int32)) else (some (1 : Int32)))))
set_option maxHeartbeats 4000000 in
set_option maxRecDepth 100000 in
theorem kX9_hasPerson (l : Launch) (G : Gt) (hD : ∀ m, va_D (inA G nC) (wC G m)) (m : Mem) (x1 : Int32) : ∀ a, fX9_hasPerson m x1 = some a → Ct l G wC nC yX9_hasPerson cX9_hasPerson 2 (some .boolean) 1 [.ref (G.2.2 26), .int x1] m ((cvP m) a) := by
  refine ct_of (own := RX9) (ls0 := [some (.ref (G.2.2 26)), some (.int x1)]) (by decide) rfl rfl rfl (Nat.le_of_ble_eq_true rfl) hD (fun X h => ?_) l
  unfold fX9_hasPerson
  refine j_iload_n h dX9_hasPerson_0 rfl ?_
  refine j_if_lt (tgt := 19) h dX9_hasPerson_1 (by decide) (fun c1 => ?_) (fun c1 => ?_)
  · refine j_iconst (v := (0 : Int32)) h dX9_hasPerson_19 kiconst_0 ?_
    exact j_zretB h rfl rfl dX9_hasPerson_20
  · refine j_iload_n h dX9_hasPerson_4 rfl ?_
    refine j_aload_n h dX9_hasPerson_5 rfl ?_
    refine gC9_21 h dX9_hasPerson_6 ?_
    refine j_gPl (fun hg2 => ?_)
    refine gC9_50 h hg2 dX9_hasPerson_9 ?_
    refine j_icmp_ge (tgt := 19) h dX9_hasPerson_12 (by decide) (fun c3 => ?_) (fun c3 => ?_)
    · refine j_iconst (v := (0 : Int32)) h dX9_hasPerson_19 kiconst_0 ?_
      exact j_zretB h rfl rfl dX9_hasPerson_20
    · refine j_iconst (v := (1 : Int32)) h dX9_hasPerson_15 kiconst_1 ?_
      refine j_goto (tgt := 20) h dX9_hasPerson_16 (by decide) ?_
      exact j_zretB h rfl rfl dX9_hasPerson_20
theorem dX9_hasMeet_0 : DD cX9_hasMeet 0 (.iload_n 1) 1 1 := ⟨by decide +kernel, rfl⟩
theorem dX9_hasMeet_1 : DD cX9_hasMeet 1 (.ifCond .lt 18) 3 4 := ⟨by decide +kernel, rfl⟩
theorem dX9_hasMeet_4 : DD cX9_hasMeet 4 (.iload_n 1) 1 5 := ⟨by decide +kernel, rfl⟩
theorem dX9_hasMeet_5 : DD cX9_hasMeet 5 (.aload_n 0) 1 6 := ⟨by decide +kernel, rfl⟩
theorem dX9_hasMeet_6 : DD cX9_hasMeet 6 (.getfield 21) 3 9 := ⟨by decide +kernel, rfl⟩
theorem dX9_hasMeet_9 : DD cX9_hasMeet 9 (.getfield 53) 3 12 := ⟨by decide +kernel, rfl⟩
theorem dX9_hasMeet_12 : DD cX9_hasMeet 12 (.if_icmp .ge 7) 3 15 := ⟨by decide +kernel, rfl⟩
theorem dX9_hasMeet_15 : DD cX9_hasMeet 15 (.iconst 1) 1 16 := ⟨by decide +kernel, rfl⟩
theorem dX9_hasMeet_16 : DD cX9_hasMeet 16 (.goto 4) 3 19 := ⟨by decide +kernel, rfl⟩
theorem dX9_hasMeet_19 : DD cX9_hasMeet 19 (.iconst 0) 1 20 := ⟨by decide +kernel, rfl⟩
theorem dX9_hasMeet_20 : DD cX9_hasMeet 20 (.ireturn) 1 21 := ⟨by decide +kernel, rfl⟩
def fX9_hasMeet (m : Mem) (x1 : Int32) : Option Int32 := (if x1 < 0 then (some (0 : Int32)) else (gPl (m.2.2 26 1) (if (m.1 (m.2.2 26 1) 5) ≤ x1 then (some (0 : Int32)) else (some (1 : Int32)))))
set_option maxHeartbeats 4000000 in
set_option maxRecDepth 100000 in
theorem kX9_hasMeet (l : Launch) (G : Gt) (hD : ∀ m, va_D (inA G nC) (wC G m)) (m : Mem) (x1 : Int32) : ∀ a, fX9_hasMeet m x1 = some a → Ct l G wC nC yX9_hasMeet cX9_hasMeet 2 (some .boolean) 1 [.ref (G.2.2 26), .int x1] m ((cvP m) a) := by
  refine ct_of (own := RX9) (ls0 := [some (.ref (G.2.2 26)), some (.int x1)]) (by decide) rfl rfl rfl (Nat.le_of_ble_eq_true rfl) hD (fun X h => ?_) l
  unfold fX9_hasMeet
  refine j_iload_n h dX9_hasMeet_0 rfl ?_
  refine j_if_lt (tgt := 19) h dX9_hasMeet_1 (by decide) (fun c1 => ?_) (fun c1 => ?_)
  · refine j_iconst (v := (0 : Int32)) h dX9_hasMeet_19 kiconst_0 ?_
    exact j_zretB h rfl rfl dX9_hasMeet_20
  · refine j_iload_n h dX9_hasMeet_4 rfl ?_
    refine j_aload_n h dX9_hasMeet_5 rfl ?_
    refine gC9_21 h dX9_hasMeet_6 ?_
    refine j_gPl (fun hg2 => ?_)
    refine gC9_53 h hg2 dX9_hasMeet_9 ?_
    refine j_icmp_ge (tgt := 19) h dX9_hasMeet_12 (by decide) (fun c3 => ?_) (fun c3 => ?_)
    · refine j_iconst (v := (0 : Int32)) h dX9_hasMeet_19 kiconst_0 ?_
      exact j_zretB h rfl rfl dX9_hasMeet_20
    · refine j_iconst (v := (1 : Int32)) h dX9_hasMeet_15 kiconst_1 ?_
      refine j_goto (tgt := 20) h dX9_hasMeet_16 (by decide) ?_
      exact j_zretB h rfl rfl dX9_hasMeet_20
theorem dX9_hoursAwake_0 : DD cX9_hoursAwake 0 (.aload_n 2) 1 1 := ⟨by decide +kernel, rfl⟩
theorem dX9_hoursAwake_1 : DD cX9_hoursAwake 1 (.getfield 102) 3 4 := ⟨by decide +kernel, rfl⟩
theorem dX9_hoursAwake_4 : DD cX9_hoursAwake 4 (.aload_n 0) 1 5 := ⟨by decide +kernel, rfl⟩
theorem dX9_hoursAwake_5 : DD cX9_hoursAwake 5 (.getfield 14) 3 8 := ⟨by decide +kernel, rfl⟩
theorem dX9_hoursAwake_8 : DD cX9_hoursAwake 8 (.getfield 105) 3 11 := ⟨by decide +kernel, rfl⟩
theorem dX9_hoursAwake_11 : DD cX9_hoursAwake 11 (.iload_n 1) 1 12 := ⟨by decide +kernel, rfl⟩
theorem dX9_hoursAwake_12 : DD cX9_hoursAwake 12 (.iaload) 1 13 := ⟨by decide +kernel, rfl⟩
theorem dX9_hoursAwake_13 : DD cX9_hoursAwake 13 (.iaload) 1 14 := ⟨by decide +kernel, rfl⟩
theorem dX9_hoursAwake_14 : DD cX9_hoursAwake 14 (.ireturn) 1 15 := ⟨by decide +kernel, rfl⟩
def fX9_hoursAwake (m : Mem) (x1 : Int32) : Option Int32 := (rd (m.1 28) 7 x1 fun v1 => (rd (m.1 54) 3 v1 fun v2 => (some v2)))
set_option maxHeartbeats 4000000 in
set_option maxRecDepth 100000 in
theorem kX9_hoursAwake (l : Launch) (G : Gt) (hD : ∀ m, va_D (inA G nC) (wC G m)) (m : Mem) (x1 : Int32) : ∀ a, fX9_hoursAwake m x1 = some a → Ct l G wC nC yX9_hoursAwake cX9_hoursAwake 3 (some .int) 1 [.ref (G.2.2 26), .int x1, .ref (G.2.2 53)] m ((cvP m) a) := by
  refine ct_of (own := RX9) (ls0 := [some (.ref (G.2.2 26)), some (.int x1), some (.ref (G.2.2 53))]) (by decide) rfl rfl rfl (Nat.le_of_ble_eq_true rfl) hD (fun X h => ?_) l
  unfold fX9_hoursAwake
  refine j_aload_n h dX9_hoursAwake_0 rfl ?_
  refine gC9_102 h dX9_hoursAwake_1 ?_
  refine j_aload_n h dX9_hoursAwake_4 rfl ?_
  refine gC9_14 h dX9_hoursAwake_5 ?_
  refine gC9_105 h dX9_hoursAwake_8 ?_
  refine j_iload_n h dX9_hoursAwake_11 rfl ?_
  refine aC_28 h dX9_hoursAwake_12 (fun v1 hv1 => ?_)
  refine aC_54 h dX9_hoursAwake_13 (fun v2 hv2 => ?_)
  exact j_iret h rfl dX9_hoursAwake_14
theorem dX9_harmOf_0 : DD cX9_harmOf 0 (.aload_n 0) 1 1 := ⟨by decide +kernel, rfl⟩
theorem dX9_harmOf_1 : DD cX9_harmOf 1 (.getfield 21) 3 4 := ⟨by decide +kernel, rfl⟩
theorem dX9_harmOf_4 : DD cX9_harmOf 4 (.getfield 119) 3 7 := ⟨by decide +kernel, rfl⟩
theorem dX9_harmOf_7 : DD cX9_harmOf 7 (.iload_n 1) 1 8 := ⟨by decide +kernel, rfl⟩
theorem dX9_harmOf_8 : DD cX9_harmOf 8 (.iaload) 1 9 := ⟨by decide +kernel, rfl⟩
theorem dX9_harmOf_9 : DD cX9_harmOf 9 (.istore 4) 2 11 := ⟨by decide +kernel, rfl⟩
theorem dX9_harmOf_11 : DD cX9_harmOf 11 (.aload_n 0) 1 12 := ⟨by decide +kernel, rfl⟩
theorem dX9_harmOf_12 : DD cX9_harmOf 12 (.getfield 21) 3 15 := ⟨by decide +kernel, rfl⟩
theorem dX9_harmOf_15 : DD cX9_harmOf 15 (.getfield 131) 3 18 := ⟨by decide +kernel, rfl⟩
theorem dX9_harmOf_18 : DD cX9_harmOf 18 (.iload_n 1) 1 19 := ⟨by decide +kernel, rfl⟩
theorem dX9_harmOf_19 : DD cX9_harmOf 19 (.iaload) 1 20 := ⟨by decide +kernel, rfl⟩
theorem dX9_harmOf_20 : DD cX9_harmOf 20 (.istore 5) 2 22 := ⟨by decide +kernel, rfl⟩
theorem dX9_harmOf_22 : DD cX9_harmOf 22 (.iload 4) 2 24 := ⟨by decide +kernel, rfl⟩
theorem dX9_harmOf_24 : DD cX9_harmOf 24 (.iload_n 2) 1 25 := ⟨by decide +kernel, rfl⟩
theorem dX9_harmOf_25 : DD cX9_harmOf 25 (.if_icmp .eq 39) 3 28 := ⟨by decide +kernel, rfl⟩
theorem dX9_harmOf_28 : DD cX9_harmOf 28 (.aload_n 0) 1 29 := ⟨by decide +kernel, rfl⟩
theorem dX9_harmOf_29 : DD cX9_harmOf 29 (.iload 4) 2 31 := ⟨by decide +kernel, rfl⟩
theorem dX9_harmOf_31 : DD cX9_harmOf 31 (.invokevirtual 134) 3 34 := ⟨by decide +kernel, rfl⟩
theorem dX9_harmOf_34 : DD cX9_harmOf 34 (.ifCond .ne 30) 3 37 := ⟨by decide +kernel, rfl⟩
theorem dX9_harmOf_37 : DD cX9_harmOf 37 (.aload_n 0) 1 38 := ⟨by decide +kernel, rfl⟩
theorem dX9_harmOf_38 : DD cX9_harmOf 38 (.iload 4) 2 40 := ⟨by decide +kernel, rfl⟩
theorem dX9_harmOf_40 : DD cX9_harmOf 40 (.aload_n 3) 1 41 := ⟨by decide +kernel, rfl⟩
theorem dX9_harmOf_41 : DD cX9_harmOf 41 (.iload 5) 2 43 := ⟨by decide +kernel, rfl⟩
theorem dX9_harmOf_43 : DD cX9_harmOf 43 (.invokevirtual 112) 3 46 := ⟨by decide +kernel, rfl⟩
theorem dX9_harmOf_46 : DD cX9_harmOf 46 (.ifCond .eq 18) 3 49 := ⟨by decide +kernel, rfl⟩
theorem dX9_harmOf_49 : DD cX9_harmOf 49 (.aload_n 0) 1 50 := ⟨by decide +kernel, rfl⟩
theorem dX9_harmOf_50 : DD cX9_harmOf 50 (.iload_n 2) 1 51 := ⟨by decide +kernel, rfl⟩
theorem dX9_harmOf_51 : DD cX9_harmOf 51 (.aload_n 3) 1 52 := ⟨by decide +kernel, rfl⟩
theorem dX9_harmOf_52 : DD cX9_harmOf 52 (.iload 5) 2 54 := ⟨by decide +kernel, rfl⟩
theorem dX9_harmOf_54 : DD cX9_harmOf 54 (.invokevirtual 112) 3 57 := ⟨by decide +kernel, rfl⟩
theorem dX9_harmOf_57 : DD cX9_harmOf 57 (.ifCond .ne 7) 3 60 := ⟨by decide +kernel, rfl⟩
theorem dX9_harmOf_60 : DD cX9_harmOf 60 (.iconst 1) 1 61 := ⟨by decide +kernel, rfl⟩
theorem dX9_harmOf_61 : DD cX9_harmOf 61 (.goto 4) 3 64 := ⟨by decide +kernel, rfl⟩
theorem dX9_harmOf_64 : DD cX9_harmOf 64 (.iconst 0) 1 65 := ⟨by decide +kernel, rfl⟩
theorem dX9_harmOf_65 : DD cX9_harmOf 65 (.istore 6) 2 67 := ⟨by decide +kernel, rfl⟩
theorem dX9_harmOf_67 : DD cX9_harmOf 67 (.iload 6) 2 69 := ⟨by decide +kernel, rfl⟩
theorem dX9_harmOf_69 : DD cX9_harmOf 69 (.ifCond .eq 13) 3 72 := ⟨by decide +kernel, rfl⟩
theorem dX9_harmOf_72 : DD cX9_harmOf 72 (.aload_n 0) 1 73 := ⟨by decide +kernel, rfl⟩
theorem dX9_harmOf_73 : DD cX9_harmOf 73 (.iload_n 1) 1 74 := ⟨by decide +kernel, rfl⟩
theorem dX9_harmOf_74 : DD cX9_harmOf 74 (.iload_n 2) 1 75 := ⟨by decide +kernel, rfl⟩
theorem dX9_harmOf_75 : DD cX9_harmOf 75 (.aload_n 3) 1 76 := ⟨by decide +kernel, rfl⟩
theorem dX9_harmOf_76 : DD cX9_harmOf 76 (.invokevirtual 138) 3 79 := ⟨by decide +kernel, rfl⟩
theorem dX9_harmOf_79 : DD cX9_harmOf 79 (.goto 4) 3 82 := ⟨by decide +kernel, rfl⟩
theorem dX9_harmOf_82 : DD cX9_harmOf 82 (.iconst 0) 1 83 := ⟨by decide +kernel, rfl⟩
theorem dX9_harmOf_83 : DD cX9_harmOf 83 (.ireturn) 1 84 := ⟨by decide +kernel, rfl⟩
def fX9_harmOf (m : Mem) (x1 : Int32) (x2 : Int32) : Option (Int32 × Mem) := (gPl (m.2.2 26 1) (rd (m.1 ((m.2.2 26 1) + 9)) 8 x1 fun v2 => (rd (m.1 ((m.2.2 26 1) + 10)) 8 x1 fun v3 => (if v2 = x2 then (some ((0 : Int32), m)) else (cP (fX9_isQuiet m v2) fun r5 => (if r5 = 0 then (cP (fX9_isAwake m v2 v3) fun r8 => (if r8 = 0 then (some ((0 : Int32), m)) else (cP (fX9_isAwake m x2 v3) fun r11 => (if r11 = 0 then (cI (fX9_hurtOf m x1 x2) fun r14 m15 => (some (r14, m15))) else (some ((0 : Int32), m)))))) else (some ((0 : Int32), m))))))))
set_option maxHeartbeats 4000000 in
set_option maxRecDepth 100000 in
theorem kX9_harmOf (l : Launch) (G : Gt) (hD : ∀ m, va_D (inA G nC) (wC G m)) (m : Mem) (x1 : Int32) (x2 : Int32) : ∀ a, fX9_harmOf m x1 x2 = some a → Ct l G wC nC yX9_harmOf cX9_harmOf 7 (some .int) 4 [.ref (G.2.2 26), .int x1, .int x2, .ref (G.2.2 53)] m (cvI a) := by
  refine ct_of (own := RX9) (ls0 := [some (.ref (G.2.2 26)), some (.int x1), some (.int x2), some (.ref (G.2.2 53)), none, none, none]) (by decide) rfl rfl rfl (Nat.le_of_ble_eq_true rfl) hD (fun X h => ?_) l
  unfold fX9_harmOf
  refine j_aload_n h dX9_harmOf_0 rfl ?_
  refine gC9_21 h dX9_harmOf_1 ?_
  refine j_gPl (fun hg1 => ?_)
  refine gC9_119 h hg1 dX9_harmOf_4 ?_
  refine j_iload_n h dX9_harmOf_7 rfl ?_
  refine aC_Pl9 h hg1 dX9_harmOf_8 (fun v2 hv2 => ?_)
  refine j_istore h dX9_harmOf_9 rfl rfl ?_
  refine j_aload_n h dX9_harmOf_11 rfl ?_
  refine gC9_21 h dX9_harmOf_12 ?_
  refine gC9_131 h hg1 dX9_harmOf_15 ?_
  refine j_iload_n h dX9_harmOf_18 rfl ?_
  refine aC_Pl10 h hg1 dX9_harmOf_19 (fun v3 hv3 => ?_)
  refine j_istore h dX9_harmOf_20 rfl rfl ?_
  refine j_iload h dX9_harmOf_22 rfl ?_
  refine j_iload_n h dX9_harmOf_24 rfl ?_
  refine j_icmp_eq (tgt := 64) h dX9_harmOf_25 (by decide) (fun c4 => ?_) (fun c4 => ?_)
  · refine j_iconst (v := (0 : Int32)) h dX9_harmOf_64 kiconst_0 ?_
    refine j_istore h dX9_harmOf_65 rfl rfl ?_
    refine j_iload h dX9_harmOf_67 rfl ?_
    refine j_if_eqB (tgt := 82) h dX9_harmOf_69 (by decide) (fun _ => ?_) (fun cc => absurd (by decide) cc)
    refine j_iconst (v := (0 : Int32)) h dX9_harmOf_82 kiconst_0 ?_
    exact j_iret h rfl dX9_harmOf_83
  · refine j_aload_n h dX9_harmOf_28 rfl ?_
    refine j_iload h dX9_harmOf_29 rfl ?_
    refine j_callVP (q0 := 26) (ci := 9) h [.int v2] (kX9_isQuiet _ G h.2.2.2.2.2.2.2.2.2.2 m v2) okX9_isQuiet inX9_isQuiet ml9_134 rfl rfl rfl rfl (by decide) (by decide) (Nat.le_of_ble_eq_true rfl) rfl dX9_harmOf_31 (fun r5 hr5 => ?_)
    refine j_if_ne (tgt := 64) h dX9_harmOf_34 (by decide) (fun c7 => ?_) (fun c7 => ?_)
    · refine j_iconst (v := (0 : Int32)) h dX9_harmOf_64 kiconst_0 ?_
      refine j_istore h dX9_harmOf_65 rfl rfl ?_
      refine j_iload h dX9_harmOf_67 rfl ?_
      refine j_if_eqB (tgt := 82) h dX9_harmOf_69 (by decide) (fun _ => ?_) (fun cc => absurd (by decide) cc)
      refine j_iconst (v := (0 : Int32)) h dX9_harmOf_82 kiconst_0 ?_
      exact j_iret h rfl dX9_harmOf_83
    · refine j_aload_n h dX9_harmOf_37 rfl ?_
      refine j_iload h dX9_harmOf_38 rfl ?_
      refine j_aload_n h dX9_harmOf_40 rfl ?_
      refine j_iload h dX9_harmOf_41 rfl ?_
      refine j_callVP (q0 := 26) (ci := 9) h [.int v2, .ref (G.2.2 53), .int v3] (kX9_isAwake _ G h.2.2.2.2.2.2.2.2.2.2 m v2 v3) okX9_isAwake inX9_isAwake ml9_112 rfl rfl rfl rfl (by decide) (by decide) (Nat.le_of_ble_eq_true rfl) rfl dX9_harmOf_43 (fun r8 hr8 => ?_)
      refine j_if_eq (tgt := 64) h dX9_harmOf_46 (by decide) (fun c10 => ?_) (fun c10 => ?_)
      · refine j_iconst (v := (0 : Int32)) h dX9_harmOf_64 kiconst_0 ?_
        refine j_istore h dX9_harmOf_65 rfl rfl ?_
        refine j_iload h dX9_harmOf_67 rfl ?_
        refine j_if_eqB (tgt := 82) h dX9_harmOf_69 (by decide) (fun _ => ?_) (fun cc => absurd (by decide) cc)
        refine j_iconst (v := (0 : Int32)) h dX9_harmOf_82 kiconst_0 ?_
        exact j_iret h rfl dX9_harmOf_83
      · refine j_aload_n h dX9_harmOf_49 rfl ?_
        refine j_iload_n h dX9_harmOf_50 rfl ?_
        refine j_aload_n h dX9_harmOf_51 rfl ?_
        refine j_iload h dX9_harmOf_52 rfl ?_
        refine j_callVP (q0 := 26) (ci := 9) h [.int x2, .ref (G.2.2 53), .int v3] (kX9_isAwake _ G h.2.2.2.2.2.2.2.2.2.2 m x2 v3) okX9_isAwake inX9_isAwake ml9_112 rfl rfl rfl rfl (by decide) (by decide) (Nat.le_of_ble_eq_true rfl) rfl dX9_harmOf_54 (fun r11 hr11 => ?_)
        refine j_if_ne (tgt := 64) h dX9_harmOf_57 (by decide) (fun c13 => ?_) (fun c13 => ?_)
        · refine j_iconst (v := (0 : Int32)) h dX9_harmOf_64 kiconst_0 ?_
          refine j_istore h dX9_harmOf_65 rfl rfl ?_
          refine j_iload h dX9_harmOf_67 rfl ?_
          refine j_if_eqB (tgt := 82) h dX9_harmOf_69 (by decide) (fun _ => ?_) (fun cc => absurd (by decide) cc)
          refine j_iconst (v := (0 : Int32)) h dX9_harmOf_82 kiconst_0 ?_
          exact j_iret h rfl dX9_harmOf_83
        · refine j_iconst (v := (1 : Int32)) h dX9_harmOf_60 kiconst_1 ?_
          refine j_goto (tgt := 65) h dX9_harmOf_61 (by decide) ?_
          refine j_istore h dX9_harmOf_65 rfl rfl ?_
          refine j_iload h dX9_harmOf_67 rfl ?_
          refine j_if_eqB (tgt := 82) h dX9_harmOf_69 (by decide) (fun cc => absurd cc (by decide)) (fun _ => ?_)
          refine j_aload_n h dX9_harmOf_72 rfl ?_
          refine j_iload_n h dX9_harmOf_73 rfl ?_
          refine j_iload_n h dX9_harmOf_74 rfl ?_
          refine j_aload_n h dX9_harmOf_75 rfl ?_
          refine j_callVI (q0 := 26) (ci := 9) h [.int x1, .int x2, .ref (G.2.2 53)] (kX9_hurtOf _ G h.2.2.2.2.2.2.2.2.2.2 m x1 x2) okX9_hurtOf inX9_hurtOf ml9_138 rfl rfl rfl rfl (by decide) (by decide) (Nat.le_of_ble_eq_true rfl) rfl dX9_harmOf_76 (fun r14 m15 hr14 => ?_)
          refine j_goto (tgt := 83) h dX9_harmOf_79 (by decide) ?_
          exact j_iret h rfl dX9_harmOf_83
theorem dX9_harmAt_0 : DD cX9_harmAt 0 (.iconst 0) 1 1 := ⟨by decide +kernel, rfl⟩
theorem dX9_harmAt_1 : DD cX9_harmAt 1 (.istore 4) 2 3 := ⟨by decide +kernel, rfl⟩
theorem dX9_harmAt_3 : DD cX9_harmAt 3 (.iconst 0) 1 4 := ⟨by decide +kernel, rfl⟩
theorem dX9_harmAt_4 : DD cX9_harmAt 4 (.istore 5) 2 6 := ⟨by decide +kernel, rfl⟩
theorem dX9_harmAt_6 : DD cX9_harmAt 6 (.iload 5) 2 8 := ⟨by decide +kernel, rfl⟩
theorem dX9_harmAt_8 : DD cX9_harmAt 8 (.aload_n 0) 1 9 := ⟨by decide +kernel, rfl⟩
theorem dX9_harmAt_9 : DD cX9_harmAt 9 (.getfield 21) 3 12 := ⟨by decide +kernel, rfl⟩
theorem dX9_harmAt_12 : DD cX9_harmAt 12 (.getfield 142) 3 15 := ⟨by decide +kernel, rfl⟩
theorem dX9_harmAt_15 : DD cX9_harmAt 15 (.if_icmp .ge 40) 3 18 := ⟨by decide +kernel, rfl⟩
theorem dX9_harmAt_18 : DD cX9_harmAt 18 (.iload 4) 2 20 := ⟨by decide +kernel, rfl⟩
theorem dX9_harmAt_20 : DD cX9_harmAt 20 (.aload_n 0) 1 21 := ⟨by decide +kernel, rfl⟩
theorem dX9_harmAt_21 : DD cX9_harmAt 21 (.getfield 21) 3 24 := ⟨by decide +kernel, rfl⟩
theorem dX9_harmAt_24 : DD cX9_harmAt 24 (.getfield 131) 3 27 := ⟨by decide +kernel, rfl⟩
theorem dX9_harmAt_27 : DD cX9_harmAt 27 (.iload 5) 2 29 := ⟨by decide +kernel, rfl⟩
theorem dX9_harmAt_29 : DD cX9_harmAt 29 (.iaload) 1 30 := ⟨by decide +kernel, rfl⟩
theorem dX9_harmAt_30 : DD cX9_harmAt 30 (.iload_n 3) 1 31 := ⟨by decide +kernel, rfl⟩
theorem dX9_harmAt_31 : DD cX9_harmAt 31 (.if_icmp .ne 14) 3 34 := ⟨by decide +kernel, rfl⟩
theorem dX9_harmAt_34 : DD cX9_harmAt 34 (.aload_n 0) 1 35 := ⟨by decide +kernel, rfl⟩
theorem dX9_harmAt_35 : DD cX9_harmAt 35 (.iload 5) 2 37 := ⟨by decide +kernel, rfl⟩
theorem dX9_harmAt_37 : DD cX9_harmAt 37 (.iload_n 1) 1 38 := ⟨by decide +kernel, rfl⟩
theorem dX9_harmAt_38 : DD cX9_harmAt 38 (.aload_n 2) 1 39 := ⟨by decide +kernel, rfl⟩
theorem dX9_harmAt_39 : DD cX9_harmAt 39 (.invokevirtual 145) 3 42 := ⟨by decide +kernel, rfl⟩
theorem dX9_harmAt_42 : DD cX9_harmAt 42 (.goto 4) 3 45 := ⟨by decide +kernel, rfl⟩
theorem dX9_harmAt_45 : DD cX9_harmAt 45 (.iconst 0) 1 46 := ⟨by decide +kernel, rfl⟩
theorem dX9_harmAt_46 : DD cX9_harmAt 46 (.iadd) 1 47 := ⟨by decide +kernel, rfl⟩
theorem dX9_harmAt_47 : DD cX9_harmAt 47 (.istore 4) 2 49 := ⟨by decide +kernel, rfl⟩
theorem dX9_harmAt_49 : DD cX9_harmAt 49 (.iinc 5 1) 3 52 := ⟨by decide +kernel, rfl⟩
theorem dX9_harmAt_52 : DD cX9_harmAt 52 (.goto (-46)) 3 55 := ⟨by decide +kernel, rfl⟩
theorem dX9_harmAt_55 : DD cX9_harmAt 55 (.iload 4) 2 57 := ⟨by decide +kernel, rfl⟩
theorem dX9_harmAt_57 : DD cX9_harmAt 57 (.ireturn) 1 58 := ⟨by decide +kernel, rfl⟩
def gX9_harmAt : Nat → Int32 → Int32 → Int32 → Int32 → Mem → Option (Int32 × Mem)
  | 0, _, _, _, _, _ => none
  | f + 1, x1, x3, x4, x5, m => (gPl (m.2.2 26 1) (if (m.1 (m.2.2 26 1) 10) ≤ x5 then (some (x4, m)) else (rd (m.1 ((m.2.2 26 1) + 10)) 8 x5 fun v3 => (if v3 = x3 then (cI (fX9_harmOf m x5 x1) fun r6 m7 => (nm (x4 + r6) fun v8 => (gX9_harmAt f x1 x3 v8 (x5 + (1 : Int32)) m7))) else (nm (x4 + (0 : Int32)) fun v5 => (gX9_harmAt f x1 x3 v5 (x5 + (1 : Int32)) m))))))
def fX9_harmAt (m : Mem) (x1 : Int32) (x3 : Int32) : Option (Int32 × Mem) := (gX9_harmAt 5000 x1 x3 (0 : Int32) (0 : Int32) m)
set_option maxHeartbeats 4000000 in
set_option maxRecDepth 100000 in
theorem wX9_harmAt {X : Cx} {G : Gt} (h : OkX (X, G, wC, nC) cX9_harmAt RX9 6 (some .int) 5) : ∀ f : Nat, (∀ (x1 : Int32) (x3 : Int32) (x4 : Int32) (x5 : Int32) (m : Mem), JR (X, G, wC, nC) cvI m 6 [some (.ref (G.2.2 26)), some (.int x1), some (.ref (G.2.2 53)), some (.int x3), some (.int x4), some (.int x5)] [] (gX9_harmAt f x1 x3 x4 x5 m)) := by
  intro f
  induction f with
  | zero => exact (fun _ _ _ _ _ => j_none)
  | succ f ih =>
    intro x1 x3 x4 x5 m
    rw [gX9_harmAt]
    refine j_iload h dX9_harmAt_6 rfl ?_
    refine j_aload_n h dX9_harmAt_8 rfl ?_
    refine gC9_21 h dX9_harmAt_9 ?_
    refine j_gPl (fun hg1 => ?_)
    refine gC9_142 h hg1 dX9_harmAt_12 ?_
    refine j_icmp_ge (tgt := 55) h dX9_harmAt_15 (by decide) (fun c2 => ?_) (fun c2 => ?_)
    · refine j_iload h dX9_harmAt_55 rfl ?_
      exact j_iret h rfl dX9_harmAt_57
    · refine j_iload h dX9_harmAt_18 rfl ?_
      refine j_aload_n h dX9_harmAt_20 rfl ?_
      refine gC9_21 h dX9_harmAt_21 ?_
      refine gC9_131 h hg1 dX9_harmAt_24 ?_
      refine j_iload h dX9_harmAt_27 rfl ?_
      refine aC_Pl10 h hg1 dX9_harmAt_29 (fun v3 hv3 => ?_)
      refine j_iload_n h dX9_harmAt_30 rfl ?_
      refine j_icmp_ne (tgt := 45) h dX9_harmAt_31 (by decide) (fun c4 => ?_) (fun c4 => ?_)
      · refine j_iconst (v := (0 : Int32)) h dX9_harmAt_45 kiconst_0 ?_
        refine j_iadd h dX9_harmAt_46 ?_
        refine j_nm (fun v5 hv5 => ?_)
        refine j_istore h dX9_harmAt_47 rfl rfl ?_
        refine j_iinc (v := (x5 + (1 : Int32))) h dX9_harmAt_49 rfl (by rw [kiconst_1]) rfl ?_
        refine j_goto (tgt := 6) h dX9_harmAt_52 (by decide) ?_
        refine j_wk (ls' := [some (.ref (G.2.2 26)), some (.int x1), some (.ref (G.2.2 53)), some (.int x3), some (.int v5), some (.int (x5 + (1 : Int32)))]) (And.intro rfl (And.intro rfl (And.intro rfl (And.intro rfl (And.intro rfl (And.intro rfl trivial)))))) ?_
        exact ih x1 x3 v5 (x5 + (1 : Int32)) m
      · refine j_aload_n h dX9_harmAt_34 rfl ?_
        refine j_iload h dX9_harmAt_35 rfl ?_
        refine j_iload_n h dX9_harmAt_37 rfl ?_
        refine j_aload_n h dX9_harmAt_38 rfl ?_
        refine j_callVI (q0 := 26) (ci := 9) h [.int x5, .int x1, .ref (G.2.2 53)] (kX9_harmOf _ G h.2.2.2.2.2.2.2.2.2.2 m x5 x1) okX9_harmOf inX9_harmOf ml9_145 rfl rfl rfl rfl (by decide) (by decide) (Nat.le_of_ble_eq_true rfl) rfl dX9_harmAt_39 (fun r6 m7 hr6 => ?_)
        refine j_goto (tgt := 46) h dX9_harmAt_42 (by decide) ?_
        refine j_iadd h dX9_harmAt_46 ?_
        refine j_nm (fun v8 hv8 => ?_)
        refine j_istore h dX9_harmAt_47 rfl rfl ?_
        refine j_iinc (v := (x5 + (1 : Int32))) h dX9_harmAt_49 rfl (by rw [kiconst_1]) rfl ?_
        refine j_goto (tgt := 6) h dX9_harmAt_52 (by decide) ?_
        refine j_wk (ls' := [some (.ref (G.2.2 26)), some (.int x1), some (.ref (G.2.2 53)), some (.int x3), some (.int v8), some (.int (x5 + (1 : Int32)))]) (And.intro rfl (And.intro rfl (And.intro rfl (And.intro rfl (And.intro rfl (And.intro rfl trivial)))))) ?_
        exact ih x1 x3 v8 (x5 + (1 : Int32)) m7
set_option maxHeartbeats 4000000 in
set_option maxRecDepth 100000 in
theorem kX9_harmAt (l : Launch) (G : Gt) (hD : ∀ m, va_D (inA G nC) (wC G m)) (m : Mem) (x1 : Int32) (x3 : Int32) : ∀ a, fX9_harmAt m x1 x3 = some a → Ct l G wC nC yX9_harmAt cX9_harmAt 6 (some .int) 5 [.ref (G.2.2 26), .int x1, .ref (G.2.2 53), .int x3] m (cvI a) := by
  refine ct_of (own := RX9) (ls0 := [some (.ref (G.2.2 26)), some (.int x1), some (.ref (G.2.2 53)), some (.int x3), none, none]) (by decide) rfl rfl rfl (Nat.le_of_ble_eq_true rfl) hD (fun X h => ?_) l
  unfold fX9_harmAt
  refine j_iconst (v := (0 : Int32)) h dX9_harmAt_0 kiconst_0 ?_
  refine j_istore h dX9_harmAt_1 rfl rfl ?_
  refine j_iconst (v := (0 : Int32)) h dX9_harmAt_3 kiconst_0 ?_
  refine j_istore h dX9_harmAt_4 rfl rfl ?_
  refine j_wk (ls' := [some (.ref (G.2.2 26)), some (.int x1), some (.ref (G.2.2 53)), some (.int x3), some (.int (0 : Int32)), some (.int (0 : Int32))]) (And.intro rfl (And.intro rfl (And.intro rfl (And.intro rfl (And.intro rfl (And.intro rfl trivial)))))) ?_
  exact (wX9_harmAt h 5000) x1 x3 (0 : Int32) (0 : Int32) m
theorem dX9_harmOn_0 : DD cX9_harmOn 0 (.iconst 0) 1 1 := ⟨by decide +kernel, rfl⟩
theorem dX9_harmOn_1 : DD cX9_harmOn 1 (.istore_n 3) 1 2 := ⟨by decide +kernel, rfl⟩
theorem dX9_harmOn_2 : DD cX9_harmOn 2 (.iconst 0) 1 3 := ⟨by decide +kernel, rfl⟩
theorem dX9_harmOn_3 : DD cX9_harmOn 3 (.istore 4) 2 5 := ⟨by decide +kernel, rfl⟩
theorem dX9_harmOn_5 : DD cX9_harmOn 5 (.iload 4) 2 7 := ⟨by decide +kernel, rfl⟩
theorem dX9_harmOn_7 : DD cX9_harmOn 7 (.aload_n 0) 1 8 := ⟨by decide +kernel, rfl⟩
theorem dX9_harmOn_8 : DD cX9_harmOn 8 (.getfield 21) 3 11 := ⟨by decide +kernel, rfl⟩
theorem dX9_harmOn_11 : DD cX9_harmOn 11 (.getfield 142) 3 14 := ⟨by decide +kernel, rfl⟩
theorem dX9_harmOn_14 : DD cX9_harmOn 14 (.if_icmp .ge 20) 3 17 := ⟨by decide +kernel, rfl⟩
theorem dX9_harmOn_17 : DD cX9_harmOn 17 (.iload_n 3) 1 18 := ⟨by decide +kernel, rfl⟩
theorem dX9_harmOn_18 : DD cX9_harmOn 18 (.aload_n 0) 1 19 := ⟨by decide +kernel, rfl⟩
theorem dX9_harmOn_19 : DD cX9_harmOn 19 (.iload 4) 2 21 := ⟨by decide +kernel, rfl⟩
theorem dX9_harmOn_21 : DD cX9_harmOn 21 (.iload_n 1) 1 22 := ⟨by decide +kernel, rfl⟩
theorem dX9_harmOn_22 : DD cX9_harmOn 22 (.aload_n 2) 1 23 := ⟨by decide +kernel, rfl⟩
theorem dX9_harmOn_23 : DD cX9_harmOn 23 (.invokevirtual 145) 3 26 := ⟨by decide +kernel, rfl⟩
theorem dX9_harmOn_26 : DD cX9_harmOn 26 (.iadd) 1 27 := ⟨by decide +kernel, rfl⟩
theorem dX9_harmOn_27 : DD cX9_harmOn 27 (.istore_n 3) 1 28 := ⟨by decide +kernel, rfl⟩
theorem dX9_harmOn_28 : DD cX9_harmOn 28 (.iinc 4 1) 3 31 := ⟨by decide +kernel, rfl⟩
theorem dX9_harmOn_31 : DD cX9_harmOn 31 (.goto (-26)) 3 34 := ⟨by decide +kernel, rfl⟩
theorem dX9_harmOn_34 : DD cX9_harmOn 34 (.iload_n 3) 1 35 := ⟨by decide +kernel, rfl⟩
theorem dX9_harmOn_35 : DD cX9_harmOn 35 (.ireturn) 1 36 := ⟨by decide +kernel, rfl⟩
def gX9_harmOn : Nat → Int32 → Int32 → Int32 → Mem → Option (Int32 × Mem)
  | 0, _, _, _, _ => none
  | f + 1, x1, x3, x4, m => (gPl (m.2.2 26 1) (if (m.1 (m.2.2 26 1) 10) ≤ x4 then (some (x3, m)) else (cI (fX9_harmOf m x4 x1) fun r3 m4 => (nm (x3 + r3) fun v5 => (gX9_harmOn f x1 v5 (x4 + (1 : Int32)) m4)))))
def fX9_harmOn (m : Mem) (x1 : Int32) : Option (Int32 × Mem) := (gX9_harmOn 5000 x1 (0 : Int32) (0 : Int32) m)
set_option maxHeartbeats 4000000 in
set_option maxRecDepth 100000 in
theorem wX9_harmOn {X : Cx} {G : Gt} (h : OkX (X, G, wC, nC) cX9_harmOn RX9 5 (some .int) 5) : ∀ f : Nat, (∀ (x1 : Int32) (x3 : Int32) (x4 : Int32) (m : Mem), JR (X, G, wC, nC) cvI m 5 [some (.ref (G.2.2 26)), some (.int x1), some (.ref (G.2.2 53)), some (.int x3), some (.int x4)] [] (gX9_harmOn f x1 x3 x4 m)) := by
  intro f
  induction f with
  | zero => exact (fun _ _ _ _ => j_none)
  | succ f ih =>
    intro x1 x3 x4 m
    rw [gX9_harmOn]
    refine j_iload h dX9_harmOn_5 rfl ?_
    refine j_aload_n h dX9_harmOn_7 rfl ?_
    refine gC9_21 h dX9_harmOn_8 ?_
    refine j_gPl (fun hg1 => ?_)
    refine gC9_142 h hg1 dX9_harmOn_11 ?_
    refine j_icmp_ge (tgt := 34) h dX9_harmOn_14 (by decide) (fun c2 => ?_) (fun c2 => ?_)
    · refine j_iload_n h dX9_harmOn_34 rfl ?_
      exact j_iret h rfl dX9_harmOn_35
    · refine j_iload_n h dX9_harmOn_17 rfl ?_
      refine j_aload_n h dX9_harmOn_18 rfl ?_
      refine j_iload h dX9_harmOn_19 rfl ?_
      refine j_iload_n h dX9_harmOn_21 rfl ?_
      refine j_aload_n h dX9_harmOn_22 rfl ?_
      refine j_callVI (q0 := 26) (ci := 9) h [.int x4, .int x1, .ref (G.2.2 53)] (kX9_harmOf _ G h.2.2.2.2.2.2.2.2.2.2 m x4 x1) okX9_harmOf inX9_harmOf ml9_145 rfl rfl rfl rfl (by decide) (by decide) (Nat.le_of_ble_eq_true rfl) rfl dX9_harmOn_23 (fun r3 m4 hr3 => ?_)
      refine j_iadd h dX9_harmOn_26 ?_
      refine j_nm (fun v5 hv5 => ?_)
      refine j_istore_n h dX9_harmOn_27 rfl rfl ?_
      refine j_iinc (v := (x4 + (1 : Int32))) h dX9_harmOn_28 rfl (by rw [kiconst_1]) rfl ?_
      refine j_goto (tgt := 5) h dX9_harmOn_31 (by decide) ?_
      refine j_wk (ls' := [some (.ref (G.2.2 26)), some (.int x1), some (.ref (G.2.2 53)), some (.int v5), some (.int (x4 + (1 : Int32)))]) (And.intro rfl (And.intro rfl (And.intro rfl (And.intro rfl (And.intro rfl trivial))))) ?_
      exact ih x1 v5 (x4 + (1 : Int32)) m4
set_option maxHeartbeats 4000000 in
set_option maxRecDepth 100000 in
theorem kX9_harmOn (l : Launch) (G : Gt) (hD : ∀ m, va_D (inA G nC) (wC G m)) (m : Mem) (x1 : Int32) : ∀ a, fX9_harmOn m x1 = some a → Ct l G wC nC yX9_harmOn cX9_harmOn 5 (some .int) 5 [.ref (G.2.2 26), .int x1, .ref (G.2.2 53)] m (cvI a) := by
  refine ct_of (own := RX9) (ls0 := [some (.ref (G.2.2 26)), some (.int x1), some (.ref (G.2.2 53)), none, none]) (by decide) rfl rfl rfl (Nat.le_of_ble_eq_true rfl) hD (fun X h => ?_) l
  unfold fX9_harmOn
  refine j_iconst (v := (0 : Int32)) h dX9_harmOn_0 kiconst_0 ?_
  refine j_istore_n h dX9_harmOn_1 rfl rfl ?_
  refine j_iconst (v := (0 : Int32)) h dX9_harmOn_2 kiconst_0 ?_
  refine j_istore h dX9_harmOn_3 rfl rfl ?_
  refine j_wk (ls' := [some (.ref (G.2.2 26)), some (.int x1), some (.ref (G.2.2 53)), some (.int (0 : Int32)), some (.int (0 : Int32))]) (And.intro rfl (And.intro rfl (And.intro rfl (And.intro rfl (And.intro rfl trivial))))) ?_
  exact (wX9_harmOn h 5000) x1 (0 : Int32) (0 : Int32) m
theorem dX9_harmBy_0 : DD cX9_harmBy 0 (.iconst 0) 1 1 := ⟨by decide +kernel, rfl⟩
theorem dX9_harmBy_1 : DD cX9_harmBy 1 (.istore_n 3) 1 2 := ⟨by decide +kernel, rfl⟩
theorem dX9_harmBy_2 : DD cX9_harmBy 2 (.iconst 0) 1 3 := ⟨by decide +kernel, rfl⟩
theorem dX9_harmBy_3 : DD cX9_harmBy 3 (.istore 4) 2 5 := ⟨by decide +kernel, rfl⟩
theorem dX9_harmBy_5 : DD cX9_harmBy 5 (.iload 4) 2 7 := ⟨by decide +kernel, rfl⟩
theorem dX9_harmBy_7 : DD cX9_harmBy 7 (.aload_n 0) 1 8 := ⟨by decide +kernel, rfl⟩
theorem dX9_harmBy_8 : DD cX9_harmBy 8 (.getfield 21) 3 11 := ⟨by decide +kernel, rfl⟩
theorem dX9_harmBy_11 : DD cX9_harmBy 11 (.getfield 142) 3 14 := ⟨by decide +kernel, rfl⟩
theorem dX9_harmBy_14 : DD cX9_harmBy 14 (.if_icmp .ge 56) 3 17 := ⟨by decide +kernel, rfl⟩
theorem dX9_harmBy_17 : DD cX9_harmBy 17 (.iconst 0) 1 18 := ⟨by decide +kernel, rfl⟩
theorem dX9_harmBy_18 : DD cX9_harmBy 18 (.istore 5) 2 20 := ⟨by decide +kernel, rfl⟩
theorem dX9_harmBy_20 : DD cX9_harmBy 20 (.iload 5) 2 22 := ⟨by decide +kernel, rfl⟩
theorem dX9_harmBy_22 : DD cX9_harmBy 22 (.aload_n 0) 1 23 := ⟨by decide +kernel, rfl⟩
theorem dX9_harmBy_23 : DD cX9_harmBy 23 (.getfield 21) 3 26 := ⟨by decide +kernel, rfl⟩
theorem dX9_harmBy_26 : DD cX9_harmBy 26 (.getfield 50) 3 29 := ⟨by decide +kernel, rfl⟩
theorem dX9_harmBy_29 : DD cX9_harmBy 29 (.if_icmp .ge 35) 3 32 := ⟨by decide +kernel, rfl⟩
theorem dX9_harmBy_32 : DD cX9_harmBy 32 (.aload_n 0) 1 33 := ⟨by decide +kernel, rfl⟩
theorem dX9_harmBy_33 : DD cX9_harmBy 33 (.getfield 21) 3 36 := ⟨by decide +kernel, rfl⟩
theorem dX9_harmBy_36 : DD cX9_harmBy 36 (.getfield 119) 3 39 := ⟨by decide +kernel, rfl⟩
theorem dX9_harmBy_39 : DD cX9_harmBy 39 (.iload 4) 2 41 := ⟨by decide +kernel, rfl⟩
theorem dX9_harmBy_41 : DD cX9_harmBy 41 (.iaload) 1 42 := ⟨by decide +kernel, rfl⟩
theorem dX9_harmBy_42 : DD cX9_harmBy 42 (.iload_n 1) 1 43 := ⟨by decide +kernel, rfl⟩
theorem dX9_harmBy_43 : DD cX9_harmBy 43 (.if_icmp .ne 21) 3 46 := ⟨by decide +kernel, rfl⟩
theorem dX9_harmBy_46 : DD cX9_harmBy 46 (.iload_n 3) 1 47 := ⟨by decide +kernel, rfl⟩
theorem dX9_harmBy_47 : DD cX9_harmBy 47 (.aload_n 0) 1 48 := ⟨by decide +kernel, rfl⟩
theorem dX9_harmBy_48 : DD cX9_harmBy 48 (.iload 4) 2 50 := ⟨by decide +kernel, rfl⟩
theorem dX9_harmBy_50 : DD cX9_harmBy 50 (.iload 5) 2 52 := ⟨by decide +kernel, rfl⟩
theorem dX9_harmBy_52 : DD cX9_harmBy 52 (.aload_n 2) 1 53 := ⟨by decide +kernel, rfl⟩
theorem dX9_harmBy_53 : DD cX9_harmBy 53 (.invokevirtual 145) 3 56 := ⟨by decide +kernel, rfl⟩
theorem dX9_harmBy_56 : DD cX9_harmBy 56 (.iadd) 1 57 := ⟨by decide +kernel, rfl⟩
theorem dX9_harmBy_57 : DD cX9_harmBy 57 (.istore_n 3) 1 58 := ⟨by decide +kernel, rfl⟩
theorem dX9_harmBy_58 : DD cX9_harmBy 58 (.iinc 5 1) 3 61 := ⟨by decide +kernel, rfl⟩
theorem dX9_harmBy_61 : DD cX9_harmBy 61 (.goto (-41)) 3 64 := ⟨by decide +kernel, rfl⟩
theorem dX9_harmBy_64 : DD cX9_harmBy 64 (.iinc 4 1) 3 67 := ⟨by decide +kernel, rfl⟩
theorem dX9_harmBy_67 : DD cX9_harmBy 67 (.goto (-62)) 3 70 := ⟨by decide +kernel, rfl⟩
theorem dX9_harmBy_70 : DD cX9_harmBy 70 (.iload_n 3) 1 71 := ⟨by decide +kernel, rfl⟩
theorem dX9_harmBy_71 : DD cX9_harmBy 71 (.ireturn) 1 72 := ⟨by decide +kernel, rfl⟩
def gX9_harmBy : Nat → Nat → Int32 → Int32 → Int32 → Int32 → Mem → Option (Int32 × Mem)
  | 0, _, _, _, _, _, _ => none
  | f + 1, 0, x1, x3, x4, x5, m => (gPl (m.2.2 26 1) (if (m.1 (m.2.2 26 1) 10) ≤ x4 then (some (x3, m)) else (gX9_harmBy f 1 x1 x3 x4 (0 : Int32) m)))
  | f + 1, 1, x1, x3, x4, x5, m => (gPl (m.2.2 26 1) (if (m.1 (m.2.2 26 1) 0) ≤ x5 then (gX9_harmBy f 0 x1 x3 (x4 + (1 : Int32)) 0 m) else (rd (m.1 ((m.2.2 26 1) + 9)) 8 x4 fun v3 => (if v3 = x1 then (cI (fX9_harmOf m x4 x5) fun r5 m6 => (nm (x3 + r5) fun v7 => (gX9_harmBy f 1 x1 v7 x4 (x5 + (1 : Int32)) m6))) else (gX9_harmBy f 0 x1 x3 (x4 + (1 : Int32)) 0 m)))))
  | _ + 1, _ + 2, _, _, _, _, _ => none
def fX9_harmBy (m : Mem) (x1 : Int32) : Option (Int32 × Mem) := (gX9_harmBy 5000 0 x1 (0 : Int32) (0 : Int32) 0 m)
set_option maxHeartbeats 4000000 in
set_option maxRecDepth 100000 in
theorem wX9_harmBy {X : Cx} {G : Gt} (h : OkX (X, G, wC, nC) cX9_harmBy RX9 6 (some .int) 5) : ∀ f : Nat, (∀ (x1 : Int32) (x3 : Int32) (x4 : Int32) (x5 : Int32) (m : Mem), JR (X, G, wC, nC) cvI m 5 [some (.ref (G.2.2 26)), some (.int x1), some (.ref (G.2.2 53)), some (.int x3), some (.int x4), none] [] (gX9_harmBy f 0 x1 x3 x4 x5 m)) ∧ (∀ (x1 : Int32) (x3 : Int32) (x4 : Int32) (x5 : Int32) (m : Mem), JR (X, G, wC, nC) cvI m 20 [some (.ref (G.2.2 26)), some (.int x1), some (.ref (G.2.2 53)), some (.int x3), some (.int x4), some (.int x5)] [] (gX9_harmBy f 1 x1 x3 x4 x5 m)) := by
  intro f
  induction f with
  | zero => exact ⟨(fun _ _ _ _ _ => j_none), (fun _ _ _ _ _ => j_none)⟩
  | succ f ih =>
    refine ⟨?_, ?_⟩
    · intro x1 x3 x4 x5 m
      rw [gX9_harmBy]
      refine j_iload h dX9_harmBy_5 rfl ?_
      refine j_aload_n h dX9_harmBy_7 rfl ?_
      refine gC9_21 h dX9_harmBy_8 ?_
      refine j_gPl (fun hg1 => ?_)
      refine gC9_142 h hg1 dX9_harmBy_11 ?_
      refine j_icmp_ge (tgt := 70) h dX9_harmBy_14 (by decide) (fun c2 => ?_) (fun c2 => ?_)
      · refine j_iload_n h dX9_harmBy_70 rfl ?_
        exact j_iret h rfl dX9_harmBy_71
      · refine j_iconst (v := (0 : Int32)) h dX9_harmBy_17 kiconst_0 ?_
        refine j_istore h dX9_harmBy_18 rfl rfl ?_
        refine j_wk (ls' := [some (.ref (G.2.2 26)), some (.int x1), some (.ref (G.2.2 53)), some (.int x3), some (.int x4), some (.int (0 : Int32))]) (And.intro rfl (And.intro rfl (And.intro rfl (And.intro rfl (And.intro rfl (And.intro rfl trivial)))))) ?_
        exact ih.2 x1 x3 x4 (0 : Int32) m
    · intro x1 x3 x4 x5 m
      rw [gX9_harmBy]
      refine j_iload h dX9_harmBy_20 rfl ?_
      refine j_aload_n h dX9_harmBy_22 rfl ?_
      refine gC9_21 h dX9_harmBy_23 ?_
      refine j_gPl (fun hg1 => ?_)
      refine gC9_50 h hg1 dX9_harmBy_26 ?_
      refine j_icmp_ge (tgt := 64) h dX9_harmBy_29 (by decide) (fun c2 => ?_) (fun c2 => ?_)
      · refine j_iinc (v := (x4 + (1 : Int32))) h dX9_harmBy_64 rfl (by rw [kiconst_1]) rfl ?_
        refine j_goto (tgt := 5) h dX9_harmBy_67 (by decide) ?_
        refine j_wk (ls' := [some (.ref (G.2.2 26)), some (.int x1), some (.ref (G.2.2 53)), some (.int x3), some (.int (x4 + (1 : Int32))), none]) (And.intro rfl (And.intro rfl (And.intro rfl (And.intro rfl (And.intro rfl trivial))))) ?_
        exact ih.1 x1 x3 (x4 + (1 : Int32)) 0 m
      · refine j_aload_n h dX9_harmBy_32 rfl ?_
        refine gC9_21 h dX9_harmBy_33 ?_
        refine gC9_119 h hg1 dX9_harmBy_36 ?_
        refine j_iload h dX9_harmBy_39 rfl ?_
        refine aC_Pl9 h hg1 dX9_harmBy_41 (fun v3 hv3 => ?_)
        refine j_iload_n h dX9_harmBy_42 rfl ?_
        refine j_icmp_ne (tgt := 64) h dX9_harmBy_43 (by decide) (fun c4 => ?_) (fun c4 => ?_)
        · refine j_iinc (v := (x4 + (1 : Int32))) h dX9_harmBy_64 rfl (by rw [kiconst_1]) rfl ?_
          refine j_goto (tgt := 5) h dX9_harmBy_67 (by decide) ?_
          refine j_wk (ls' := [some (.ref (G.2.2 26)), some (.int x1), some (.ref (G.2.2 53)), some (.int x3), some (.int (x4 + (1 : Int32))), none]) (And.intro rfl (And.intro rfl (And.intro rfl (And.intro rfl (And.intro rfl trivial))))) ?_
          exact ih.1 x1 x3 (x4 + (1 : Int32)) 0 m
        · refine j_iload_n h dX9_harmBy_46 rfl ?_
          refine j_aload_n h dX9_harmBy_47 rfl ?_
          refine j_iload h dX9_harmBy_48 rfl ?_
          refine j_iload h dX9_harmBy_50 rfl ?_
          refine j_aload_n h dX9_harmBy_52 rfl ?_
          refine j_callVI (q0 := 26) (ci := 9) h [.int x4, .int x5, .ref (G.2.2 53)] (kX9_harmOf _ G h.2.2.2.2.2.2.2.2.2.2 m x4 x5) okX9_harmOf inX9_harmOf ml9_145 rfl rfl rfl rfl (by decide) (by decide) (Nat.le_of_ble_eq_true rfl) rfl dX9_harmBy_53 (fun r5 m6 hr5 => ?_)
          refine j_iadd h dX9_harmBy_56 ?_
          refine j_nm (fun v7 hv7 => ?_)
          refine j_istore_n h dX9_harmBy_57 rfl rfl ?_
          refine j_iinc (v := (x5 + (1 : Int32))) h dX9_harmBy_58 rfl (by rw [kiconst_1]) rfl ?_
          refine j_goto (tgt := 20) h dX9_harmBy_61 (by decide) ?_
          refine j_wk (ls' := [some (.ref (G.2.2 26)), some (.int x1), some (.ref (G.2.2 53)), some (.int v7), some (.int x4), some (.int (x5 + (1 : Int32)))]) (And.intro rfl (And.intro rfl (And.intro rfl (And.intro rfl (And.intro rfl (And.intro rfl trivial)))))) ?_
          exact ih.2 x1 v7 x4 (x5 + (1 : Int32)) m6
set_option maxHeartbeats 4000000 in
set_option maxRecDepth 100000 in
theorem kX9_harmBy (l : Launch) (G : Gt) (hD : ∀ m, va_D (inA G nC) (wC G m)) (m : Mem) (x1 : Int32) : ∀ a, fX9_harmBy m x1 = some a → Ct l G wC nC yX9_harmBy cX9_harmBy 6 (some .int) 5 [.ref (G.2.2 26), .int x1, .ref (G.2.2 53)] m (cvI a) := by
  refine ct_of (own := RX9) (ls0 := [some (.ref (G.2.2 26)), some (.int x1), some (.ref (G.2.2 53)), none, none, none]) (by decide) rfl rfl rfl (Nat.le_of_ble_eq_true rfl) hD (fun X h => ?_) l
  unfold fX9_harmBy
  refine j_iconst (v := (0 : Int32)) h dX9_harmBy_0 kiconst_0 ?_
  refine j_istore_n h dX9_harmBy_1 rfl rfl ?_
  refine j_iconst (v := (0 : Int32)) h dX9_harmBy_2 kiconst_0 ?_
  refine j_istore h dX9_harmBy_3 rfl rfl ?_
  refine j_wk (ls' := [some (.ref (G.2.2 26)), some (.int x1), some (.ref (G.2.2 53)), some (.int (0 : Int32)), some (.int (0 : Int32)), none]) (And.intro rfl (And.intro rfl (And.intro rfl (And.intro rfl (And.intro rfl trivial))))) ?_
  exact (wX9_harmBy h 5000).1 x1 (0 : Int32) (0 : Int32) 0 m
theorem dX9_endDay_0 : DD cX9_endDay 0 (.aload_n 0) 1 1 := ⟨by decide +kernel, rfl⟩
theorem dX9_endDay_1 : DD cX9_endDay 1 (.getfield 14) 3 4 := ⟨by decide +kernel, rfl⟩
theorem dX9_endDay_4 : DD cX9_endDay 4 (.iconst 0) 1 5 := ⟨by decide +kernel, rfl⟩
theorem dX9_endDay_5 : DD cX9_endDay 5 (.putfield 152) 3 8 := ⟨by decide +kernel, rfl⟩
theorem dX9_endDay_8 : DD cX9_endDay 8 (.aload_n 0) 1 9 := ⟨by decide +kernel, rfl⟩
theorem dX9_endDay_9 : DD cX9_endDay 9 (.getfield 14) 3 12 := ⟨by decide +kernel, rfl⟩
theorem dX9_endDay_12 : DD cX9_endDay 12 (.aload_n 0) 1 13 := ⟨by decide +kernel, rfl⟩
theorem dX9_endDay_13 : DD cX9_endDay 13 (.getfield 14) 3 16 := ⟨by decide +kernel, rfl⟩
theorem dX9_endDay_16 : DD cX9_endDay 16 (.getfield 64) 3 19 := ⟨by decide +kernel, rfl⟩
theorem dX9_endDay_19 : DD cX9_endDay 19 (.iconst 1) 1 20 := ⟨by decide +kernel, rfl⟩
theorem dX9_endDay_20 : DD cX9_endDay 20 (.iadd) 1 21 := ⟨by decide +kernel, rfl⟩
theorem dX9_endDay_21 : DD cX9_endDay 21 (.sipush 365) 3 24 := ⟨by decide +kernel, rfl⟩
theorem dX9_endDay_24 : DD cX9_endDay 24 (.irem) 1 25 := ⟨by decide +kernel, rfl⟩
theorem dX9_endDay_25 : DD cX9_endDay 25 (.putfield 64) 3 28 := ⟨by decide +kernel, rfl⟩
theorem dX9_endDay_28 : DD cX9_endDay 28 (.iconst 0) 1 29 := ⟨by decide +kernel, rfl⟩
theorem dX9_endDay_29 : DD cX9_endDay 29 (.istore_n 1) 1 30 := ⟨by decide +kernel, rfl⟩
theorem dX9_endDay_30 : DD cX9_endDay 30 (.iload_n 1) 1 31 := ⟨by decide +kernel, rfl⟩
theorem dX9_endDay_31 : DD cX9_endDay 31 (.aload_n 0) 1 32 := ⟨by decide +kernel, rfl⟩
theorem dX9_endDay_32 : DD cX9_endDay 32 (.getfield 21) 3 35 := ⟨by decide +kernel, rfl⟩
theorem dX9_endDay_35 : DD cX9_endDay 35 (.getfield 53) 3 38 := ⟨by decide +kernel, rfl⟩
theorem dX9_endDay_38 : DD cX9_endDay 38 (.if_icmp .ge 57) 3 41 := ⟨by decide +kernel, rfl⟩
theorem dX9_endDay_41 : DD cX9_endDay 41 (.aload_n 0) 1 42 := ⟨by decide +kernel, rfl⟩
theorem dX9_endDay_42 : DD cX9_endDay 42 (.getfield 14) 3 45 := ⟨by decide +kernel, rfl⟩
theorem dX9_endDay_45 : DD cX9_endDay 45 (.getfield 175) 3 48 := ⟨by decide +kernel, rfl⟩
theorem dX9_endDay_48 : DD cX9_endDay 48 (.iload_n 1) 1 49 := ⟨by decide +kernel, rfl⟩
theorem dX9_endDay_49 : DD cX9_endDay 49 (.dup2) 1 50 := ⟨by decide +kernel, rfl⟩
theorem dX9_endDay_50 : DD cX9_endDay 50 (.iaload) 1 51 := ⟨by decide +kernel, rfl⟩
theorem dX9_endDay_51 : DD cX9_endDay 51 (.aload_n 0) 1 52 := ⟨by decide +kernel, rfl⟩
theorem dX9_endDay_52 : DD cX9_endDay 52 (.getfield 14) 3 55 := ⟨by decide +kernel, rfl⟩
theorem dX9_endDay_55 : DD cX9_endDay 55 (.getfield 166) 3 58 := ⟨by decide +kernel, rfl⟩
theorem dX9_endDay_58 : DD cX9_endDay 58 (.iload_n 1) 1 59 := ⟨by decide +kernel, rfl⟩
theorem dX9_endDay_59 : DD cX9_endDay 59 (.iaload) 1 60 := ⟨by decide +kernel, rfl⟩
theorem dX9_endDay_60 : DD cX9_endDay 60 (.aload_n 0) 1 61 := ⟨by decide +kernel, rfl⟩
theorem dX9_endDay_61 : DD cX9_endDay 61 (.getfield 21) 3 64 := ⟨by decide +kernel, rfl⟩
theorem dX9_endDay_64 : DD cX9_endDay 64 (.getfield 178) 3 67 := ⟨by decide +kernel, rfl⟩
theorem dX9_endDay_67 : DD cX9_endDay 67 (.iload_n 1) 1 68 := ⟨by decide +kernel, rfl⟩
theorem dX9_endDay_68 : DD cX9_endDay 68 (.iaload) 1 69 := ⟨by decide +kernel, rfl⟩
theorem dX9_endDay_69 : DD cX9_endDay 69 (.if_icmp .lt 7) 3 72 := ⟨by decide +kernel, rfl⟩
theorem dX9_endDay_72 : DD cX9_endDay 72 (.iconst 1) 1 73 := ⟨by decide +kernel, rfl⟩
theorem dX9_endDay_73 : DD cX9_endDay 73 (.goto 4) 3 76 := ⟨by decide +kernel, rfl⟩
theorem dX9_endDay_76 : DD cX9_endDay 76 (.iconst 0) 1 77 := ⟨by decide +kernel, rfl⟩
theorem dX9_endDay_77 : DD cX9_endDay 77 (.iadd) 1 78 := ⟨by decide +kernel, rfl⟩
theorem dX9_endDay_78 : DD cX9_endDay 78 (.iastore) 1 79 := ⟨by decide +kernel, rfl⟩
theorem dX9_endDay_79 : DD cX9_endDay 79 (.aload_n 0) 1 80 := ⟨by decide +kernel, rfl⟩
theorem dX9_endDay_80 : DD cX9_endDay 80 (.getfield 14) 3 83 := ⟨by decide +kernel, rfl⟩
theorem dX9_endDay_83 : DD cX9_endDay 83 (.getfield 166) 3 86 := ⟨by decide +kernel, rfl⟩
theorem dX9_endDay_86 : DD cX9_endDay 86 (.iload_n 1) 1 87 := ⟨by decide +kernel, rfl⟩
theorem dX9_endDay_87 : DD cX9_endDay 87 (.iconst 0) 1 88 := ⟨by decide +kernel, rfl⟩
theorem dX9_endDay_88 : DD cX9_endDay 88 (.iastore) 1 89 := ⟨by decide +kernel, rfl⟩
theorem dX9_endDay_89 : DD cX9_endDay 89 (.iinc 1 1) 3 92 := ⟨by decide +kernel, rfl⟩
theorem dX9_endDay_92 : DD cX9_endDay 92 (.goto (-62)) 3 95 := ⟨by decide +kernel, rfl⟩
theorem dX9_endDay_95 : DD cX9_endDay 95 (.return_) 1 96 := ⟨by decide +kernel, rfl⟩
def gX9_endDay : Nat → Int32 → Mem → Option Mem
  | 0, _, _ => none
  | f + 1, x1, m => (gPl (m.2.2 26 1) (if (m.1 (m.2.2 26 1) 5) ≤ x1 then (some m) else (rd (m.1 31) 10 x1 fun v3 => (rd (m.1 30) 10 x1 fun v4 => (rd (m.1 ((m.2.2 26 1) + 7)) 10 x1 fun v5 => (if v4 < v5 then (wr m 31 10 x1 (v3 + (0 : Int32)) fun m7 => (wr m7 30 10 x1 (0 : Int32) fun m8 => (gX9_endDay f (x1 + (1 : Int32)) m8))) else (wr m 31 10 x1 (v3 + (1 : Int32)) fun m9 => (wr m9 30 10 x1 (0 : Int32) fun m10 => (gX9_endDay f (x1 + (1 : Int32)) m10)))))))))
def fX9_endDay (m : Mem) : Option Mem := (pt (sI m 27 5 (0 : Int32)) fun m1 => (pt (sI m1 27 6 (((m1.1 27 6) + (1 : Int32)) - ((m1.1 27 6) + (1 : Int32)) / (365 : Int32) * (365 : Int32))) fun m2 => (gX9_endDay 5000 (0 : Int32) m2)))
set_option maxHeartbeats 4000000 in
set_option maxRecDepth 100000 in
theorem wX9_endDay {X : Cx} {G : Gt} (h : OkX (X, G, wC, nC) cX9_endDay RX9 2 none 1) : ∀ f : Nat, (∀ (x1 : Int32) (m : Mem), JR (X, G, wC, nC) cvV m 30 [some (.ref (G.2.2 26)), some (.int x1)] [] (gX9_endDay f x1 m)) := by
  intro f
  induction f with
  | zero => exact (fun _ _ => j_none)
  | succ f ih =>
    intro x1 m
    rw [gX9_endDay]
    refine j_iload_n h dX9_endDay_30 rfl ?_
    refine j_aload_n h dX9_endDay_31 rfl ?_
    refine gC9_21 h dX9_endDay_32 ?_
    refine j_gPl (fun hg1 => ?_)
    refine gC9_53 h hg1 dX9_endDay_35 ?_
    refine j_icmp_ge (tgt := 95) h dX9_endDay_38 (by decide) (fun c2 => ?_) (fun c2 => ?_)
    · exact j_vret h rfl dX9_endDay_95
    · refine j_aload_n h dX9_endDay_41 rfl ?_
      refine gC9_14 h dX9_endDay_42 ?_
      refine gC9_175 h dX9_endDay_45 ?_
      refine j_iload_n h dX9_endDay_48 rfl ?_
      refine j_dup2 h dX9_endDay_49 rfl rfl ?_
      refine aC_31 h dX9_endDay_50 (fun v3 hv3 => ?_)
      refine j_aload_n h dX9_endDay_51 rfl ?_
      refine gC9_14 h dX9_endDay_52 ?_
      refine gC9_166 h dX9_endDay_55 ?_
      refine j_iload_n h dX9_endDay_58 rfl ?_
      refine aC_30 h dX9_endDay_59 (fun v4 hv4 => ?_)
      refine j_aload_n h dX9_endDay_60 rfl ?_
      refine gC9_21 h dX9_endDay_61 ?_
      refine gC9_178 h hg1 dX9_endDay_64 ?_
      refine j_iload_n h dX9_endDay_67 rfl ?_
      refine aC_Pl7 h hg1 dX9_endDay_68 (fun v5 hv5 => ?_)
      refine j_icmp_lt (tgt := 76) h dX9_endDay_69 (by decide) (fun c6 => ?_) (fun c6 => ?_)
      · refine j_iconst (v := (0 : Int32)) h dX9_endDay_76 kiconst_0 ?_
        refine j_iadd h dX9_endDay_77 ?_
        refine bC_31 h dX9_endDay_78 (fun m7 hm7 => ?_)
        refine j_aload_n h dX9_endDay_79 rfl ?_
        refine gC9_14 h dX9_endDay_80 ?_
        refine gC9_166 h dX9_endDay_83 ?_
        refine j_iload_n h dX9_endDay_86 rfl ?_
        refine j_iconst (v := (0 : Int32)) h dX9_endDay_87 kiconst_0 ?_
        refine bC_30 h dX9_endDay_88 (fun m8 hm8 => ?_)
        refine j_iinc (v := (x1 + (1 : Int32))) h dX9_endDay_89 rfl (by rw [kiconst_1]) rfl ?_
        refine j_goto (tgt := 30) h dX9_endDay_92 (by decide) ?_
        refine j_wk (ls' := [some (.ref (G.2.2 26)), some (.int (x1 + (1 : Int32)))]) (And.intro rfl (And.intro rfl trivial)) ?_
        exact ih (x1 + (1 : Int32)) m8
      · refine j_iconst (v := (1 : Int32)) h dX9_endDay_72 kiconst_1 ?_
        refine j_goto (tgt := 77) h dX9_endDay_73 (by decide) ?_
        refine j_iadd h dX9_endDay_77 ?_
        refine bC_31 h dX9_endDay_78 (fun m9 hm9 => ?_)
        refine j_aload_n h dX9_endDay_79 rfl ?_
        refine gC9_14 h dX9_endDay_80 ?_
        refine gC9_166 h dX9_endDay_83 ?_
        refine j_iload_n h dX9_endDay_86 rfl ?_
        refine j_iconst (v := (0 : Int32)) h dX9_endDay_87 kiconst_0 ?_
        refine bC_30 h dX9_endDay_88 (fun m10 hm10 => ?_)
        refine j_iinc (v := (x1 + (1 : Int32))) h dX9_endDay_89 rfl (by rw [kiconst_1]) rfl ?_
        refine j_goto (tgt := 30) h dX9_endDay_92 (by decide) ?_
        refine j_wk (ls' := [some (.ref (G.2.2 26)), some (.int (x1 + (1 : Int32)))]) (And.intro rfl (And.intro rfl trivial)) ?_
        exact ih (x1 + (1 : Int32)) m10
set_option maxHeartbeats 4000000 in
set_option maxRecDepth 100000 in
theorem kX9_endDay (l : Launch) (G : Gt) (hD : ∀ m, va_D (inA G nC) (wC G m)) (m : Mem) : ∀ a, fX9_endDay m = some a → Ct l G wC nC yX9_endDay cX9_endDay 2 none 1 [.ref (G.2.2 26)] m (cvV a) := by
  refine ct_of (own := RX9) (ls0 := [some (.ref (G.2.2 26)), none]) (by decide) rfl rfl rfl (Nat.le_of_ble_eq_true rfl) hD (fun X h => ?_) l
  unfold fX9_endDay
  refine j_aload_n h dX9_endDay_0 rfl ?_
  refine gC9_14 h dX9_endDay_1 ?_
  refine j_iconst (v := (0 : Int32)) h dX9_endDay_4 kiconst_0 ?_
  refine pC9_152 h dX9_endDay_5 (fun m1 hm1 => ?_)
  refine j_aload_n h dX9_endDay_8 rfl ?_
  refine gC9_14 h dX9_endDay_9 ?_
  refine j_aload_n h dX9_endDay_12 rfl ?_
  refine gC9_14 h dX9_endDay_13 ?_
  refine gC9_64 h dX9_endDay_16 ?_
  refine j_iconst (v := (1 : Int32)) h dX9_endDay_19 kiconst_1 ?_
  refine j_iadd h dX9_endDay_20 ?_
  refine j_sipush (v := (365 : Int32)) h dX9_endDay_21 ksipush_365 ?_
  refine j_iremB h dX9_endDay_24 (by decide) ?_
  refine pC9_64 h dX9_endDay_25 (fun m2 hm2 => ?_)
  refine j_iconst (v := (0 : Int32)) h dX9_endDay_28 kiconst_0 ?_
  refine j_istore_n h dX9_endDay_29 rfl rfl ?_
  refine j_wk (ls' := [some (.ref (G.2.2 26)), some (.int (0 : Int32))]) (And.intro rfl (And.intro rfl trivial)) ?_
  exact (wX9_endDay h 5000) (0 : Int32) m2
theorem dX9_passHour_0 : DD cX9_passHour 0 (.aload_n 0) 1 1 := ⟨by decide +kernel, rfl⟩
theorem dX9_passHour_1 : DD cX9_passHour 1 (.invokevirtual 148) 3 4 := ⟨by decide +kernel, rfl⟩
theorem dX9_passHour_4 : DD cX9_passHour 4 (.astore_n 1) 1 5 := ⟨by decide +kernel, rfl⟩
theorem dX9_passHour_5 : DD cX9_passHour 5 (.iconst 0) 1 6 := ⟨by decide +kernel, rfl⟩
theorem dX9_passHour_6 : DD cX9_passHour 6 (.istore_n 2) 1 7 := ⟨by decide +kernel, rfl⟩
theorem dX9_passHour_7 : DD cX9_passHour 7 (.iconst 0) 1 8 := ⟨by decide +kernel, rfl⟩
theorem dX9_passHour_8 : DD cX9_passHour 8 (.istore_n 3) 1 9 := ⟨by decide +kernel, rfl⟩
theorem dX9_passHour_9 : DD cX9_passHour 9 (.iload_n 3) 1 10 := ⟨by decide +kernel, rfl⟩
theorem dX9_passHour_10 : DD cX9_passHour 10 (.aload_n 0) 1 11 := ⟨by decide +kernel, rfl⟩
theorem dX9_passHour_11 : DD cX9_passHour 11 (.getfield 21) 3 14 := ⟨by decide +kernel, rfl⟩
theorem dX9_passHour_14 : DD cX9_passHour 14 (.getfield 50) 3 17 := ⟨by decide +kernel, rfl⟩
theorem dX9_passHour_17 : DD cX9_passHour 17 (.if_icmp .ge 43) 3 20 := ⟨by decide +kernel, rfl⟩
theorem dX9_passHour_20 : DD cX9_passHour 20 (.aload_n 0) 1 21 := ⟨by decide +kernel, rfl⟩
theorem dX9_passHour_21 : DD cX9_passHour 21 (.iload_n 3) 1 22 := ⟨by decide +kernel, rfl⟩
theorem dX9_passHour_22 : DD cX9_passHour 22 (.aload_n 1) 1 23 := ⟨by decide +kernel, rfl⟩
theorem dX9_passHour_23 : DD cX9_passHour 23 (.aload_n 0) 1 24 := ⟨by decide +kernel, rfl⟩
theorem dX9_passHour_24 : DD cX9_passHour 24 (.getfield 14) 3 27 := ⟨by decide +kernel, rfl⟩
theorem dX9_passHour_27 : DD cX9_passHour 27 (.getfield 152) 3 30 := ⟨by decide +kernel, rfl⟩
theorem dX9_passHour_30 : DD cX9_passHour 30 (.invokevirtual 155) 3 33 := ⟨by decide +kernel, rfl⟩
theorem dX9_passHour_33 : DD cX9_passHour 33 (.istore 4) 2 35 := ⟨by decide +kernel, rfl⟩
theorem dX9_passHour_35 : DD cX9_passHour 35 (.aload_n 0) 1 36 := ⟨by decide +kernel, rfl⟩
theorem dX9_passHour_36 : DD cX9_passHour 36 (.getfield 14) 3 39 := ⟨by decide +kernel, rfl⟩
theorem dX9_passHour_39 : DD cX9_passHour 39 (.getfield 159) 3 42 := ⟨by decide +kernel, rfl⟩
theorem dX9_passHour_42 : DD cX9_passHour 42 (.iload_n 3) 1 43 := ⟨by decide +kernel, rfl⟩
theorem dX9_passHour_43 : DD cX9_passHour 43 (.dup2) 1 44 := ⟨by decide +kernel, rfl⟩
theorem dX9_passHour_44 : DD cX9_passHour 44 (.iaload) 1 45 := ⟨by decide +kernel, rfl⟩
theorem dX9_passHour_45 : DD cX9_passHour 45 (.iload 4) 2 47 := ⟨by decide +kernel, rfl⟩
theorem dX9_passHour_47 : DD cX9_passHour 47 (.iadd) 1 48 := ⟨by decide +kernel, rfl⟩
theorem dX9_passHour_48 : DD cX9_passHour 48 (.iastore) 1 49 := ⟨by decide +kernel, rfl⟩
theorem dX9_passHour_49 : DD cX9_passHour 49 (.iload_n 2) 1 50 := ⟨by decide +kernel, rfl⟩
theorem dX9_passHour_50 : DD cX9_passHour 50 (.iload 4) 2 52 := ⟨by decide +kernel, rfl⟩
theorem dX9_passHour_52 : DD cX9_passHour 52 (.iadd) 1 53 := ⟨by decide +kernel, rfl⟩
theorem dX9_passHour_53 : DD cX9_passHour 53 (.istore_n 2) 1 54 := ⟨by decide +kernel, rfl⟩
theorem dX9_passHour_54 : DD cX9_passHour 54 (.iinc 3 1) 3 57 := ⟨by decide +kernel, rfl⟩
theorem dX9_passHour_57 : DD cX9_passHour 57 (.goto (-48)) 3 60 := ⟨by decide +kernel, rfl⟩
theorem dX9_passHour_60 : DD cX9_passHour 60 (.aload_n 0) 1 61 := ⟨by decide +kernel, rfl⟩
theorem dX9_passHour_61 : DD cX9_passHour 61 (.aload_n 1) 1 62 := ⟨by decide +kernel, rfl⟩
theorem dX9_passHour_62 : DD cX9_passHour 62 (.aload_n 0) 1 63 := ⟨by decide +kernel, rfl⟩
theorem dX9_passHour_63 : DD cX9_passHour 63 (.getfield 14) 3 66 := ⟨by decide +kernel, rfl⟩
theorem dX9_passHour_66 : DD cX9_passHour 66 (.getfield 152) 3 69 := ⟨by decide +kernel, rfl⟩
theorem dX9_passHour_69 : DD cX9_passHour 69 (.invokevirtual 162) 3 72 := ⟨by decide +kernel, rfl⟩
theorem dX9_passHour_72 : DD cX9_passHour 72 (.iconst (-1)) 1 73 := ⟨by decide +kernel, rfl⟩
theorem dX9_passHour_73 : DD cX9_passHour 73 (.ixor) 1 74 := ⟨by decide +kernel, rfl⟩
theorem dX9_passHour_74 : DD cX9_passHour 74 (.istore_n 3) 1 75 := ⟨by decide +kernel, rfl⟩
theorem dX9_passHour_75 : DD cX9_passHour 75 (.iconst 0) 1 76 := ⟨by decide +kernel, rfl⟩
theorem dX9_passHour_76 : DD cX9_passHour 76 (.istore 4) 2 78 := ⟨by decide +kernel, rfl⟩
theorem dX9_passHour_78 : DD cX9_passHour 78 (.iload 4) 2 80 := ⟨by decide +kernel, rfl⟩
theorem dX9_passHour_80 : DD cX9_passHour 80 (.aload_n 0) 1 81 := ⟨by decide +kernel, rfl⟩
theorem dX9_passHour_81 : DD cX9_passHour 81 (.getfield 21) 3 84 := ⟨by decide +kernel, rfl⟩
theorem dX9_passHour_84 : DD cX9_passHour 84 (.getfield 53) 3 87 := ⟨by decide +kernel, rfl⟩
theorem dX9_passHour_87 : DD cX9_passHour 87 (.if_icmp .ge 41) 3 90 := ⟨by decide +kernel, rfl⟩
theorem dX9_passHour_90 : DD cX9_passHour 90 (.aload_n 0) 1 91 := ⟨by decide +kernel, rfl⟩
theorem dX9_passHour_91 : DD cX9_passHour 91 (.getfield 14) 3 94 := ⟨by decide +kernel, rfl⟩
theorem dX9_passHour_94 : DD cX9_passHour 94 (.getfield 166) 3 97 := ⟨by decide +kernel, rfl⟩
theorem dX9_passHour_97 : DD cX9_passHour 97 (.iload 4) 2 99 := ⟨by decide +kernel, rfl⟩
theorem dX9_passHour_99 : DD cX9_passHour 99 (.dup2) 1 100 := ⟨by decide +kernel, rfl⟩
theorem dX9_passHour_100 : DD cX9_passHour 100 (.iaload) 1 101 := ⟨by decide +kernel, rfl⟩
theorem dX9_passHour_101 : DD cX9_passHour 101 (.aload_n 0) 1 102 := ⟨by decide +kernel, rfl⟩
theorem dX9_passHour_102 : DD cX9_passHour 102 (.getfield 21) 3 105 := ⟨by decide +kernel, rfl⟩
theorem dX9_passHour_105 : DD cX9_passHour 105 (.iload 4) 2 107 := ⟨by decide +kernel, rfl⟩
theorem dX9_passHour_107 : DD cX9_passHour 107 (.invokevirtual 169) 3 110 := ⟨by decide +kernel, rfl⟩
theorem dX9_passHour_110 : DD cX9_passHour 110 (.iload_n 3) 1 111 := ⟨by decide +kernel, rfl⟩
theorem dX9_passHour_111 : DD cX9_passHour 111 (.iand) 1 112 := ⟨by decide +kernel, rfl⟩
theorem dX9_passHour_112 : DD cX9_passHour 112 (.ifCond .ne 7) 3 115 := ⟨by decide +kernel, rfl⟩
theorem dX9_passHour_115 : DD cX9_passHour 115 (.iconst 1) 1 116 := ⟨by decide +kernel, rfl⟩
theorem dX9_passHour_116 : DD cX9_passHour 116 (.goto 4) 3 119 := ⟨by decide +kernel, rfl⟩
theorem dX9_passHour_119 : DD cX9_passHour 119 (.iconst 0) 1 120 := ⟨by decide +kernel, rfl⟩
theorem dX9_passHour_120 : DD cX9_passHour 120 (.iadd) 1 121 := ⟨by decide +kernel, rfl⟩
theorem dX9_passHour_121 : DD cX9_passHour 121 (.iastore) 1 122 := ⟨by decide +kernel, rfl⟩
theorem dX9_passHour_122 : DD cX9_passHour 122 (.iinc 4 1) 3 125 := ⟨by decide +kernel, rfl⟩
theorem dX9_passHour_125 : DD cX9_passHour 125 (.goto (-47)) 3 128 := ⟨by decide +kernel, rfl⟩
theorem dX9_passHour_128 : DD cX9_passHour 128 (.aload_n 0) 1 129 := ⟨by decide +kernel, rfl⟩
theorem dX9_passHour_129 : DD cX9_passHour 129 (.getfield 14) 3 132 := ⟨by decide +kernel, rfl⟩
theorem dX9_passHour_132 : DD cX9_passHour 132 (.dup) 1 133 := ⟨by decide +kernel, rfl⟩
theorem dX9_passHour_133 : DD cX9_passHour 133 (.getfield 152) 3 136 := ⟨by decide +kernel, rfl⟩
theorem dX9_passHour_136 : DD cX9_passHour 136 (.iconst 1) 1 137 := ⟨by decide +kernel, rfl⟩
theorem dX9_passHour_137 : DD cX9_passHour 137 (.iadd) 1 138 := ⟨by decide +kernel, rfl⟩
theorem dX9_passHour_138 : DD cX9_passHour 138 (.putfield 152) 3 141 := ⟨by decide +kernel, rfl⟩
theorem dX9_passHour_141 : DD cX9_passHour 141 (.aload_n 0) 1 142 := ⟨by decide +kernel, rfl⟩
theorem dX9_passHour_142 : DD cX9_passHour 142 (.getfield 14) 3 145 := ⟨by decide +kernel, rfl⟩
theorem dX9_passHour_145 : DD cX9_passHour 145 (.getfield 152) 3 148 := ⟨by decide +kernel, rfl⟩
theorem dX9_passHour_148 : DD cX9_passHour 148 (.bipush 24) 2 150 := ⟨by decide +kernel, rfl⟩
theorem dX9_passHour_150 : DD cX9_passHour 150 (.if_icmp .ne 7) 3 153 := ⟨by decide +kernel, rfl⟩
theorem dX9_passHour_153 : DD cX9_passHour 153 (.aload_n 0) 1 154 := ⟨by decide +kernel, rfl⟩
theorem dX9_passHour_154 : DD cX9_passHour 154 (.invokevirtual 172) 3 157 := ⟨by decide +kernel, rfl⟩
theorem dX9_passHour_157 : DD cX9_passHour 157 (.iload_n 2) 1 158 := ⟨by decide +kernel, rfl⟩
theorem dX9_passHour_158 : DD cX9_passHour 158 (.ireturn) 1 159 := ⟨by decide +kernel, rfl⟩
def gX9_passHour : Nat → Nat → Int32 → Int32 → Int32 → Mem → Option (Int32 × Mem)
  | 0, _, _, _, _, _ => none
  | f + 1, 0, x2, x3, x4, m => (gPl (m.2.2 26 1) (if (m.1 (m.2.2 26 1) 0) ≤ x3 then (cP (fX9_whoIsAwake m (m.1 27 5)) fun r3 => (nm (r3 ^^^ (-1 : Int32)) fun v5 => (gX9_passHour f 1 x2 v5 (0 : Int32) m))) else (cI (fX9_harmAt m x3 (m.1 27 5)) fun r6 m7 => (rd (m7.1 29) 7 x3 fun v8 => (wr m7 29 7 x3 (v8 + r6) fun m9 => (nm (x2 + r6) fun v10 => (gX9_passHour f 0 v10 (x3 + (1 : Int32)) 0 m9)))))))
  | f + 1, 1, x2, x3, x4, m => (gPl (m.2.2 26 1) (if (m.1 (m.2.2 26 1) 5) ≤ x4 then (pt (sI m 27 5 ((m.1 27 5) + (1 : Int32))) fun m3 => (if (m3.1 27 5) = (24 : Int32) then (cV (fX9_endDay m3) fun m6 => (some (x2, m6))) else (some (x2, m3)))) else (rd (m.1 30) 10 x4 fun v7 => (cP (fX6_bothOf m (m.2.2 26 1) x4) fun r8 => (if (r8 &&& x3) = 0 then (wr m 30 10 x4 (v7 + (1 : Int32)) fun m12 => (gX9_passHour f 1 x2 x3 (x4 + (1 : Int32)) m12)) else (wr m 30 10 x4 (v7 + (0 : Int32)) fun m11 => (gX9_passHour f 1 x2 x3 (x4 + (1 : Int32)) m11)))))))
  | _ + 1, _ + 2, _, _, _, _ => none
def fX9_passHour (m : Mem) : Option (Int32 × Mem) := (cR (fX9_today m) fun r1 m2 => (gEq r1 53 (gX9_passHour 5000 0 (0 : Int32) (0 : Int32) 0 m2)))
set_option maxHeartbeats 4000000 in
set_option maxRecDepth 100000 in
theorem wX9_passHour {X : Cx} {G : Gt} (h : OkX (X, G, wC, nC) cX9_passHour RX9 5 (some .int) 6) : ∀ f : Nat, (∀ (x2 : Int32) (x3 : Int32) (x4 : Int32) (m : Mem), JR (X, G, wC, nC) cvI m 9 [some (.ref (G.2.2 26)), some (.ref (G.2.2 53)), some (.int x2), some (.int x3), none] [] (gX9_passHour f 0 x2 x3 x4 m)) ∧ (∀ (x2 : Int32) (x3 : Int32) (x4 : Int32) (m : Mem), JR (X, G, wC, nC) cvI m 78 [some (.ref (G.2.2 26)), none, some (.int x2), some (.int x3), some (.int x4)] [] (gX9_passHour f 1 x2 x3 x4 m)) := by
  intro f
  induction f with
  | zero => exact ⟨(fun _ _ _ _ => j_none), (fun _ _ _ _ => j_none)⟩
  | succ f ih =>
    refine ⟨?_, ?_⟩
    · intro x2 x3 x4 m
      rw [gX9_passHour]
      refine j_iload_n h dX9_passHour_9 rfl ?_
      refine j_aload_n h dX9_passHour_10 rfl ?_
      refine gC9_21 h dX9_passHour_11 ?_
      refine j_gPl (fun hg1 => ?_)
      refine gC9_50 h hg1 dX9_passHour_14 ?_
      refine j_icmp_ge (tgt := 60) h dX9_passHour_17 (by decide) (fun c2 => ?_) (fun c2 => ?_)
      · refine j_aload_n h dX9_passHour_60 rfl ?_
        refine j_aload_n h dX9_passHour_61 rfl ?_
        refine j_aload_n h dX9_passHour_62 rfl ?_
        refine gC9_14 h dX9_passHour_63 ?_
        refine gC9_152 h dX9_passHour_66 ?_
        refine j_callVP (q0 := 26) (ci := 9) h [.ref (G.2.2 53), .int (m.1 27 5)] (kX9_whoIsAwake _ G h.2.2.2.2.2.2.2.2.2.2 m (m.1 27 5)) okX9_whoIsAwake inX9_whoIsAwake ml9_162 rfl rfl rfl rfl (by decide) (by decide) (Nat.le_of_ble_eq_true rfl) rfl dX9_passHour_69 (fun r3 hr3 => ?_)
        refine j_iconst (v := (-1 : Int32)) h dX9_passHour_72 kiconst_m1 ?_
        refine j_ixor h dX9_passHour_73 ?_
        refine j_nm (fun v5 hv5 => ?_)
        refine j_istore_n h dX9_passHour_74 rfl rfl ?_
        refine j_iconst (v := (0 : Int32)) h dX9_passHour_75 kiconst_0 ?_
        refine j_istore h dX9_passHour_76 rfl rfl ?_
        refine j_wk (ls' := [some (.ref (G.2.2 26)), none, some (.int x2), some (.int v5), some (.int (0 : Int32))]) (And.intro rfl (And.intro rfl (And.intro rfl (And.intro rfl trivial)))) ?_
        exact ih.2 x2 v5 (0 : Int32) m
      · refine j_aload_n h dX9_passHour_20 rfl ?_
        refine j_iload_n h dX9_passHour_21 rfl ?_
        refine j_aload_n h dX9_passHour_22 rfl ?_
        refine j_aload_n h dX9_passHour_23 rfl ?_
        refine gC9_14 h dX9_passHour_24 ?_
        refine gC9_152 h dX9_passHour_27 ?_
        refine j_callVI (q0 := 26) (ci := 9) h [.int x3, .ref (G.2.2 53), .int (m.1 27 5)] (kX9_harmAt _ G h.2.2.2.2.2.2.2.2.2.2 m x3 (m.1 27 5)) okX9_harmAt inX9_harmAt ml9_155 rfl rfl rfl rfl (by decide) (by decide) (Nat.le_of_ble_eq_true rfl) rfl dX9_passHour_30 (fun r6 m7 hr6 => ?_)
        refine j_istore h dX9_passHour_33 rfl rfl ?_
        refine j_aload_n h dX9_passHour_35 rfl ?_
        refine gC9_14 h dX9_passHour_36 ?_
        refine gC9_159 h dX9_passHour_39 ?_
        refine j_iload_n h dX9_passHour_42 rfl ?_
        refine j_dup2 h dX9_passHour_43 rfl rfl ?_
        refine aC_29 h dX9_passHour_44 (fun v8 hv8 => ?_)
        refine j_iload h dX9_passHour_45 rfl ?_
        refine j_iadd h dX9_passHour_47 ?_
        refine bC_29 h dX9_passHour_48 (fun m9 hm9 => ?_)
        refine j_iload_n h dX9_passHour_49 rfl ?_
        refine j_iload h dX9_passHour_50 rfl ?_
        refine j_iadd h dX9_passHour_52 ?_
        refine j_nm (fun v10 hv10 => ?_)
        refine j_istore_n h dX9_passHour_53 rfl rfl ?_
        refine j_iinc (v := (x3 + (1 : Int32))) h dX9_passHour_54 rfl (by rw [kiconst_1]) rfl ?_
        refine j_goto (tgt := 9) h dX9_passHour_57 (by decide) ?_
        refine j_wk (ls' := [some (.ref (G.2.2 26)), some (.ref (G.2.2 53)), some (.int v10), some (.int (x3 + (1 : Int32))), none]) (And.intro rfl (And.intro rfl (And.intro rfl (And.intro rfl trivial)))) ?_
        exact ih.1 v10 (x3 + (1 : Int32)) 0 m9
    · intro x2 x3 x4 m
      rw [gX9_passHour]
      refine j_iload h dX9_passHour_78 rfl ?_
      refine j_aload_n h dX9_passHour_80 rfl ?_
      refine gC9_21 h dX9_passHour_81 ?_
      refine j_gPl (fun hg1 => ?_)
      refine gC9_53 h hg1 dX9_passHour_84 ?_
      refine j_icmp_ge (tgt := 128) h dX9_passHour_87 (by decide) (fun c2 => ?_) (fun c2 => ?_)
      · refine j_aload_n h dX9_passHour_128 rfl ?_
        refine gC9_14 h dX9_passHour_129 ?_
        refine j_dup h dX9_passHour_132 rfl ?_
        refine gC9_152 h dX9_passHour_133 ?_
        refine j_iconst (v := (1 : Int32)) h dX9_passHour_136 kiconst_1 ?_
        refine j_iadd h dX9_passHour_137 ?_
        refine pC9_152 h dX9_passHour_138 (fun m3 hm3 => ?_)
        refine j_aload_n h dX9_passHour_141 rfl ?_
        refine gC9_14 h dX9_passHour_142 ?_
        refine gC9_152 h dX9_passHour_145 ?_
        refine j_bipush (v := (24 : Int32)) h dX9_passHour_148 kbipush_24 ?_
        refine j_icmp_ne (tgt := 157) h dX9_passHour_150 (by decide) (fun c4 => ?_) (fun c4 => ?_)
        · refine j_iload_n h dX9_passHour_157 rfl ?_
          exact j_iret h rfl dX9_passHour_158
        · refine j_aload_n h dX9_passHour_153 rfl ?_
          refine j_callVV (q0 := 26) (ci := 9) h [] (kX9_endDay _ G h.2.2.2.2.2.2.2.2.2.2 m3) okX9_endDay inX9_endDay ml9_172 rfl rfl rfl rfl (by decide) (by decide) (Nat.le_of_ble_eq_true rfl) rfl dX9_passHour_154 (fun m6 hm6 => ?_)
          refine j_iload_n h dX9_passHour_157 rfl ?_
          exact j_iret h rfl dX9_passHour_158
      · refine j_aload_n h dX9_passHour_90 rfl ?_
        refine gC9_14 h dX9_passHour_91 ?_
        refine gC9_166 h dX9_passHour_94 ?_
        refine j_iload h dX9_passHour_97 rfl ?_
        refine j_dup2 h dX9_passHour_99 rfl rfl ?_
        refine aC_30 h dX9_passHour_100 (fun v7 hv7 => ?_)
        refine j_aload_n h dX9_passHour_101 rfl ?_
        refine gC9_21 h dX9_passHour_102 ?_
        refine j_iload h dX9_passHour_105 rfl ?_
        refine j_callVP (q0 := (m.2.2 26 1)) (ci := 6) h [.int x4] (kX6_bothOf _ G h.2.2.2.2.2.2.2.2.2.2 m (m.2.2 26 1) x4) okX6_bothOf inX6_bothOf ml9_169 rfl (at_Pl hg1) rfl rfl (by decide) (by decide) (Nat.le_of_ble_eq_true rfl) rfl dX9_passHour_107 (fun r8 hr8 => ?_)
        refine j_iload_n h dX9_passHour_110 rfl ?_
        refine j_iand h dX9_passHour_111 ?_
        refine j_if_ne (tgt := 119) h dX9_passHour_112 (by decide) (fun c10 => ?_) (fun c10 => ?_)
        · refine j_iconst (v := (0 : Int32)) h dX9_passHour_119 kiconst_0 ?_
          refine j_iadd h dX9_passHour_120 ?_
          refine bC_30 h dX9_passHour_121 (fun m11 hm11 => ?_)
          refine j_iinc (v := (x4 + (1 : Int32))) h dX9_passHour_122 rfl (by rw [kiconst_1]) rfl ?_
          refine j_goto (tgt := 78) h dX9_passHour_125 (by decide) ?_
          refine j_wk (ls' := [some (.ref (G.2.2 26)), none, some (.int x2), some (.int x3), some (.int (x4 + (1 : Int32)))]) (And.intro rfl (And.intro rfl (And.intro rfl (And.intro rfl trivial)))) ?_
          exact ih.2 x2 x3 (x4 + (1 : Int32)) m11
        · refine j_iconst (v := (1 : Int32)) h dX9_passHour_115 kiconst_1 ?_
          refine j_goto (tgt := 120) h dX9_passHour_116 (by decide) ?_
          refine j_iadd h dX9_passHour_120 ?_
          refine bC_30 h dX9_passHour_121 (fun m12 hm12 => ?_)
          refine j_iinc (v := (x4 + (1 : Int32))) h dX9_passHour_122 rfl (by rw [kiconst_1]) rfl ?_
          refine j_goto (tgt := 78) h dX9_passHour_125 (by decide) ?_
          refine j_wk (ls' := [some (.ref (G.2.2 26)), none, some (.int x2), some (.int x3), some (.int (x4 + (1 : Int32)))]) (And.intro rfl (And.intro rfl (And.intro rfl (And.intro rfl trivial)))) ?_
          exact ih.2 x2 x3 (x4 + (1 : Int32)) m12
set_option maxHeartbeats 4000000 in
set_option maxRecDepth 100000 in
theorem kX9_passHour (l : Launch) (G : Gt) (hD : ∀ m, va_D (inA G nC) (wC G m)) (m : Mem) : ∀ a, fX9_passHour m = some a → Ct l G wC nC yX9_passHour cX9_passHour 5 (some .int) 6 [.ref (G.2.2 26)] m (cvI a) := by
  refine ct_of (own := RX9) (ls0 := [some (.ref (G.2.2 26)), none, none, none, none]) (by decide) rfl rfl rfl (Nat.le_of_ble_eq_true rfl) hD (fun X h => ?_) l
  unfold fX9_passHour
  refine j_aload_n h dX9_passHour_0 rfl ?_
  refine j_callVR (q0 := 26) (ci := 9) h [] (kX9_today _ G h.2.2.2.2.2.2.2.2.2.2 m) okX9_today inX9_today ml9_148 rfl rfl rfl rfl (by decide) (by decide) (Nat.le_of_ble_eq_true rfl) rfl dX9_passHour_1 (fun r1 m2 hr1 => ?_)
  refine j_gEq (fun hg3 => ?_)
  subst hg3
  refine j_astore_n h dX9_passHour_4 rfl rfl ?_
  refine j_iconst (v := (0 : Int32)) h dX9_passHour_5 kiconst_0 ?_
  refine j_istore_n h dX9_passHour_6 rfl rfl ?_
  refine j_iconst (v := (0 : Int32)) h dX9_passHour_7 kiconst_0 ?_
  refine j_istore_n h dX9_passHour_8 rfl rfl ?_
  refine j_wk (ls' := [some (.ref (G.2.2 26)), some (.ref (G.2.2 53)), some (.int (0 : Int32)), some (.int (0 : Int32)), none]) (And.intro rfl (And.intro rfl (And.intro rfl (And.intro rfl trivial)))) ?_
  exact (wX9_passHour h 5000).1 (0 : Int32) (0 : Int32) 0 m2
theorem dX9_hoursTogether_0 : DD cX9_hoursTogether 0 (.aload_n 0) 1 1 := ⟨by decide +kernel, rfl⟩
theorem dX9_hoursTogether_1 : DD cX9_hoursTogether 1 (.iload_n 1) 1 2 := ⟨by decide +kernel, rfl⟩
theorem dX9_hoursTogether_2 : DD cX9_hoursTogether 2 (.aload_n 3) 1 3 := ⟨by decide +kernel, rfl⟩
theorem dX9_hoursTogether_3 : DD cX9_hoursTogether 3 (.invokevirtual 179) 3 6 := ⟨by decide +kernel, rfl⟩
theorem dX9_hoursTogether_6 : DD cX9_hoursTogether 6 (.aload_n 0) 1 7 := ⟨by decide +kernel, rfl⟩
theorem dX9_hoursTogether_7 : DD cX9_hoursTogether 7 (.iload_n 2) 1 8 := ⟨by decide +kernel, rfl⟩
theorem dX9_hoursTogether_8 : DD cX9_hoursTogether 8 (.aload_n 3) 1 9 := ⟨by decide +kernel, rfl⟩
theorem dX9_hoursTogether_9 : DD cX9_hoursTogether 9 (.invokevirtual 179) 3 12 := ⟨by decide +kernel, rfl⟩
theorem dX9_hoursTogether_12 : DD cX9_hoursTogether 12 (.iand) 1 13 := ⟨by decide +kernel, rfl⟩
theorem dX9_hoursTogether_13 : DD cX9_hoursTogether 13 (.invokestatic 183) 3 16 := ⟨by decide +kernel, rfl⟩
theorem dX9_hoursTogether_16 : DD cX9_hoursTogether 16 (.ireturn) 1 17 := ⟨by decide +kernel, rfl⟩
def fX9_hoursTogether (m : Mem) (x1 : Int32) (x2 : Int32) : Option Int32 := (cP (fX9_hoursAwake m x1) fun r1 => (cP (fX9_hoursAwake m x2) fun r3 => (cP (fJ6_bitCount_0f7a4 (r1 &&& r3)) fun r5 => (some r5))))
set_option maxHeartbeats 4000000 in
set_option maxRecDepth 100000 in
theorem kX9_hoursTogether (l : Launch) (G : Gt) (hD : ∀ m, va_D (inA G nC) (wC G m)) (m : Mem) (x1 : Int32) (x2 : Int32) : ∀ a, fX9_hoursTogether m x1 x2 = some a → Ct l G wC nC yX9_hoursTogether cX9_hoursTogether 4 (some .int) 2 [.ref (G.2.2 26), .int x1, .int x2, .ref (G.2.2 53)] m ((cvP m) a) := by
  refine ct_of (own := RX9) (ls0 := [some (.ref (G.2.2 26)), some (.int x1), some (.int x2), some (.ref (G.2.2 53))]) (by decide) rfl rfl rfl (Nat.le_of_ble_eq_true rfl) hD (fun X h => ?_) l
  unfold fX9_hoursTogether
  refine j_aload_n h dX9_hoursTogether_0 rfl ?_
  refine j_iload_n h dX9_hoursTogether_1 rfl ?_
  refine j_aload_n h dX9_hoursTogether_2 rfl ?_
  refine j_callVP (q0 := 26) (ci := 9) h [.int x1, .ref (G.2.2 53)] (kX9_hoursAwake _ G h.2.2.2.2.2.2.2.2.2.2 m x1) okX9_hoursAwake inX9_hoursAwake ml9_179 rfl rfl rfl rfl (by decide) (by decide) (Nat.le_of_ble_eq_true rfl) rfl dX9_hoursTogether_3 (fun r1 hr1 => ?_)
  refine j_aload_n h dX9_hoursTogether_6 rfl ?_
  refine j_iload_n h dX9_hoursTogether_7 rfl ?_
  refine j_aload_n h dX9_hoursTogether_8 rfl ?_
  refine j_callVP (q0 := 26) (ci := 9) h [.int x2, .ref (G.2.2 53)] (kX9_hoursAwake _ G h.2.2.2.2.2.2.2.2.2.2 m x2) okX9_hoursAwake inX9_hoursAwake ml9_179 rfl rfl rfl rfl (by decide) (by decide) (Nat.le_of_ble_eq_true rfl) rfl dX9_hoursTogether_9 (fun r3 hr3 => ?_)
  refine j_iand h dX9_hoursTogether_12 ?_
  refine j_callSP h [.int (r1 &&& r3)] (kJ6_bitCount_0f7a4 _ G h.2.2.2.2.2.2.2.2.2.2 m (r1 &&& r3)) okJ6_bitCount_0f7a4 stJ6_bitCount_0f7a4 ml9_183 rfl rfl (by decide) (by decide) (Nat.le_of_ble_eq_true rfl) rfl dX9_hoursTogether_13 (fun r5 hr5 => ?_)
  exact j_iret h rfl dX9_hoursTogether_16
theorem dX9_canMeet_0 : DD cX9_canMeet 0 (.aload_n 0) 1 1 := ⟨by decide +kernel, rfl⟩
theorem dX9_canMeet_1 : DD cX9_canMeet 1 (.aload_n 0) 1 2 := ⟨by decide +kernel, rfl⟩
theorem dX9_canMeet_2 : DD cX9_canMeet 2 (.getfield 21) 3 5 := ⟨by decide +kernel, rfl⟩
theorem dX9_canMeet_5 : DD cX9_canMeet 5 (.getfield 188) 3 8 := ⟨by decide +kernel, rfl⟩
theorem dX9_canMeet_8 : DD cX9_canMeet 8 (.iload_n 1) 1 9 := ⟨by decide +kernel, rfl⟩
theorem dX9_canMeet_9 : DD cX9_canMeet 9 (.iaload) 1 10 := ⟨by decide +kernel, rfl⟩
theorem dX9_canMeet_10 : DD cX9_canMeet 10 (.aload_n 0) 1 11 := ⟨by decide +kernel, rfl⟩
theorem dX9_canMeet_11 : DD cX9_canMeet 11 (.getfield 21) 3 14 := ⟨by decide +kernel, rfl⟩
theorem dX9_canMeet_14 : DD cX9_canMeet 14 (.getfield 191) 3 17 := ⟨by decide +kernel, rfl⟩
theorem dX9_canMeet_17 : DD cX9_canMeet 17 (.iload_n 1) 1 18 := ⟨by decide +kernel, rfl⟩
theorem dX9_canMeet_18 : DD cX9_canMeet 18 (.iaload) 1 19 := ⟨by decide +kernel, rfl⟩
theorem dX9_canMeet_19 : DD cX9_canMeet 19 (.aload_n 2) 1 20 := ⟨by decide +kernel, rfl⟩
theorem dX9_canMeet_20 : DD cX9_canMeet 20 (.invokevirtual 194) 3 23 := ⟨by decide +kernel, rfl⟩
theorem dX9_canMeet_23 : DD cX9_canMeet 23 (.aload_n 0) 1 24 := ⟨by decide +kernel, rfl⟩
theorem dX9_canMeet_24 : DD cX9_canMeet 24 (.getfield 21) 3 27 := ⟨by decide +kernel, rfl⟩
theorem dX9_canMeet_27 : DD cX9_canMeet 27 (.getfield 178) 3 30 := ⟨by decide +kernel, rfl⟩
theorem dX9_canMeet_30 : DD cX9_canMeet 30 (.iload_n 1) 1 31 := ⟨by decide +kernel, rfl⟩
theorem dX9_canMeet_31 : DD cX9_canMeet 31 (.iaload) 1 32 := ⟨by decide +kernel, rfl⟩
theorem dX9_canMeet_32 : DD cX9_canMeet 32 (.if_icmp .lt 7) 3 35 := ⟨by decide +kernel, rfl⟩
theorem dX9_canMeet_35 : DD cX9_canMeet 35 (.iconst 1) 1 36 := ⟨by decide +kernel, rfl⟩
theorem dX9_canMeet_36 : DD cX9_canMeet 36 (.goto 4) 3 39 := ⟨by decide +kernel, rfl⟩
theorem dX9_canMeet_39 : DD cX9_canMeet 39 (.iconst 0) 1 40 := ⟨by decide +kernel, rfl⟩
theorem dX9_canMeet_40 : DD cX9_canMeet 40 (.ireturn) 1 41 := ⟨by decide +kernel, rfl⟩
def fX9_canMeet (m : Mem) (x1 : Int32) : Option Int32 := (gPl (m.2.2 26 1) (rd (m.1 ((m.2.2 26 1) + 5)) 10 x1 fun v2 => (rd (m.1 ((m.2.2 26 1) + 6)) 10 x1 fun v3 => (cP (fX9_hoursTogether m v2 v3) fun r4 => (rd (m.1 ((m.2.2 26 1) + 7)) 10 x1 fun v6 => (if r4 < v6 then (some (0 : Int32)) else (some (1 : Int32))))))))
set_option maxHeartbeats 4000000 in
set_option maxRecDepth 100000 in
theorem kX9_canMeet (l : Launch) (G : Gt) (hD : ∀ m, va_D (inA G nC) (wC G m)) (m : Mem) (x1 : Int32) : ∀ a, fX9_canMeet m x1 = some a → Ct l G wC nC yX9_canMeet cX9_canMeet 3 (some .boolean) 3 [.ref (G.2.2 26), .int x1, .ref (G.2.2 53)] m ((cvP m) a) := by
  refine ct_of (own := RX9) (ls0 := [some (.ref (G.2.2 26)), some (.int x1), some (.ref (G.2.2 53))]) (by decide) rfl rfl rfl (Nat.le_of_ble_eq_true rfl) hD (fun X h => ?_) l
  unfold fX9_canMeet
  refine j_aload_n h dX9_canMeet_0 rfl ?_
  refine j_aload_n h dX9_canMeet_1 rfl ?_
  refine gC9_21 h dX9_canMeet_2 ?_
  refine j_gPl (fun hg1 => ?_)
  refine gC9_188 h hg1 dX9_canMeet_5 ?_
  refine j_iload_n h dX9_canMeet_8 rfl ?_
  refine aC_Pl5 h hg1 dX9_canMeet_9 (fun v2 hv2 => ?_)
  refine j_aload_n h dX9_canMeet_10 rfl ?_
  refine gC9_21 h dX9_canMeet_11 ?_
  refine gC9_191 h hg1 dX9_canMeet_14 ?_
  refine j_iload_n h dX9_canMeet_17 rfl ?_
  refine aC_Pl6 h hg1 dX9_canMeet_18 (fun v3 hv3 => ?_)
  refine j_aload_n h dX9_canMeet_19 rfl ?_
  refine j_callVP (q0 := 26) (ci := 9) h [.int v2, .int v3, .ref (G.2.2 53)] (kX9_hoursTogether _ G h.2.2.2.2.2.2.2.2.2.2 m v2 v3) okX9_hoursTogether inX9_hoursTogether ml9_194 rfl rfl rfl rfl (by decide) (by decide) (Nat.le_of_ble_eq_true rfl) rfl dX9_canMeet_20 (fun r4 hr4 => ?_)
  refine j_aload_n h dX9_canMeet_23 rfl ?_
  refine gC9_21 h dX9_canMeet_24 ?_
  refine gC9_178 h hg1 dX9_canMeet_27 ?_
  refine j_iload_n h dX9_canMeet_30 rfl ?_
  refine aC_Pl7 h hg1 dX9_canMeet_31 (fun v6 hv6 => ?_)
  refine j_icmp_lt (tgt := 39) h dX9_canMeet_32 (by decide) (fun c7 => ?_) (fun c7 => ?_)
  · refine j_iconst (v := (0 : Int32)) h dX9_canMeet_39 kiconst_0 ?_
    exact j_zretB h rfl rfl dX9_canMeet_40
  · refine j_iconst (v := (1 : Int32)) h dX9_canMeet_35 kiconst_1 ?_
    refine j_goto (tgt := 40) h dX9_canMeet_36 (by decide) ?_
    exact j_zretB h rfl rfl dX9_canMeet_40
theorem dX9_worthOfMeets_0 : DD cX9_worthOfMeets 0 (.iconst 0) 1 1 := ⟨by decide +kernel, rfl⟩
theorem dX9_worthOfMeets_1 : DD cX9_worthOfMeets 1 (.istore_n 3) 1 2 := ⟨by decide +kernel, rfl⟩
theorem dX9_worthOfMeets_2 : DD cX9_worthOfMeets 2 (.iconst 0) 1 3 := ⟨by decide +kernel, rfl⟩
theorem dX9_worthOfMeets_3 : DD cX9_worthOfMeets 3 (.istore 4) 2 5 := ⟨by decide +kernel, rfl⟩
theorem dX9_worthOfMeets_5 : DD cX9_worthOfMeets 5 (.iload 4) 2 7 := ⟨by decide +kernel, rfl⟩
theorem dX9_worthOfMeets_7 : DD cX9_worthOfMeets 7 (.aload_n 0) 1 8 := ⟨by decide +kernel, rfl⟩
theorem dX9_worthOfMeets_8 : DD cX9_worthOfMeets 8 (.getfield 21) 3 11 := ⟨by decide +kernel, rfl⟩
theorem dX9_worthOfMeets_11 : DD cX9_worthOfMeets 11 (.getfield 53) 3 14 := ⟨by decide +kernel, rfl⟩
theorem dX9_worthOfMeets_14 : DD cX9_worthOfMeets 14 (.if_icmp .ge 62) 3 17 := ⟨by decide +kernel, rfl⟩
theorem dX9_worthOfMeets_17 : DD cX9_worthOfMeets 17 (.aload_n 0) 1 18 := ⟨by decide +kernel, rfl⟩
theorem dX9_worthOfMeets_18 : DD cX9_worthOfMeets 18 (.getfield 21) 3 21 := ⟨by decide +kernel, rfl⟩
theorem dX9_worthOfMeets_21 : DD cX9_worthOfMeets 21 (.iload 4) 2 23 := ⟨by decide +kernel, rfl⟩
theorem dX9_worthOfMeets_23 : DD cX9_worthOfMeets 23 (.invokevirtual 169) 3 26 := ⟨by decide +kernel, rfl⟩
theorem dX9_worthOfMeets_26 : DD cX9_worthOfMeets 26 (.iload_n 1) 1 27 := ⟨by decide +kernel, rfl⟩
theorem dX9_worthOfMeets_27 : DD cX9_worthOfMeets 27 (.iand) 1 28 := ⟨by decide +kernel, rfl⟩
theorem dX9_worthOfMeets_28 : DD cX9_worthOfMeets 28 (.ifCond .eq 17) 3 31 := ⟨by decide +kernel, rfl⟩
theorem dX9_worthOfMeets_31 : DD cX9_worthOfMeets 31 (.aload_n 0) 1 32 := ⟨by decide +kernel, rfl⟩
theorem dX9_worthOfMeets_32 : DD cX9_worthOfMeets 32 (.iload 4) 2 34 := ⟨by decide +kernel, rfl⟩
theorem dX9_worthOfMeets_34 : DD cX9_worthOfMeets 34 (.aload_n 2) 1 35 := ⟨by decide +kernel, rfl⟩
theorem dX9_worthOfMeets_35 : DD cX9_worthOfMeets 35 (.invokevirtual 197) 3 38 := ⟨by decide +kernel, rfl⟩
theorem dX9_worthOfMeets_38 : DD cX9_worthOfMeets 38 (.ifCond .eq 7) 3 41 := ⟨by decide +kernel, rfl⟩
theorem dX9_worthOfMeets_41 : DD cX9_worthOfMeets 41 (.iconst 1) 1 42 := ⟨by decide +kernel, rfl⟩
theorem dX9_worthOfMeets_42 : DD cX9_worthOfMeets 42 (.goto 4) 3 45 := ⟨by decide +kernel, rfl⟩
theorem dX9_worthOfMeets_45 : DD cX9_worthOfMeets 45 (.iconst 0) 1 46 := ⟨by decide +kernel, rfl⟩
theorem dX9_worthOfMeets_46 : DD cX9_worthOfMeets 46 (.istore 5) 2 48 := ⟨by decide +kernel, rfl⟩
theorem dX9_worthOfMeets_48 : DD cX9_worthOfMeets 48 (.iload_n 3) 1 49 := ⟨by decide +kernel, rfl⟩
theorem dX9_worthOfMeets_49 : DD cX9_worthOfMeets 49 (.iload 5) 2 51 := ⟨by decide +kernel, rfl⟩
theorem dX9_worthOfMeets_51 : DD cX9_worthOfMeets 51 (.ifCond .eq 16) 3 54 := ⟨by decide +kernel, rfl⟩
theorem dX9_worthOfMeets_54 : DD cX9_worthOfMeets 54 (.aload_n 0) 1 55 := ⟨by decide +kernel, rfl⟩
theorem dX9_worthOfMeets_55 : DD cX9_worthOfMeets 55 (.getfield 21) 3 58 := ⟨by decide +kernel, rfl⟩
theorem dX9_worthOfMeets_58 : DD cX9_worthOfMeets 58 (.getfield 201) 3 61 := ⟨by decide +kernel, rfl⟩
theorem dX9_worthOfMeets_61 : DD cX9_worthOfMeets 61 (.iload 4) 2 63 := ⟨by decide +kernel, rfl⟩
theorem dX9_worthOfMeets_63 : DD cX9_worthOfMeets 63 (.iaload) 1 64 := ⟨by decide +kernel, rfl⟩
theorem dX9_worthOfMeets_64 : DD cX9_worthOfMeets 64 (.goto 4) 3 67 := ⟨by decide +kernel, rfl⟩
theorem dX9_worthOfMeets_67 : DD cX9_worthOfMeets 67 (.iconst 0) 1 68 := ⟨by decide +kernel, rfl⟩
theorem dX9_worthOfMeets_68 : DD cX9_worthOfMeets 68 (.iadd) 1 69 := ⟨by decide +kernel, rfl⟩
theorem dX9_worthOfMeets_69 : DD cX9_worthOfMeets 69 (.istore_n 3) 1 70 := ⟨by decide +kernel, rfl⟩
theorem dX9_worthOfMeets_70 : DD cX9_worthOfMeets 70 (.iinc 4 1) 3 73 := ⟨by decide +kernel, rfl⟩
theorem dX9_worthOfMeets_73 : DD cX9_worthOfMeets 73 (.goto (-68)) 3 76 := ⟨by decide +kernel, rfl⟩
theorem dX9_worthOfMeets_76 : DD cX9_worthOfMeets 76 (.iload_n 3) 1 77 := ⟨by decide +kernel, rfl⟩
theorem dX9_worthOfMeets_77 : DD cX9_worthOfMeets 77 (.ireturn) 1 78 := ⟨by decide +kernel, rfl⟩
def gX9_worthOfMeets (m : Mem) : Nat → Int32 → Int32 → Int32 → Option Int32
  | 0, _, _, _ => none
  | f + 1, x1, x3, x4 => (gPl (m.2.2 26 1) (if (m.1 (m.2.2 26 1) 5) ≤ x4 then (some x3) else (cP (fX6_bothOf m (m.2.2 26 1) x4) fun r3 => (if (r3 &&& x1) = 0 then (nm (x3 + (0 : Int32)) fun v6 => (gX9_worthOfMeets m f x1 v6 (x4 + (1 : Int32)))) else (cP (fX9_canMeet m x4) fun r7 => (if r7 = 0 then (nm (x3 + (0 : Int32)) fun v10 => (gX9_worthOfMeets m f x1 v10 (x4 + (1 : Int32)))) else (rd (m.1 ((m.2.2 26 1) + 8)) 10 x4 fun v11 => (nm (x3 + v11) fun v12 => (gX9_worthOfMeets m f x1 v12 (x4 + (1 : Int32)))))))))))
def fX9_worthOfMeets (m : Mem) (x1 : Int32) : Option Int32 := (gX9_worthOfMeets m 5000 x1 (0 : Int32) (0 : Int32))
set_option maxHeartbeats 4000000 in
set_option maxRecDepth 100000 in
theorem wX9_worthOfMeets {X : Cx} {G : Gt} (h : OkX (X, G, wC, nC) cX9_worthOfMeets RX9 6 (some .int) 4) (m : Mem) : ∀ f : Nat, (∀ (x1 : Int32) (x3 : Int32) (x4 : Int32), JR (X, G, wC, nC) (cvP m) m 5 [some (.ref (G.2.2 26)), some (.int x1), some (.ref (G.2.2 53)), some (.int x3), some (.int x4), none] [] (gX9_worthOfMeets m f x1 x3 x4)) := by
  intro f
  induction f with
  | zero => exact (fun _ _ _ => j_none)
  | succ f ih =>
    intro x1 x3 x4
    rw [gX9_worthOfMeets]
    refine j_iload h dX9_worthOfMeets_5 rfl ?_
    refine j_aload_n h dX9_worthOfMeets_7 rfl ?_
    refine gC9_21 h dX9_worthOfMeets_8 ?_
    refine j_gPl (fun hg1 => ?_)
    refine gC9_53 h hg1 dX9_worthOfMeets_11 ?_
    refine j_icmp_ge (tgt := 76) h dX9_worthOfMeets_14 (by decide) (fun c2 => ?_) (fun c2 => ?_)
    · refine j_iload_n h dX9_worthOfMeets_76 rfl ?_
      exact j_iret h rfl dX9_worthOfMeets_77
    · refine j_aload_n h dX9_worthOfMeets_17 rfl ?_
      refine gC9_21 h dX9_worthOfMeets_18 ?_
      refine j_iload h dX9_worthOfMeets_21 rfl ?_
      refine j_callVP (q0 := (m.2.2 26 1)) (ci := 6) h [.int x4] (kX6_bothOf _ G h.2.2.2.2.2.2.2.2.2.2 m (m.2.2 26 1) x4) okX6_bothOf inX6_bothOf ml9_169 rfl (at_Pl hg1) rfl rfl (by decide) (by decide) (Nat.le_of_ble_eq_true rfl) rfl dX9_worthOfMeets_23 (fun r3 hr3 => ?_)
      refine j_iload_n h dX9_worthOfMeets_26 rfl ?_
      refine j_iand h dX9_worthOfMeets_27 ?_
      refine j_if_eq (tgt := 45) h dX9_worthOfMeets_28 (by decide) (fun c5 => ?_) (fun c5 => ?_)
      · refine j_iconst (v := (0 : Int32)) h dX9_worthOfMeets_45 kiconst_0 ?_
        refine j_istore h dX9_worthOfMeets_46 rfl rfl ?_
        refine j_iload_n h dX9_worthOfMeets_48 rfl ?_
        refine j_iload h dX9_worthOfMeets_49 rfl ?_
        refine j_if_eqB (tgt := 67) h dX9_worthOfMeets_51 (by decide) (fun _ => ?_) (fun cc => absurd (by decide) cc)
        refine j_iconst (v := (0 : Int32)) h dX9_worthOfMeets_67 kiconst_0 ?_
        refine j_iadd h dX9_worthOfMeets_68 ?_
        refine j_nm (fun v6 hv6 => ?_)
        refine j_istore_n h dX9_worthOfMeets_69 rfl rfl ?_
        refine j_iinc (v := (x4 + (1 : Int32))) h dX9_worthOfMeets_70 rfl (by rw [kiconst_1]) rfl ?_
        refine j_goto (tgt := 5) h dX9_worthOfMeets_73 (by decide) ?_
        refine j_wk (ls' := [some (.ref (G.2.2 26)), some (.int x1), some (.ref (G.2.2 53)), some (.int v6), some (.int (x4 + (1 : Int32))), none]) (And.intro rfl (And.intro rfl (And.intro rfl (And.intro rfl (And.intro rfl trivial))))) ?_
        exact ih x1 v6 (x4 + (1 : Int32))
      · refine j_aload_n h dX9_worthOfMeets_31 rfl ?_
        refine j_iload h dX9_worthOfMeets_32 rfl ?_
        refine j_aload_n h dX9_worthOfMeets_34 rfl ?_
        refine j_callVP (q0 := 26) (ci := 9) h [.int x4, .ref (G.2.2 53)] (kX9_canMeet _ G h.2.2.2.2.2.2.2.2.2.2 m x4) okX9_canMeet inX9_canMeet ml9_197 rfl rfl rfl rfl (by decide) (by decide) (Nat.le_of_ble_eq_true rfl) rfl dX9_worthOfMeets_35 (fun r7 hr7 => ?_)
        refine j_if_eq (tgt := 45) h dX9_worthOfMeets_38 (by decide) (fun c9 => ?_) (fun c9 => ?_)
        · refine j_iconst (v := (0 : Int32)) h dX9_worthOfMeets_45 kiconst_0 ?_
          refine j_istore h dX9_worthOfMeets_46 rfl rfl ?_
          refine j_iload_n h dX9_worthOfMeets_48 rfl ?_
          refine j_iload h dX9_worthOfMeets_49 rfl ?_
          refine j_if_eqB (tgt := 67) h dX9_worthOfMeets_51 (by decide) (fun _ => ?_) (fun cc => absurd (by decide) cc)
          refine j_iconst (v := (0 : Int32)) h dX9_worthOfMeets_67 kiconst_0 ?_
          refine j_iadd h dX9_worthOfMeets_68 ?_
          refine j_nm (fun v10 hv10 => ?_)
          refine j_istore_n h dX9_worthOfMeets_69 rfl rfl ?_
          refine j_iinc (v := (x4 + (1 : Int32))) h dX9_worthOfMeets_70 rfl (by rw [kiconst_1]) rfl ?_
          refine j_goto (tgt := 5) h dX9_worthOfMeets_73 (by decide) ?_
          refine j_wk (ls' := [some (.ref (G.2.2 26)), some (.int x1), some (.ref (G.2.2 53)), some (.int v10), some (.int (x4 + (1 : Int32))), none]) (And.intro rfl (And.intro rfl (And.intro rfl (And.intro rfl (And.intro rfl trivial))))) ?_
          exact ih x1 v10 (x4 + (1 : Int32))
        · refine j_iconst (v := (1 : Int32)) h dX9_worthOfMeets_41 kiconst_1 ?_
          refine j_goto (tgt := 46) h dX9_worthOfMeets_42 (by decide) ?_
          refine j_istore h dX9_worthOfMeets_46 rfl rfl ?_
          refine j_iload_n h dX9_worthOfMeets_48 rfl ?_
          refine j_iload h dX9_worthOfMeets_49 rfl ?_
          refine j_if_eqB (tgt := 67) h dX9_worthOfMeets_51 (by decide) (fun cc => absurd cc (by decide)) (fun _ => ?_)
          refine j_aload_n h dX9_worthOfMeets_54 rfl ?_
          refine gC9_21 h dX9_worthOfMeets_55 ?_
          refine gC9_201 h hg1 dX9_worthOfMeets_58 ?_
          refine j_iload h dX9_worthOfMeets_61 rfl ?_
          refine aC_Pl8 h hg1 dX9_worthOfMeets_63 (fun v11 hv11 => ?_)
          refine j_goto (tgt := 68) h dX9_worthOfMeets_64 (by decide) ?_
          refine j_iadd h dX9_worthOfMeets_68 ?_
          refine j_nm (fun v12 hv12 => ?_)
          refine j_istore_n h dX9_worthOfMeets_69 rfl rfl ?_
          refine j_iinc (v := (x4 + (1 : Int32))) h dX9_worthOfMeets_70 rfl (by rw [kiconst_1]) rfl ?_
          refine j_goto (tgt := 5) h dX9_worthOfMeets_73 (by decide) ?_
          refine j_wk (ls' := [some (.ref (G.2.2 26)), some (.int x1), some (.ref (G.2.2 53)), some (.int v12), some (.int (x4 + (1 : Int32))), none]) (And.intro rfl (And.intro rfl (And.intro rfl (And.intro rfl (And.intro rfl trivial))))) ?_
          exact ih x1 v12 (x4 + (1 : Int32))
set_option maxHeartbeats 4000000 in
set_option maxRecDepth 100000 in
theorem kX9_worthOfMeets (l : Launch) (G : Gt) (hD : ∀ m, va_D (inA G nC) (wC G m)) (m : Mem) (x1 : Int32) : ∀ a, fX9_worthOfMeets m x1 = some a → Ct l G wC nC yX9_worthOfMeets cX9_worthOfMeets 6 (some .int) 4 [.ref (G.2.2 26), .int x1, .ref (G.2.2 53)] m ((cvP m) a) := by
  refine ct_of (own := RX9) (ls0 := [some (.ref (G.2.2 26)), some (.int x1), some (.ref (G.2.2 53)), none, none, none]) (by decide) rfl rfl rfl (Nat.le_of_ble_eq_true rfl) hD (fun X h => ?_) l
  unfold fX9_worthOfMeets
  refine j_iconst (v := (0 : Int32)) h dX9_worthOfMeets_0 kiconst_0 ?_
  refine j_istore_n h dX9_worthOfMeets_1 rfl rfl ?_
  refine j_iconst (v := (0 : Int32)) h dX9_worthOfMeets_2 kiconst_0 ?_
  refine j_istore h dX9_worthOfMeets_3 rfl rfl ?_
  refine j_wk (ls' := [some (.ref (G.2.2 26)), some (.int x1), some (.ref (G.2.2 53)), some (.int (0 : Int32)), some (.int (0 : Int32)), none]) (And.intro rfl (And.intro rfl (And.intro rfl (And.intro rfl (And.intro rfl trivial))))) ?_
  exact (wX9_worthOfMeets h m 5000) x1 (0 : Int32) (0 : Int32)
theorem dX9_blissOf_0 : DD cX9_blissOf 0 (.aload_n 0) 1 1 := ⟨by decide +kernel, rfl⟩
theorem dX9_blissOf_1 : DD cX9_blissOf 1 (.aload_n 0) 1 2 := ⟨by decide +kernel, rfl⟩
theorem dX9_blissOf_2 : DD cX9_blissOf 2 (.invokevirtual 204) 3 5 := ⟨by decide +kernel, rfl⟩
theorem dX9_blissOf_5 : DD cX9_blissOf 5 (.aload_n 1) 1 6 := ⟨by decide +kernel, rfl⟩
theorem dX9_blissOf_6 : DD cX9_blissOf 6 (.invokevirtual 208) 3 9 := ⟨by decide +kernel, rfl⟩
theorem dX9_blissOf_9 : DD cX9_blissOf 9 (.istore_n 2) 1 10 := ⟨by decide +kernel, rfl⟩
theorem dX9_blissOf_10 : DD cX9_blissOf 10 (.iconst 0) 1 11 := ⟨by decide +kernel, rfl⟩
theorem dX9_blissOf_11 : DD cX9_blissOf 11 (.istore_n 3) 1 12 := ⟨by decide +kernel, rfl⟩
theorem dX9_blissOf_12 : DD cX9_blissOf 12 (.iload_n 3) 1 13 := ⟨by decide +kernel, rfl⟩
theorem dX9_blissOf_13 : DD cX9_blissOf 13 (.aload_n 0) 1 14 := ⟨by decide +kernel, rfl⟩
theorem dX9_blissOf_14 : DD cX9_blissOf 14 (.getfield 21) 3 17 := ⟨by decide +kernel, rfl⟩
theorem dX9_blissOf_17 : DD cX9_blissOf 17 (.getfield 50) 3 20 := ⟨by decide +kernel, rfl⟩
theorem dX9_blissOf_20 : DD cX9_blissOf 20 (.if_icmp .ge 18) 3 23 := ⟨by decide +kernel, rfl⟩
theorem dX9_blissOf_23 : DD cX9_blissOf 23 (.iload_n 2) 1 24 := ⟨by decide +kernel, rfl⟩
theorem dX9_blissOf_24 : DD cX9_blissOf 24 (.aload_n 0) 1 25 := ⟨by decide +kernel, rfl⟩
theorem dX9_blissOf_25 : DD cX9_blissOf 25 (.iload_n 3) 1 26 := ⟨by decide +kernel, rfl⟩
theorem dX9_blissOf_26 : DD cX9_blissOf 26 (.aload_n 1) 1 27 := ⟨by decide +kernel, rfl⟩
theorem dX9_blissOf_27 : DD cX9_blissOf 27 (.invokevirtual 211) 3 30 := ⟨by decide +kernel, rfl⟩
theorem dX9_blissOf_30 : DD cX9_blissOf 30 (.isub) 1 31 := ⟨by decide +kernel, rfl⟩
theorem dX9_blissOf_31 : DD cX9_blissOf 31 (.istore_n 2) 1 32 := ⟨by decide +kernel, rfl⟩
theorem dX9_blissOf_32 : DD cX9_blissOf 32 (.iinc 3 1) 3 35 := ⟨by decide +kernel, rfl⟩
theorem dX9_blissOf_35 : DD cX9_blissOf 35 (.goto (-23)) 3 38 := ⟨by decide +kernel, rfl⟩
theorem dX9_blissOf_38 : DD cX9_blissOf 38 (.iload_n 2) 1 39 := ⟨by decide +kernel, rfl⟩
theorem dX9_blissOf_39 : DD cX9_blissOf 39 (.ireturn) 1 40 := ⟨by decide +kernel, rfl⟩
def gX9_blissOf : Nat → Int32 → Int32 → Mem → Option (Int32 × Mem)
  | 0, _, _, _ => none
  | f + 1, x2, x3, m => (gPl (m.2.2 26 1) (if (m.1 (m.2.2 26 1) 0) ≤ x3 then (some (x2, m)) else (cI (fX9_harmOn m x3) fun r3 m4 => (nm (x2 - r3) fun v5 => (gX9_blissOf f v5 (x3 + (1 : Int32)) m4)))))
def fX9_blissOf (m : Mem) : Option (Int32 × Mem) := (cP (fX9_everybody m) fun r1 => (cP (fX9_worthOfMeets m r1) fun r3 => (gX9_blissOf 5000 r3 (0 : Int32) m)))
set_option maxHeartbeats 4000000 in
set_option maxRecDepth 100000 in
theorem wX9_blissOf {X : Cx} {G : Gt} (h : OkX (X, G, wC, nC) cX9_blissOf RX9 4 (some .int) 6) : ∀ f : Nat, (∀ (x2 : Int32) (x3 : Int32) (m : Mem), JR (X, G, wC, nC) cvI m 12 [some (.ref (G.2.2 26)), some (.ref (G.2.2 53)), some (.int x2), some (.int x3)] [] (gX9_blissOf f x2 x3 m)) := by
  intro f
  induction f with
  | zero => exact (fun _ _ _ => j_none)
  | succ f ih =>
    intro x2 x3 m
    rw [gX9_blissOf]
    refine j_iload_n h dX9_blissOf_12 rfl ?_
    refine j_aload_n h dX9_blissOf_13 rfl ?_
    refine gC9_21 h dX9_blissOf_14 ?_
    refine j_gPl (fun hg1 => ?_)
    refine gC9_50 h hg1 dX9_blissOf_17 ?_
    refine j_icmp_ge (tgt := 38) h dX9_blissOf_20 (by decide) (fun c2 => ?_) (fun c2 => ?_)
    · refine j_iload_n h dX9_blissOf_38 rfl ?_
      exact j_iret h rfl dX9_blissOf_39
    · refine j_iload_n h dX9_blissOf_23 rfl ?_
      refine j_aload_n h dX9_blissOf_24 rfl ?_
      refine j_iload_n h dX9_blissOf_25 rfl ?_
      refine j_aload_n h dX9_blissOf_26 rfl ?_
      refine j_callVI (q0 := 26) (ci := 9) h [.int x3, .ref (G.2.2 53)] (kX9_harmOn _ G h.2.2.2.2.2.2.2.2.2.2 m x3) okX9_harmOn inX9_harmOn ml9_211 rfl rfl rfl rfl (by decide) (by decide) (Nat.le_of_ble_eq_true rfl) rfl dX9_blissOf_27 (fun r3 m4 hr3 => ?_)
      refine j_isub h dX9_blissOf_30 ?_
      refine j_nm (fun v5 hv5 => ?_)
      refine j_istore_n h dX9_blissOf_31 rfl rfl ?_
      refine j_iinc (v := (x3 + (1 : Int32))) h dX9_blissOf_32 rfl (by rw [kiconst_1]) rfl ?_
      refine j_goto (tgt := 12) h dX9_blissOf_35 (by decide) ?_
      refine j_wk (ls' := [some (.ref (G.2.2 26)), some (.ref (G.2.2 53)), some (.int v5), some (.int (x3 + (1 : Int32)))]) (And.intro rfl (And.intro rfl (And.intro rfl (And.intro rfl trivial)))) ?_
      exact ih v5 (x3 + (1 : Int32)) m4
set_option maxHeartbeats 4000000 in
set_option maxRecDepth 100000 in
theorem kX9_blissOf (l : Launch) (G : Gt) (hD : ∀ m, va_D (inA G nC) (wC G m)) (m : Mem) : ∀ a, fX9_blissOf m = some a → Ct l G wC nC yX9_blissOf cX9_blissOf 4 (some .int) 6 [.ref (G.2.2 26), .ref (G.2.2 53)] m (cvI a) := by
  refine ct_of (own := RX9) (ls0 := [some (.ref (G.2.2 26)), some (.ref (G.2.2 53)), none, none]) (by decide) rfl rfl rfl (Nat.le_of_ble_eq_true rfl) hD (fun X h => ?_) l
  unfold fX9_blissOf
  refine j_aload_n h dX9_blissOf_0 rfl ?_
  refine j_aload_n h dX9_blissOf_1 rfl ?_
  refine j_callVP (q0 := 26) (ci := 9) h [] (kX9_everybody _ G h.2.2.2.2.2.2.2.2.2.2 m) okX9_everybody inX9_everybody ml9_204 rfl rfl rfl rfl (by decide) (by decide) (Nat.le_of_ble_eq_true rfl) rfl dX9_blissOf_2 (fun r1 hr1 => ?_)
  refine j_aload_n h dX9_blissOf_5 rfl ?_
  refine j_callVP (q0 := 26) (ci := 9) h [.int r1, .ref (G.2.2 53)] (kX9_worthOfMeets _ G h.2.2.2.2.2.2.2.2.2.2 m r1) okX9_worthOfMeets inX9_worthOfMeets ml9_208 rfl rfl rfl rfl (by decide) (by decide) (Nat.le_of_ble_eq_true rfl) rfl dX9_blissOf_6 (fun r3 hr3 => ?_)
  refine j_istore_n h dX9_blissOf_9 rfl rfl ?_
  refine j_iconst (v := (0 : Int32)) h dX9_blissOf_10 kiconst_0 ?_
  refine j_istore_n h dX9_blissOf_11 rfl rfl ?_
  refine j_wk (ls' := [some (.ref (G.2.2 26)), some (.ref (G.2.2 53)), some (.int r3), some (.int (0 : Int32))]) (And.intro rfl (And.intro rfl (And.intro rfl (And.intro rfl trivial)))) ?_
  exact (wX9_blissOf h 5000) r3 (0 : Int32) m
theorem dX9_joyOf_0 : DD cX9_joyOf 0 (.aload_n 0) 1 1 := ⟨by decide +kernel, rfl⟩
theorem dX9_joyOf_1 : DD cX9_joyOf 1 (.iconst 1) 1 2 := ⟨by decide +kernel, rfl⟩
theorem dX9_joyOf_2 : DD cX9_joyOf 2 (.iload_n 1) 1 3 := ⟨by decide +kernel, rfl⟩
theorem dX9_joyOf_3 : DD cX9_joyOf 3 (.ishl) 1 4 := ⟨by decide +kernel, rfl⟩
theorem dX9_joyOf_4 : DD cX9_joyOf 4 (.aload_n 2) 1 5 := ⟨by decide +kernel, rfl⟩
theorem dX9_joyOf_5 : DD cX9_joyOf 5 (.invokevirtual 208) 3 8 := ⟨by decide +kernel, rfl⟩
theorem dX9_joyOf_8 : DD cX9_joyOf 8 (.aload_n 0) 1 9 := ⟨by decide +kernel, rfl⟩
theorem dX9_joyOf_9 : DD cX9_joyOf 9 (.iload_n 1) 1 10 := ⟨by decide +kernel, rfl⟩
theorem dX9_joyOf_10 : DD cX9_joyOf 10 (.aload_n 2) 1 11 := ⟨by decide +kernel, rfl⟩
theorem dX9_joyOf_11 : DD cX9_joyOf 11 (.invokevirtual 211) 3 14 := ⟨by decide +kernel, rfl⟩
theorem dX9_joyOf_14 : DD cX9_joyOf 14 (.isub) 1 15 := ⟨by decide +kernel, rfl⟩
theorem dX9_joyOf_15 : DD cX9_joyOf 15 (.ireturn) 1 16 := ⟨by decide +kernel, rfl⟩
def fX9_joyOf (m : Mem) (x1 : Int32) : Option (Int32 × Mem) := (cP (fX9_worthOfMeets m ((1 : Int32) <<< (x1 &&& 31))) fun r1 => (cI (fX9_harmOn m x1) fun r3 m4 => (some ((r1 - r3), m4))))
set_option maxHeartbeats 4000000 in
set_option maxRecDepth 100000 in
theorem kX9_joyOf (l : Launch) (G : Gt) (hD : ∀ m, va_D (inA G nC) (wC G m)) (m : Mem) (x1 : Int32) : ∀ a, fX9_joyOf m x1 = some a → Ct l G wC nC yX9_joyOf cX9_joyOf 3 (some .int) 6 [.ref (G.2.2 26), .int x1, .ref (G.2.2 53)] m (cvI a) := by
  refine ct_of (own := RX9) (ls0 := [some (.ref (G.2.2 26)), some (.int x1), some (.ref (G.2.2 53))]) (by decide) rfl rfl rfl (Nat.le_of_ble_eq_true rfl) hD (fun X h => ?_) l
  unfold fX9_joyOf
  refine j_aload_n h dX9_joyOf_0 rfl ?_
  refine j_iconst (v := (1 : Int32)) h dX9_joyOf_1 kiconst_1 ?_
  refine j_iload_n h dX9_joyOf_2 rfl ?_
  refine j_ishl h dX9_joyOf_3 ?_
  refine j_aload_n h dX9_joyOf_4 rfl ?_
  refine j_callVP (q0 := 26) (ci := 9) h [.int ((1 : Int32) <<< (x1 &&& 31)), .ref (G.2.2 53)] (kX9_worthOfMeets _ G h.2.2.2.2.2.2.2.2.2.2 m ((1 : Int32) <<< (x1 &&& 31))) okX9_worthOfMeets inX9_worthOfMeets ml9_208 rfl rfl rfl rfl (by decide) (by decide) (Nat.le_of_ble_eq_true rfl) rfl dX9_joyOf_5 (fun r1 hr1 => ?_)
  refine j_aload_n h dX9_joyOf_8 rfl ?_
  refine j_iload_n h dX9_joyOf_9 rfl ?_
  refine j_aload_n h dX9_joyOf_10 rfl ?_
  refine j_callVI (q0 := 26) (ci := 9) h [.int x1, .ref (G.2.2 53)] (kX9_harmOn _ G h.2.2.2.2.2.2.2.2.2.2 m x1) okX9_harmOn inX9_harmOn ml9_211 rfl rfl rfl rfl (by decide) (by decide) (Nat.le_of_ble_eq_true rfl) rfl dX9_joyOf_11 (fun r3 m4 hr3 => ?_)
  refine j_isub h dX9_joyOf_14 ?_
  exact j_iret h rfl dX9_joyOf_15
