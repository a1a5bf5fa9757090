theorem dX7_readTerm_0 : DD cX7_readTerm 0 (.aload_n 0) 1 1 := ⟨by decide +kernel, rfl⟩
theorem dX7_readTerm_1 : DD cX7_readTerm 1 (.iload_n 1) 1 2 := ⟨by decide +kernel, rfl⟩
theorem dX7_readTerm_2 : DD cX7_readTerm 2 (.invokevirtual 199) 3 5 := ⟨by decide +kernel, rfl⟩
theorem dX7_readTerm_5 : DD cX7_readTerm 5 (.ifCond .ne 5) 3 8 := ⟨by decide +kernel, rfl⟩
theorem dX7_readTerm_8 : DD cX7_readTerm 8 (.iconst 0) 1 9 := ⟨by decide +kernel, rfl⟩
theorem dX7_readTerm_9 : DD cX7_readTerm 9 (.ireturn) 1 10 := ⟨by decide +kernel, rfl⟩
theorem dX7_readTerm_10 : DD cX7_readTerm 10 (.aload_n 0) 1 11 := ⟨by decide +kernel, rfl⟩
theorem dX7_readTerm_11 : DD cX7_readTerm 11 (.invokevirtual 202) 3 14 := ⟨by decide +kernel, rfl⟩
theorem dX7_readTerm_14 : DD cX7_readTerm 14 (.istore_n 2) 1 15 := ⟨by decide +kernel, rfl⟩
theorem dX7_readTerm_15 : DD cX7_readTerm 15 (.iconst 0) 1 16 := ⟨by decide +kernel, rfl⟩
theorem dX7_readTerm_16 : DD cX7_readTerm 16 (.istore_n 3) 1 17 := ⟨by decide +kernel, rfl⟩
theorem dX7_readTerm_17 : DD cX7_readTerm 17 (.iload_n 3) 1 18 := ⟨by decide +kernel, rfl⟩
theorem dX7_readTerm_18 : DD cX7_readTerm 18 (.sipush 1600) 3 21 := ⟨by decide +kernel, rfl⟩
theorem dX7_readTerm_21 : DD cX7_readTerm 21 (.if_icmp .ge 43) 3 24 := ⟨by decide +kernel, rfl⟩
theorem dX7_readTerm_24 : DD cX7_readTerm 24 (.iload_n 2) 1 25 := ⟨by decide +kernel, rfl⟩
theorem dX7_readTerm_25 : DD cX7_readTerm 25 (.ifCond .eq 39) 3 28 := ⟨by decide +kernel, rfl⟩
theorem dX7_readTerm_28 : DD cX7_readTerm 28 (.aload_n 0) 1 29 := ⟨by decide +kernel, rfl⟩
theorem dX7_readTerm_29 : DD cX7_readTerm 29 (.getfield 29) 3 32 := ⟨by decide +kernel, rfl⟩
theorem dX7_readTerm_32 : DD cX7_readTerm 32 (.invokevirtual 80) 3 35 := ⟨by decide +kernel, rfl⟩
theorem dX7_readTerm_35 : DD cX7_readTerm 35 (.aload_n 0) 1 36 := ⟨by decide +kernel, rfl⟩
theorem dX7_readTerm_36 : DD cX7_readTerm 36 (.iload_n 1) 1 37 := ⟨by decide +kernel, rfl⟩
theorem dX7_readTerm_37 : DD cX7_readTerm 37 (.invokevirtual 199) 3 40 := ⟨by decide +kernel, rfl⟩
theorem dX7_readTerm_40 : DD cX7_readTerm 40 (.ifCond .ne 5) 3 43 := ⟨by decide +kernel, rfl⟩
theorem dX7_readTerm_43 : DD cX7_readTerm 43 (.iconst 0) 1 44 := ⟨by decide +kernel, rfl⟩
theorem dX7_readTerm_44 : DD cX7_readTerm 44 (.ireturn) 1 45 := ⟨by decide +kernel, rfl⟩
theorem dX7_readTerm_45 : DD cX7_readTerm 45 (.aload_n 0) 1 46 := ⟨by decide +kernel, rfl⟩
theorem dX7_readTerm_46 : DD cX7_readTerm 46 (.getfield 22) 3 49 := ⟨by decide +kernel, rfl⟩
theorem dX7_readTerm_49 : DD cX7_readTerm 49 (.iload_n 2) 1 50 := ⟨by decide +kernel, rfl⟩
theorem dX7_readTerm_50 : DD cX7_readTerm 50 (.invokevirtual 180) 3 53 := ⟨by decide +kernel, rfl⟩
theorem dX7_readTerm_53 : DD cX7_readTerm 53 (.aload_n 0) 1 54 := ⟨by decide +kernel, rfl⟩
theorem dX7_readTerm_54 : DD cX7_readTerm 54 (.invokevirtual 202) 3 57 := ⟨by decide +kernel, rfl⟩
theorem dX7_readTerm_57 : DD cX7_readTerm 57 (.istore_n 2) 1 58 := ⟨by decide +kernel, rfl⟩
theorem dX7_readTerm_58 : DD cX7_readTerm 58 (.iinc 3 1) 3 61 := ⟨by decide +kernel, rfl⟩
theorem dX7_readTerm_61 : DD cX7_readTerm 61 (.goto (-44)) 3 64 := ⟨by decide +kernel, rfl⟩
theorem dX7_readTerm_64 : DD cX7_readTerm 64 (.iconst 1) 1 65 := ⟨by decide +kernel, rfl⟩
theorem dX7_readTerm_65 : DD cX7_readTerm 65 (.ireturn) 1 66 := ⟨by decide +kernel, rfl⟩
def gX7_readTerm (rec : Mem → Int32 → Option (Int32 × Mem)) : Nat → Int32 → Int32 → Int32 → Mem → Option (Int32 × Mem)
  | 0, _, _, _, _ => none
  | f + 1, x1, x2, x3, m => (if (1600 : Int32) ≤ x3 then (some ((1 : Int32), m)) else (if x2 = 0 then (some ((1 : Int32), m)) else (cV (fX10_advance m) fun m4 => (cI (fX7_readUnit rec m4 x1) fun r5 m6 => (if r5 = 0 then (some ((0 : Int32), m6)) else (gFm (m6.2.2 4 2) (cV (fX3_put m6 (m6.2.2 4 2) x2) fun m10 => (cP (fX7_factorHere m10) fun r11 => (gX7_readTerm rec f x1 r11 (x3 + (1 : Int32)) m10)))))))))
def fX7_readTerm (rec : Mem → Int32 → Option (Int32 × Mem)) (m : Mem) (x1 : Int32) : Option (Int32 × Mem) := (cI (fX7_readUnit rec m x1) fun r1 m2 => (if r1 = 0 then (some ((0 : Int32), m2)) else (cP (fX7_factorHere m2) fun r4 => (gX7_readTerm rec 5000 x1 r4 (0 : Int32) m2))))
set_option maxHeartbeats 4000000 in
set_option maxRecDepth 100000 in
theorem wX7_readTerm {X : Cx} {G : Gt} (L : Nat) (hL : 30 ≤ L) (rec : Mem → Int32 → Option (Int32 × Mem)) (hrec : ∀ (l : Launch) (m : Mem) (x : Int32), ∀ a, rec m x = some a → Ct l G wC nC yX7_readEither cX7_readEither 3 (some .boolean) L [.ref (G.2.2 4), .int x] m (cvI a)) (h : OkX (X, G, wC, nC) cX7_readTerm RX7 4 (some .boolean) (L + 2)) : ∀ f : Nat, (∀ (x1 : Int32) (x2 : Int32) (x3 : Int32) (m : Mem), JR (X, G, wC, nC) cvI m 17 [some (.ref (G.2.2 4)), some (.int x1), some (.int x2), some (.int x3)] [] (gX7_readTerm rec f x1 x2 x3 m)) := by
  intro f
  induction f with
  | zero => exact (fun _ _ _ _ => j_none)
  | succ f ih =>
    intro x1 x2 x3 m
    rw [gX7_readTerm]
    refine j_iload_n h dX7_readTerm_17 rfl ?_
    refine j_sipush (v := (1600 : Int32)) h dX7_readTerm_18 ksipush_1600 ?_
    refine j_icmp_ge (tgt := 64) h dX7_readTerm_21 (by decide) (fun c1 => ?_) (fun c1 => ?_)
    · refine j_iconst (v := (1 : Int32)) h dX7_readTerm_64 kiconst_1 ?_
      exact j_zretB h rfl rfl dX7_readTerm_65
    · refine j_iload_n h dX7_readTerm_24 rfl ?_
      refine j_if_eq (tgt := 64) h dX7_readTerm_25 (by decide) (fun c2 => ?_) (fun c2 => ?_)
      · refine j_iconst (v := (1 : Int32)) h dX7_readTerm_64 kiconst_1 ?_
        exact j_zretB h rfl rfl dX7_readTerm_65
      · refine j_aload_n h dX7_readTerm_28 rfl ?_
        refine gC7_29 h dX7_readTerm_29 ?_
        refine j_callVV (q0 := 1) (ci := 10) h [] (kX10_advance _ G h.2.2.2.2.2.2.2.2.2.2 m) okX10_advance inX10_advance ml7_80 rfl rfl rfl rfl (by omega) (by decide) (Nat.le_of_ble_eq_true rfl) rfl dX7_readTerm_32 (fun m4 hm4 => ?_)
        refine j_aload_n h dX7_readTerm_35 rfl ?_
        refine j_iload_n h dX7_readTerm_36 rfl ?_
        refine j_callVI (q0 := 4) (ci := 7) h [.int x1] (kX7_readUnit _ G h.2.2.2.2.2.2.2.2.2.2 L hL rec hrec m4 x1) okX7_readUnit inX7_readUnit ml7_199 rfl rfl rfl rfl (by omega) (by decide) (Nat.le_of_ble_eq_true rfl) rfl dX7_readTerm_37 (fun r5 m6 hr5 => ?_)
        refine j_if_ne (tgt := 45) h dX7_readTerm_40 (by decide) (fun c7 => ?_) (fun c7 => ?_)
        · refine j_aload_n h dX7_readTerm_45 rfl ?_
          refine gC7_22 h dX7_readTerm_46 ?_
          refine j_iload_n h dX7_readTerm_49 rfl ?_
          refine j_gFm (fun hg8 => ?_)
          refine j_callVV (q0 := (m6.2.2 4 2)) (ci := 3) h [.int x2] (kX3_put _ G h.2.2.2.2.2.2.2.2.2.2 m6 (m6.2.2 4 2) x2) okX3_put inX3_put ml7_180 rfl (at_Fm hg8) rfl rfl (by omega) (by decide) (Nat.le_of_ble_eq_true rfl) rfl dX7_readTerm_50 (fun m10 hm10 => ?_)
          refine j_aload_n h dX7_readTerm_53 rfl ?_
          refine j_callVP (q0 := 4) (ci := 7) h [] (kX7_factorHere _ G h.2.2.2.2.2.2.2.2.2.2 m10) okX7_factorHere inX7_factorHere ml7_202 rfl rfl rfl rfl (by omega) (by decide) (Nat.le_of_ble_eq_true rfl) rfl dX7_readTerm_54 (fun r11 hr11 => ?_)
          refine j_istore_n h dX7_readTerm_57 rfl rfl ?_
          refine j_iinc (v := (x3 + (1 : Int32))) h dX7_readTerm_58 rfl (by rw [kiconst_1]) rfl ?_
          refine j_goto (tgt := 17) h dX7_readTerm_61 (by decide) ?_
          refine j_wk (ls' := [some (.ref (G.2.2 4)), some (.int x1), some (.int r11), some (.int (x3 + (1 : Int32)))]) (And.intro rfl (And.intro rfl (And.intro rfl (And.intro rfl trivial)))) ?_
          exact ih x1 r11 (x3 + (1 : Int32)) m10
        · refine j_iconst (v := (0 : Int32)) h dX7_readTerm_43 kiconst_0 ?_
          exact j_zretB h rfl rfl dX7_readTerm_44
set_option maxHeartbeats 4000000 in
set_option maxRecDepth 100000 in
theorem kX7_readTerm (l : Launch) (G : Gt) (hD : ∀ m, va_D (inA G nC) (wC G m)) (L : Nat) (hL : 30 ≤ L) (rec : Mem → Int32 → Option (Int32 × Mem)) (hrec : ∀ (l : Launch) (m : Mem) (x : Int32), ∀ a, rec m x = some a → Ct l G wC nC yX7_readEither cX7_readEither 3 (some .boolean) L [.ref (G.2.2 4), .int x] m (cvI a)) (m : Mem) (x1 : Int32) : ∀ a, fX7_readTerm rec m x1 = some a → Ct l G wC nC yX7_readTerm cX7_readTerm 4 (some .boolean) (L + 2) [.ref (G.2.2 4), .int x1] m (cvI a) := by
  refine ct_of (own := RX7) (ls0 := [some (.ref (G.2.2 4)), some (.int x1), none, none]) (by decide) rfl rfl rfl (Nat.le_of_ble_eq_true rfl) hD (fun X h => ?_) l
  unfold fX7_readTerm
  refine j_aload_n h dX7_readTerm_0 rfl ?_
  refine j_iload_n h dX7_readTerm_1 rfl ?_
  refine j_callVI (q0 := 4) (ci := 7) h [.int x1] (kX7_readUnit _ G h.2.2.2.2.2.2.2.2.2.2 L hL rec hrec m x1) okX7_readUnit inX7_readUnit ml7_199 rfl rfl rfl rfl (by omega) (by decide) (Nat.le_of_ble_eq_true rfl) rfl dX7_readTerm_2 (fun r1 m2 hr1 => ?_)
  refine j_if_ne (tgt := 10) h dX7_readTerm_5 (by decide) (fun c3 => ?_) (fun c3 => ?_)
  · refine j_aload_n h dX7_readTerm_10 rfl ?_
    refine j_callVP (q0 := 4) (ci := 7) h [] (kX7_factorHere _ G h.2.2.2.2.2.2.2.2.2.2 m2) okX7_factorHere inX7_factorHere ml7_202 rfl rfl rfl rfl (by omega) (by decide) (Nat.le_of_ble_eq_true rfl) rfl dX7_readTerm_11 (fun r4 hr4 => ?_)
    refine j_istore_n h dX7_readTerm_14 rfl rfl ?_
    refine j_iconst (v := (0 : Int32)) h dX7_readTerm_15 kiconst_0 ?_
    refine j_istore_n h dX7_readTerm_16 rfl rfl ?_
    refine j_wk (ls' := [some (.ref (G.2.2 4)), some (.int x1), some (.int r4), some (.int (0 : Int32))]) (And.intro rfl (And.intro rfl (And.intro rfl (And.intro rfl trivial)))) ?_
    exact (wX7_readTerm L hL rec hrec h 5000) x1 r4 (0 : Int32) m2
  · refine j_iconst (v := (0 : Int32)) h dX7_readTerm_8 kiconst_0 ?_
    exact j_zretB h rfl rfl dX7_readTerm_9
theorem dX7_readSum_0 : DD cX7_readSum 0 (.aload_n 0) 1 1 := ⟨by decide +kernel, rfl⟩
theorem dX7_readSum_1 : DD cX7_readSum 1 (.iload_n 1) 1 2 := ⟨by decide +kernel, rfl⟩
theorem dX7_readSum_2 : DD cX7_readSum 2 (.invokevirtual 196) 3 5 := ⟨by decide +kernel, rfl⟩
theorem dX7_readSum_5 : DD cX7_readSum 5 (.ifCond .ne 5) 3 8 := ⟨by decide +kernel, rfl⟩
theorem dX7_readSum_8 : DD cX7_readSum 8 (.iconst 0) 1 9 := ⟨by decide +kernel, rfl⟩
theorem dX7_readSum_9 : DD cX7_readSum 9 (.ireturn) 1 10 := ⟨by decide +kernel, rfl⟩
theorem dX7_readSum_10 : DD cX7_readSum 10 (.iconst 0) 1 11 := ⟨by decide +kernel, rfl⟩
theorem dX7_readSum_11 : DD cX7_readSum 11 (.istore_n 2) 1 12 := ⟨by decide +kernel, rfl⟩
theorem dX7_readSum_12 : DD cX7_readSum 12 (.iload_n 2) 1 13 := ⟨by decide +kernel, rfl⟩
theorem dX7_readSum_13 : DD cX7_readSum 13 (.sipush 1600) 3 16 := ⟨by decide +kernel, rfl⟩
theorem dX7_readSum_16 : DD cX7_readSum 16 (.if_icmp .ge 78) 3 19 := ⟨by decide +kernel, rfl⟩
theorem dX7_readSum_19 : DD cX7_readSum 19 (.aload_n 0) 1 20 := ⟨by decide +kernel, rfl⟩
theorem dX7_readSum_20 : DD cX7_readSum 20 (.getfield 29) 3 23 := ⟨by decide +kernel, rfl⟩
theorem dX7_readSum_23 : DD cX7_readSum 23 (.getfield 44) 3 26 := ⟨by decide +kernel, rfl⟩
theorem dX7_readSum_26 : DD cX7_readSum 26 (.bipush 43) 2 28 := ⟨by decide +kernel, rfl⟩
theorem dX7_readSum_28 : DD cX7_readSum 28 (.if_icmp .eq 15) 3 31 := ⟨by decide +kernel, rfl⟩
theorem dX7_readSum_31 : DD cX7_readSum 31 (.aload_n 0) 1 32 := ⟨by decide +kernel, rfl⟩
theorem dX7_readSum_32 : DD cX7_readSum 32 (.getfield 29) 3 35 := ⟨by decide +kernel, rfl⟩
theorem dX7_readSum_35 : DD cX7_readSum 35 (.getfield 44) 3 38 := ⟨by decide +kernel, rfl⟩
theorem dX7_readSum_38 : DD cX7_readSum 38 (.bipush 45) 2 40 := ⟨by decide +kernel, rfl⟩
theorem dX7_readSum_40 : DD cX7_readSum 40 (.if_icmp .ne 54) 3 43 := ⟨by decide +kernel, rfl⟩
theorem dX7_readSum_43 : DD cX7_readSum 43 (.aload_n 0) 1 44 := ⟨by decide +kernel, rfl⟩
theorem dX7_readSum_44 : DD cX7_readSum 44 (.getfield 29) 3 47 := ⟨by decide +kernel, rfl⟩
theorem dX7_readSum_47 : DD cX7_readSum 47 (.getfield 44) 3 50 := ⟨by decide +kernel, rfl⟩
theorem dX7_readSum_50 : DD cX7_readSum 50 (.bipush 43) 2 52 := ⟨by decide +kernel, rfl⟩
theorem dX7_readSum_52 : DD cX7_readSum 52 (.if_icmp .ne 8) 3 55 := ⟨by decide +kernel, rfl⟩
theorem dX7_readSum_55 : DD cX7_readSum 55 (.bipush (-11)) 2 57 := ⟨by decide +kernel, rfl⟩
theorem dX7_readSum_57 : DD cX7_readSum 57 (.goto 5) 3 60 := ⟨by decide +kernel, rfl⟩
theorem dX7_readSum_60 : DD cX7_readSum 60 (.bipush (-12)) 2 62 := ⟨by decide +kernel, rfl⟩
theorem dX7_readSum_62 : DD cX7_readSum 62 (.istore_n 3) 1 63 := ⟨by decide +kernel, rfl⟩
theorem dX7_readSum_63 : DD cX7_readSum 63 (.aload_n 0) 1 64 := ⟨by decide +kernel, rfl⟩
theorem dX7_readSum_64 : DD cX7_readSum 64 (.getfield 29) 3 67 := ⟨by decide +kernel, rfl⟩
theorem dX7_readSum_67 : DD cX7_readSum 67 (.invokevirtual 80) 3 70 := ⟨by decide +kernel, rfl⟩
theorem dX7_readSum_70 : DD cX7_readSum 70 (.aload_n 0) 1 71 := ⟨by decide +kernel, rfl⟩
theorem dX7_readSum_71 : DD cX7_readSum 71 (.iload_n 1) 1 72 := ⟨by decide +kernel, rfl⟩
theorem dX7_readSum_72 : DD cX7_readSum 72 (.invokevirtual 196) 3 75 := ⟨by decide +kernel, rfl⟩
theorem dX7_readSum_75 : DD cX7_readSum 75 (.ifCond .ne 5) 3 78 := ⟨by decide +kernel, rfl⟩
theorem dX7_readSum_78 : DD cX7_readSum 78 (.iconst 0) 1 79 := ⟨by decide +kernel, rfl⟩
theorem dX7_readSum_79 : DD cX7_readSum 79 (.ireturn) 1 80 := ⟨by decide +kernel, rfl⟩
theorem dX7_readSum_80 : DD cX7_readSum 80 (.aload_n 0) 1 81 := ⟨by decide +kernel, rfl⟩
theorem dX7_readSum_81 : DD cX7_readSum 81 (.getfield 22) 3 84 := ⟨by decide +kernel, rfl⟩
theorem dX7_readSum_84 : DD cX7_readSum 84 (.iload_n 3) 1 85 := ⟨by decide +kernel, rfl⟩
theorem dX7_readSum_85 : DD cX7_readSum 85 (.invokevirtual 180) 3 88 := ⟨by decide +kernel, rfl⟩
theorem dX7_readSum_88 : DD cX7_readSum 88 (.iinc 2 1) 3 91 := ⟨by decide +kernel, rfl⟩
theorem dX7_readSum_91 : DD cX7_readSum 91 (.goto (-79)) 3 94 := ⟨by decide +kernel, rfl⟩
theorem dX7_readSum_94 : DD cX7_readSum 94 (.iconst 1) 1 95 := ⟨by decide +kernel, rfl⟩
theorem dX7_readSum_95 : DD cX7_readSum 95 (.ireturn) 1 96 := ⟨by decide +kernel, rfl⟩
def gX7_readSum (rec : Mem → Int32 → Option (Int32 × Mem)) : Nat → Int32 → Int32 → Mem → Option (Int32 × Mem)
  | 0, _, _, _ => none
  | f + 1, x1, x2, m => (if (1600 : Int32) ≤ x2 then (some ((1 : Int32), m)) else (if (m.1 1 4) = (43 : Int32) then (if (m.1 1 4) = (43 : Int32) then (cV (fX10_advance m) fun m13 => (cI (fX7_readTerm rec m13 x1) fun r14 m15 => (if r14 = 0 then (some ((0 : Int32), m15)) else (gFm (m15.2.2 4 2) (cV (fX3_put m15 (m15.2.2 4 2) (-11 : Int32)) fun m19 => (gX7_readSum rec f x1 (x2 + (1 : Int32)) m19)))))) else (cV (fX10_advance m) fun m5 => (cI (fX7_readTerm rec m5 x1) fun r6 m7 => (if r6 = 0 then (some ((0 : Int32), m7)) else (gFm (m7.2.2 4 2) (cV (fX3_put m7 (m7.2.2 4 2) (-12 : Int32)) fun m11 => (gX7_readSum rec f x1 (x2 + (1 : Int32)) m11))))))) else (if (m.1 1 4) = (45 : Int32) then (if (m.1 1 4) = (43 : Int32) then (cV (fX10_advance m) fun m31 => (cI (fX7_readTerm rec m31 x1) fun r32 m33 => (if r32 = 0 then (some ((0 : Int32), m33)) else (gFm (m33.2.2 4 2) (cV (fX3_put m33 (m33.2.2 4 2) (-11 : Int32)) fun m37 => (gX7_readSum rec f x1 (x2 + (1 : Int32)) m37)))))) else (cV (fX10_advance m) fun m23 => (cI (fX7_readTerm rec m23 x1) fun r24 m25 => (if r24 = 0 then (some ((0 : Int32), m25)) else (gFm (m25.2.2 4 2) (cV (fX3_put m25 (m25.2.2 4 2) (-12 : Int32)) fun m29 => (gX7_readSum rec f x1 (x2 + (1 : Int32)) m29))))))) else (some ((1 : Int32), m)))))
def fX7_readSum (rec : Mem → Int32 → Option (Int32 × Mem)) (m : Mem) (x1 : Int32) : Option (Int32 × Mem) := (cI (fX7_readTerm rec m x1) fun r1 m2 => (if r1 = 0 then (some ((0 : Int32), m2)) else (gX7_readSum rec 5000 x1 (0 : Int32) m2)))
set_option maxHeartbeats 4000000 in
set_option maxRecDepth 100000 in
theorem wX7_readSum {X : Cx} {G : Gt} (L : Nat) (hL : 30 ≤ L) (rec : Mem → Int32 → Option (Int32 × Mem)) (hrec : ∀ (l : Launch) (m : Mem) (x : Int32), ∀ a, rec m x = some a → Ct l G wC nC yX7_readEither cX7_readEither 3 (some .boolean) L [.ref (G.2.2 4), .int x] m (cvI a)) (h : OkX (X, G, wC, nC) cX7_readSum RX7 4 (some .boolean) (L + 3)) : ∀ f : Nat, (∀ (x1 : Int32) (x2 : Int32) (m : Mem), JR (X, G, wC, nC) cvI m 12 [some (.ref (G.2.2 4)), some (.int x1), some (.int x2), none] [] (gX7_readSum rec f x1 x2 m)) := by
  intro f
  induction f with
  | zero => exact (fun _ _ _ => j_none)
  | succ f ih =>
    intro x1 x2 m
    rw [gX7_readSum]
    refine j_iload_n h dX7_readSum_12 rfl ?_
    refine j_sipush (v := (1600 : Int32)) h dX7_readSum_13 ksipush_1600 ?_
    refine j_icmp_ge (tgt := 94) h dX7_readSum_16 (by decide) (fun c1 => ?_) (fun c1 => ?_)
    · refine j_iconst (v := (1 : Int32)) h dX7_readSum_94 kiconst_1 ?_
      exact j_zretB h rfl rfl dX7_readSum_95
    · refine j_aload_n h dX7_readSum_19 rfl ?_
      refine gC7_29 h dX7_readSum_20 ?_
      refine gC7_44 h dX7_readSum_23 ?_
      refine j_bipush (v := (43 : Int32)) h dX7_readSum_26 kbipush_43 ?_
      refine j_icmp_eq (tgt := 43) h dX7_readSum_28 (by decide) (fun c2 => ?_) (fun c2 => ?_)
      · refine j_aload_n h dX7_readSum_43 rfl ?_
        refine gC7_29 h dX7_readSum_44 ?_
        refine gC7_44 h dX7_readSum_47 ?_
        refine j_bipush (v := (43 : Int32)) h dX7_readSum_50 kbipush_43 ?_
        refine j_icmp_ne (tgt := 60) h dX7_readSum_52 (by decide) (fun c3 => ?_) (fun c3 => ?_)
        · refine j_bipush (v := (-12 : Int32)) h dX7_readSum_60 kbipush_m12 ?_
          refine j_istore_n h dX7_readSum_62 rfl rfl ?_
          refine j_aload_n h dX7_readSum_63 rfl ?_
          refine gC7_29 h dX7_readSum_64 ?_
          refine j_callVV (q0 := 1) (ci := 10) h [] (kX10_advance _ G h.2.2.2.2.2.2.2.2.2.2 m) okX10_advance inX10_advance ml7_80 rfl rfl rfl rfl (by omega) (by decide) (Nat.le_of_ble_eq_true rfl) rfl dX7_readSum_67 (fun m5 hm5 => ?_)
          refine j_aload_n h dX7_readSum_70 rfl ?_
          refine j_iload_n h dX7_readSum_71 rfl ?_
          refine j_callVI (q0 := 4) (ci := 7) h [.int x1] (kX7_readTerm _ G h.2.2.2.2.2.2.2.2.2.2 L hL rec hrec m5 x1) okX7_readTerm inX7_readTerm ml7_196 rfl rfl rfl rfl (by omega) (by decide) (Nat.le_of_ble_eq_true rfl) rfl dX7_readSum_72 (fun r6 m7 hr6 => ?_)
          refine j_if_ne (tgt := 80) h dX7_readSum_75 (by decide) (fun c8 => ?_) (fun c8 => ?_)
          · refine j_aload_n h dX7_readSum_80 rfl ?_
            refine gC7_22 h dX7_readSum_81 ?_
            refine j_iload_n h dX7_readSum_84 rfl ?_
            refine j_gFm (fun hg9 => ?_)
            refine j_callVV (q0 := (m7.2.2 4 2)) (ci := 3) h [.int (-12 : Int32)] (kX3_put _ G h.2.2.2.2.2.2.2.2.2.2 m7 (m7.2.2 4 2) (-12 : Int32)) okX3_put inX3_put ml7_180 rfl (at_Fm hg9) rfl rfl (by omega) (by decide) (Nat.le_of_ble_eq_true rfl) rfl dX7_readSum_85 (fun m11 hm11 => ?_)
            refine j_iinc (v := (x2 + (1 : Int32))) h dX7_readSum_88 rfl (by rw [kiconst_1]) rfl ?_
            refine j_goto (tgt := 12) h dX7_readSum_91 (by decide) ?_
            refine j_wk (ls' := [some (.ref (G.2.2 4)), some (.int x1), some (.int (x2 + (1 : Int32))), none]) (And.intro rfl (And.intro rfl (And.intro rfl trivial))) ?_
            exact ih x1 (x2 + (1 : Int32)) m11
          · refine j_iconst (v := (0 : Int32)) h dX7_readSum_78 kiconst_0 ?_
            exact j_zretB h rfl rfl dX7_readSum_79
        · refine j_bipush (v := (-11 : Int32)) h dX7_readSum_55 kbipush_m11 ?_
          refine j_goto (tgt := 62) h dX7_readSum_57 (by decide) ?_
          refine j_istore_n h dX7_readSum_62 rfl rfl ?_
          refine j_aload_n h dX7_readSum_63 rfl ?_
          refine gC7_29 h dX7_readSum_64 ?_
          refine j_callVV (q0 := 1) (ci := 10) h [] (kX10_advance _ G h.2.2.2.2.2.2.2.2.2.2 m) okX10_advance inX10_advance ml7_80 rfl rfl rfl rfl (by omega) (by decide) (Nat.le_of_ble_eq_true rfl) rfl dX7_readSum_67 (fun m13 hm13 => ?_)
          refine j_aload_n h dX7_readSum_70 rfl ?_
          refine j_iload_n h dX7_readSum_71 rfl ?_
          refine j_callVI (q0 := 4) (ci := 7) h [.int x1] (kX7_readTerm _ G h.2.2.2.2.2.2.2.2.2.2 L hL rec hrec m13 x1) okX7_readTerm inX7_readTerm ml7_196 rfl rfl rfl rfl (by omega) (by decide) (Nat.le_of_ble_eq_true rfl) rfl dX7_readSum_72 (fun r14 m15 hr14 => ?_)
          refine j_if_ne (tgt := 80) h dX7_readSum_75 (by decide) (fun c16 => ?_) (fun c16 => ?_)
          · refine j_aload_n h dX7_readSum_80 rfl ?_
            refine gC7_22 h dX7_readSum_81 ?_
            refine j_iload_n h dX7_readSum_84 rfl ?_
            refine j_gFm (fun hg17 => ?_)
            refine j_callVV (q0 := (m15.2.2 4 2)) (ci := 3) h [.int (-11 : Int32)] (kX3_put _ G h.2.2.2.2.2.2.2.2.2.2 m15 (m15.2.2 4 2) (-11 : Int32)) okX3_put inX3_put ml7_180 rfl (at_Fm hg17) rfl rfl (by omega) (by decide) (Nat.le_of_ble_eq_true rfl) rfl dX7_readSum_85 (fun m19 hm19 => ?_)
            refine j_iinc (v := (x2 + (1 : Int32))) h dX7_readSum_88 rfl (by rw [kiconst_1]) rfl ?_
            refine j_goto (tgt := 12) h dX7_readSum_91 (by decide) ?_
            refine j_wk (ls' := [some (.ref (G.2.2 4)), some (.int x1), some (.int (x2 + (1 : Int32))), none]) (And.intro rfl (And.intro rfl (And.intro rfl trivial))) ?_
            exact ih x1 (x2 + (1 : Int32)) m19
          · refine j_iconst (v := (0 : Int32)) h dX7_readSum_78 kiconst_0 ?_
            exact j_zretB h rfl rfl dX7_readSum_79
      · refine j_aload_n h dX7_readSum_31 rfl ?_
        refine gC7_29 h dX7_readSum_32 ?_
        refine gC7_44 h dX7_readSum_35 ?_
        refine j_bipush (v := (45 : Int32)) h dX7_readSum_38 kbipush_45 ?_
        refine j_icmp_ne (tgt := 94) h dX7_readSum_40 (by decide) (fun c20 => ?_) (fun c20 => ?_)
        · refine j_iconst (v := (1 : Int32)) h dX7_readSum_94 kiconst_1 ?_
          exact j_zretB h rfl rfl dX7_readSum_95
        · refine j_aload_n h dX7_readSum_43 rfl ?_
          refine gC7_29 h dX7_readSum_44 ?_
          refine gC7_44 h dX7_readSum_47 ?_
          refine j_bipush (v := (43 : Int32)) h dX7_readSum_50 kbipush_43 ?_
          refine j_icmp_ne (tgt := 60) h dX7_readSum_52 (by decide) (fun c21 => ?_) (fun c21 => ?_)
          · refine j_bipush (v := (-12 : Int32)) h dX7_readSum_60 kbipush_m12 ?_
            refine j_istore_n h dX7_readSum_62 rfl rfl ?_
            refine j_aload_n h dX7_readSum_63 rfl ?_
            refine gC7_29 h dX7_readSum_64 ?_
            refine j_callVV (q0 := 1) (ci := 10) h [] (kX10_advance _ G h.2.2.2.2.2.2.2.2.2.2 m) okX10_advance inX10_advance ml7_80 rfl rfl rfl rfl (by omega) (by decide) (Nat.le_of_ble_eq_true rfl) rfl dX7_readSum_67 (fun m23 hm23 => ?_)
            refine j_aload_n h dX7_readSum_70 rfl ?_
            refine j_iload_n h dX7_readSum_71 rfl ?_
            refine j_callVI (q0 := 4) (ci := 7) h [.int x1] (kX7_readTerm _ G h.2.2.2.2.2.2.2.2.2.2 L hL rec hrec m23 x1) okX7_readTerm inX7_readTerm ml7_196 rfl rfl rfl rfl (by omega) (by decide) (Nat.le_of_ble_eq_true rfl) rfl dX7_readSum_72 (fun r24 m25 hr24 => ?_)
            refine j_if_ne (tgt := 80) h dX7_readSum_75 (by decide) (fun c26 => ?_) (fun c26 => ?_)
            · refine j_aload_n h dX7_readSum_80 rfl ?_
              refine gC7_22 h dX7_readSum_81 ?_
              refine j_iload_n h dX7_readSum_84 rfl ?_
              refine j_gFm (fun hg27 => ?_)
              refine j_callVV (q0 := (m25.2.2 4 2)) (ci := 3) h [.int (-12 : Int32)] (kX3_put _ G h.2.2.2.2.2.2.2.2.2.2 m25 (m25.2.2 4 2) (-12 : Int32)) okX3_put inX3_put ml7_180 rfl (at_Fm hg27) rfl rfl (by omega) (by decide) (Nat.le_of_ble_eq_true rfl) rfl dX7_readSum_85 (fun m29 hm29 => ?_)
              refine j_iinc (v := (x2 + (1 : Int32))) h dX7_readSum_88 rfl (by rw [kiconst_1]) rfl ?_
              refine j_goto (tgt := 12) h dX7_readSum_91 (by decide) ?_
              refine j_wk (ls' := [some (.ref (G.2.2 4)), some (.int x1), some (.int (x2 + (1 : Int32))), none]) (And.intro rfl (And.intro rfl (And.intro rfl trivial))) ?_
              exact ih x1 (x2 + (1 : Int32)) m29
            · refine j_iconst (v := (0 : Int32)) h dX7_readSum_78 kiconst_0 ?_
              exact j_zretB h rfl rfl dX7_readSum_79
          · refine j_bipush (v := (-11 : Int32)) h dX7_readSum_55 kbipush_m11 ?_
            refine j_goto (tgt := 62) h dX7_readSum_57 (by decide) ?_
            refine j_istore_n h dX7_readSum_62 rfl rfl ?_
            refine j_aload_n h dX7_readSum_63 rfl ?_
            refine gC7_29 h dX7_readSum_64 ?_
            refine j_callVV (q0 := 1) (ci := 10) h [] (kX10_advance _ G h.2.2.2.2.2.2.2.2.2.2 m) okX10_advance inX10_advance ml7_80 rfl rfl rfl rfl (by omega) (by decide) (Nat.le_of_ble_eq_true rfl) rfl dX7_readSum_67 (fun m31 hm31 => ?_)
            refine j_aload_n h dX7_readSum_70 rfl ?_
            refine j_iload_n h dX7_readSum_71 rfl ?_
            refine j_callVI (q0 := 4) (ci := 7) h [.int x1] (kX7_readTerm _ G h.2.2.2.2.2.2.2.2.2.2 L hL rec hrec m31 x1) okX7_readTerm inX7_readTerm ml7_196 rfl rfl rfl rfl (by omega) (by decide) (Nat.le_of_ble_eq_true rfl) rfl dX7_readSum_72 (fun r32 m33 hr32 => ?_)
            refine j_if_ne (tgt := 80) h dX7_readSum_75 (by decide) (fun c34 => ?_) (fun c34 => ?_)
            · refine j_aload_n h dX7_readSum_80 rfl ?_
              refine gC7_22 h dX7_readSum_81 ?_
              refine j_iload_n h dX7_readSum_84 rfl ?_
              refine j_gFm (fun hg35 => ?_)
              refine j_callVV (q0 := (m33.2.2 4 2)) (ci := 3) h [.int (-11 : Int32)] (kX3_put _ G h.2.2.2.2.2.2.2.2.2.2 m33 (m33.2.2 4 2) (-11 : Int32)) okX3_put inX3_put ml7_180 rfl (at_Fm hg35) rfl rfl (by omega) (by decide) (Nat.le_of_ble_eq_true rfl) rfl dX7_readSum_85 (fun m37 hm37 => ?_)
              refine j_iinc (v := (x2 + (1 : Int32))) h dX7_readSum_88 rfl (by rw [kiconst_1]) rfl ?_
              refine j_goto (tgt := 12) h dX7_readSum_91 (by decide) ?_
              refine j_wk (ls' := [some (.ref (G.2.2 4)), some (.int x1), some (.int (x2 + (1 : Int32))), none]) (And.intro rfl (And.intro rfl (And.intro rfl trivial))) ?_
              exact ih x1 (x2 + (1 : Int32)) m37
            · refine j_iconst (v := (0 : Int32)) h dX7_readSum_78 kiconst_0 ?_
              exact j_zretB h rfl rfl dX7_readSum_79
set_option maxHeartbeats 4000000 in
set_option maxRecDepth 100000 in
theorem kX7_readSum (l : Launch) (G : Gt) (hD : ∀ m, va_D (inA G nC) (wC G m)) (L : Nat) (hL : 30 ≤ L) (rec : Mem → Int32 → Option (Int32 × Mem)) (hrec : ∀ (l : Launch) (m : Mem) (x : Int32), ∀ a, rec m x = some a → Ct l G wC nC yX7_readEither cX7_readEither 3 (some .boolean) L [.ref (G.2.2 4), .int x] m (cvI a)) (m : Mem) (x1 : Int32) : ∀ a, fX7_readSum rec m x1 = some a → Ct l G wC nC yX7_readSum cX7_readSum 4 (some .boolean) (L + 3) [.ref (G.2.2 4), .int x1] m (cvI a) := by
  refine ct_of (own := RX7) (ls0 := [some (.ref (G.2.2 4)), some (.int x1), none, none]) (by decide) rfl rfl rfl (Nat.le_of_ble_eq_true rfl) hD (fun X h => ?_) l
  unfold fX7_readSum
  refine j_aload_n h dX7_readSum_0 rfl ?_
  refine j_iload_n h dX7_readSum_1 rfl ?_
  refine j_callVI (q0 := 4) (ci := 7) h [.int x1] (kX7_readTerm _ G h.2.2.2.2.2.2.2.2.2.2 L hL rec hrec m x1) okX7_readTerm inX7_readTerm ml7_196 rfl rfl rfl rfl (by omega) (by decide) (Nat.le_of_ble_eq_true rfl) rfl dX7_readSum_2 (fun r1 m2 hr1 => ?_)
  refine j_if_ne (tgt := 10) h dX7_readSum_5 (by decide) (fun c3 => ?_) (fun c3 => ?_)
  · refine j_iconst (v := (0 : Int32)) h dX7_readSum_10 kiconst_0 ?_
    refine j_istore_n h dX7_readSum_11 rfl rfl ?_
    refine j_wk (ls' := [some (.ref (G.2.2 4)), some (.int x1), some (.int (0 : Int32)), none]) (And.intro rfl (And.intro rfl (And.intro rfl trivial))) ?_
    exact (wX7_readSum L hL rec hrec h 5000) x1 (0 : Int32) m2
  · refine j_iconst (v := (0 : Int32)) h dX7_readSum_8 kiconst_0 ?_
    exact j_zretB h rfl rfl dX7_readSum_9
theorem dX7_readRelation_0 : DD cX7_readRelation 0 (.aload_n 0) 1 1 := ⟨by decide +kernel, rfl⟩
theorem dX7_readRelation_1 : DD cX7_readRelation 1 (.iload_n 1) 1 2 := ⟨by decide +kernel, rfl⟩
theorem dX7_readRelation_2 : DD cX7_readRelation 2 (.invokevirtual 190) 3 5 := ⟨by decide +kernel, rfl⟩
theorem dX7_readRelation_5 : DD cX7_readRelation 5 (.ifCond .ne 5) 3 8 := ⟨by decide +kernel, rfl⟩
theorem dX7_readRelation_8 : DD cX7_readRelation 8 (.iconst 0) 1 9 := ⟨by decide +kernel, rfl⟩
theorem dX7_readRelation_9 : DD cX7_readRelation 9 (.ireturn) 1 10 := ⟨by decide +kernel, rfl⟩
theorem dX7_readRelation_10 : DD cX7_readRelation 10 (.aload_n 0) 1 11 := ⟨by decide +kernel, rfl⟩
theorem dX7_readRelation_11 : DD cX7_readRelation 11 (.invokevirtual 193) 3 14 := ⟨by decide +kernel, rfl⟩
theorem dX7_readRelation_14 : DD cX7_readRelation 14 (.istore_n 2) 1 15 := ⟨by decide +kernel, rfl⟩
theorem dX7_readRelation_15 : DD cX7_readRelation 15 (.iload_n 2) 1 16 := ⟨by decide +kernel, rfl⟩
theorem dX7_readRelation_16 : DD cX7_readRelation 16 (.ifCond .ne 5) 3 19 := ⟨by decide +kernel, rfl⟩
theorem dX7_readRelation_19 : DD cX7_readRelation 19 (.iconst 1) 1 20 := ⟨by decide +kernel, rfl⟩
theorem dX7_readRelation_20 : DD cX7_readRelation 20 (.ireturn) 1 21 := ⟨by decide +kernel, rfl⟩
theorem dX7_readRelation_21 : DD cX7_readRelation 21 (.aload_n 0) 1 22 := ⟨by decide +kernel, rfl⟩
theorem dX7_readRelation_22 : DD cX7_readRelation 22 (.getfield 29) 3 25 := ⟨by decide +kernel, rfl⟩
theorem dX7_readRelation_25 : DD cX7_readRelation 25 (.invokevirtual 80) 3 28 := ⟨by decide +kernel, rfl⟩
theorem dX7_readRelation_28 : DD cX7_readRelation 28 (.aload_n 0) 1 29 := ⟨by decide +kernel, rfl⟩
theorem dX7_readRelation_29 : DD cX7_readRelation 29 (.iload_n 1) 1 30 := ⟨by decide +kernel, rfl⟩
theorem dX7_readRelation_30 : DD cX7_readRelation 30 (.invokevirtual 190) 3 33 := ⟨by decide +kernel, rfl⟩
theorem dX7_readRelation_33 : DD cX7_readRelation 33 (.ifCond .ne 5) 3 36 := ⟨by decide +kernel, rfl⟩
theorem dX7_readRelation_36 : DD cX7_readRelation 36 (.iconst 0) 1 37 := ⟨by decide +kernel, rfl⟩
theorem dX7_readRelation_37 : DD cX7_readRelation 37 (.ireturn) 1 38 := ⟨by decide +kernel, rfl⟩
theorem dX7_readRelation_38 : DD cX7_readRelation 38 (.aload_n 0) 1 39 := ⟨by decide +kernel, rfl⟩
theorem dX7_readRelation_39 : DD cX7_readRelation 39 (.getfield 22) 3 42 := ⟨by decide +kernel, rfl⟩
theorem dX7_readRelation_42 : DD cX7_readRelation 42 (.iload_n 2) 1 43 := ⟨by decide +kernel, rfl⟩
theorem dX7_readRelation_43 : DD cX7_readRelation 43 (.invokevirtual 180) 3 46 := ⟨by decide +kernel, rfl⟩
theorem dX7_readRelation_46 : DD cX7_readRelation 46 (.iconst 1) 1 47 := ⟨by decide +kernel, rfl⟩
theorem dX7_readRelation_47 : DD cX7_readRelation 47 (.ireturn) 1 48 := ⟨by decide +kernel, rfl⟩
def fX7_readRelation (rec : Mem → Int32 → Option (Int32 × Mem)) (m : Mem) (x1 : Int32) : Option (Int32 × Mem) := (cI (fX7_readSum rec m x1) fun r1 m2 => (if r1 = 0 then (some ((0 : Int32), m2)) else (cP (fX7_relationHere m2) fun r4 => (if r4 = 0 then (some ((1 : Int32), m2)) else (cV (fX10_advance m2) fun m8 => (cI (fX7_readSum rec m8 x1) fun r9 m10 => (if r9 = 0 then (some ((0 : Int32), m10)) else (gFm (m10.2.2 4 2) (cV (fX3_put m10 (m10.2.2 4 2) r4) fun m14 => (some ((1 : Int32), m14)))))))))))
set_option maxHeartbeats 4000000 in
set_option maxRecDepth 100000 in
theorem kX7_readRelation (l : Launch) (G : Gt) (hD : ∀ m, va_D (inA G nC) (wC G m)) (L : Nat) (hL : 30 ≤ L) (rec : Mem → Int32 → Option (Int32 × Mem)) (hrec : ∀ (l : Launch) (m : Mem) (x : Int32), ∀ a, rec m x = some a → Ct l G wC nC yX7_readEither cX7_readEither 3 (some .boolean) L [.ref (G.2.2 4), .int x] m (cvI a)) (m : Mem) (x1 : Int32) : ∀ a, fX7_readRelation rec m x1 = some a → Ct l G wC nC yX7_readRelation cX7_readRelation 3 (some .boolean) (L + 4) [.ref (G.2.2 4), .int x1] m (cvI a) := by
  refine ct_of (own := RX7) (ls0 := [some (.ref (G.2.2 4)), some (.int x1), none]) (by decide) rfl rfl rfl (Nat.le_of_ble_eq_true rfl) hD (fun X h => ?_) l
  unfold fX7_readRelation
  refine j_aload_n h dX7_readRelation_0 rfl ?_
  refine j_iload_n h dX7_readRelation_1 rfl ?_
  refine j_callVI (q0 := 4) (ci := 7) h [.int x1] (kX7_readSum _ G h.2.2.2.2.2.2.2.2.2.2 L hL rec hrec m x1) okX7_readSum inX7_readSum ml7_190 rfl rfl rfl rfl (by omega) (by decide) (Nat.le_of_ble_eq_true rfl) rfl dX7_readRelation_2 (fun r1 m2 hr1 => ?_)
  refine j_if_ne (tgt := 10) h dX7_readRelation_5 (by decide) (fun c3 => ?_) (fun c3 => ?_)
  · refine j_aload_n h dX7_readRelation_10 rfl ?_
    refine j_callVP (q0 := 4) (ci := 7) h [] (kX7_relationHere _ G h.2.2.2.2.2.2.2.2.2.2 m2) okX7_relationHere inX7_relationHere ml7_193 rfl rfl rfl rfl (by omega) (by decide) (Nat.le_of_ble_eq_true rfl) rfl dX7_readRelation_11 (fun r4 hr4 => ?_)
    refine j_istore_n h dX7_readRelation_14 rfl rfl ?_
    refine j_iload_n h dX7_readRelation_15 rfl ?_
    refine j_if_ne (tgt := 21) h dX7_readRelation_16 (by decide) (fun c6 => ?_) (fun c6 => ?_)
    · refine j_aload_n h dX7_readRelation_21 rfl ?_
      refine gC7_29 h dX7_readRelation_22 ?_
      refine j_callVV (q0 := 1) (ci := 10) h [] (kX10_advance _ G h.2.2.2.2.2.2.2.2.2.2 m2) okX10_advance inX10_advance ml7_80 rfl rfl rfl rfl (by omega) (by decide) (Nat.le_of_ble_eq_true rfl) rfl dX7_readRelation_25 (fun m8 hm8 => ?_)
      refine j_aload_n h dX7_readRelation_28 rfl ?_
      refine j_iload_n h dX7_readRelation_29 rfl ?_
      refine j_callVI (q0 := 4) (ci := 7) h [.int x1] (kX7_readSum _ G h.2.2.2.2.2.2.2.2.2.2 L hL rec hrec m8 x1) okX7_readSum inX7_readSum ml7_190 rfl rfl rfl rfl (by omega) (by decide) (Nat.le_of_ble_eq_true rfl) rfl dX7_readRelation_30 (fun r9 m10 hr9 => ?_)
      refine j_if_ne (tgt := 38) h dX7_readRelation_33 (by decide) (fun c11 => ?_) (fun c11 => ?_)
      · refine j_aload_n h dX7_readRelation_38 rfl ?_
        refine gC7_22 h dX7_readRelation_39 ?_
        refine j_iload_n h dX7_readRelation_42 rfl ?_
        refine j_gFm (fun hg12 => ?_)
        refine j_callVV (q0 := (m10.2.2 4 2)) (ci := 3) h [.int r4] (kX3_put _ G h.2.2.2.2.2.2.2.2.2.2 m10 (m10.2.2 4 2) r4) okX3_put inX3_put ml7_180 rfl (at_Fm hg12) rfl rfl (by omega) (by decide) (Nat.le_of_ble_eq_true rfl) rfl dX7_readRelation_43 (fun m14 hm14 => ?_)
        refine j_iconst (v := (1 : Int32)) h dX7_readRelation_46 kiconst_1 ?_
        exact j_zretB h rfl rfl dX7_readRelation_47
      · refine j_iconst (v := (0 : Int32)) h dX7_readRelation_36 kiconst_0 ?_
        exact j_zretB h rfl rfl dX7_readRelation_37
    · refine j_iconst (v := (1 : Int32)) h dX7_readRelation_19 kiconst_1 ?_
      exact j_zretB h rfl rfl dX7_readRelation_20
  · refine j_iconst (v := (0 : Int32)) h dX7_readRelation_8 kiconst_0 ?_
    exact j_zretB h rfl rfl dX7_readRelation_9
theorem dX7_readOne_0 : DD cX7_readOne 0 (.iconst 0) 1 1 := ⟨by decide +kernel, rfl⟩
theorem dX7_readOne_1 : DD cX7_readOne 1 (.istore_n 2) 1 2 := ⟨by decide +kernel, rfl⟩
theorem dX7_readOne_2 : DD cX7_readOne 2 (.iconst 0) 1 3 := ⟨by decide +kernel, rfl⟩
theorem dX7_readOne_3 : DD cX7_readOne 3 (.istore_n 3) 1 4 := ⟨by decide +kernel, rfl⟩
theorem dX7_readOne_4 : DD cX7_readOne 4 (.iload_n 3) 1 5 := ⟨by decide +kernel, rfl⟩
theorem dX7_readOne_5 : DD cX7_readOne 5 (.sipush 1600) 3 8 := ⟨by decide +kernel, rfl⟩
theorem dX7_readOne_8 : DD cX7_readOne 8 (.if_icmp .ge 46) 3 11 := ⟨by decide +kernel, rfl⟩
theorem dX7_readOne_11 : DD cX7_readOne 11 (.aload_n 0) 1 12 := ⟨by decide +kernel, rfl⟩
theorem dX7_readOne_12 : DD cX7_readOne 12 (.getfield 29) 3 15 := ⟨by decide +kernel, rfl⟩
theorem dX7_readOne_15 : DD cX7_readOne 15 (.getfield 44) 3 18 := ⟨by decide +kernel, rfl⟩
theorem dX7_readOne_18 : DD cX7_readOne 18 (.sipush 146) 3 21 := ⟨by decide +kernel, rfl⟩
theorem dX7_readOne_21 : DD cX7_readOne 21 (.if_icmp .ne 33) 3 24 := ⟨by decide +kernel, rfl⟩
theorem dX7_readOne_24 : DD cX7_readOne 24 (.iload_n 1) 1 25 := ⟨by decide +kernel, rfl⟩
theorem dX7_readOne_25 : DD cX7_readOne 25 (.iload_n 2) 1 26 := ⟨by decide +kernel, rfl⟩
theorem dX7_readOne_26 : DD cX7_readOne 26 (.iadd) 1 27 := ⟨by decide +kernel, rfl⟩
theorem dX7_readOne_27 : DD cX7_readOne 27 (.bipush 6) 2 29 := ⟨by decide +kernel, rfl⟩
theorem dX7_readOne_29 : DD cX7_readOne 29 (.if_icmp .le 9) 3 32 := ⟨by decide +kernel, rfl⟩
theorem dX7_readOne_32 : DD cX7_readOne 32 (.aload_n 0) 1 33 := ⟨by decide +kernel, rfl⟩
theorem dX7_readOne_33 : DD cX7_readOne 33 (.iconst 2) 1 34 := ⟨by decide +kernel, rfl⟩
theorem dX7_readOne_34 : DD cX7_readOne 34 (.invokevirtual 73) 3 37 := ⟨by decide +kernel, rfl⟩
theorem dX7_readOne_37 : DD cX7_readOne 37 (.ireturn) 1 38 := ⟨by decide +kernel, rfl⟩
theorem dX7_readOne_38 : DD cX7_readOne 38 (.iinc 2 1) 3 41 := ⟨by decide +kernel, rfl⟩
theorem dX7_readOne_41 : DD cX7_readOne 41 (.aload_n 0) 1 42 := ⟨by decide +kernel, rfl⟩
theorem dX7_readOne_42 : DD cX7_readOne 42 (.getfield 29) 3 45 := ⟨by decide +kernel, rfl⟩
theorem dX7_readOne_45 : DD cX7_readOne 45 (.invokevirtual 80) 3 48 := ⟨by decide +kernel, rfl⟩
theorem dX7_readOne_48 : DD cX7_readOne 48 (.iinc 3 1) 3 51 := ⟨by decide +kernel, rfl⟩
theorem dX7_readOne_51 : DD cX7_readOne 51 (.goto (-47)) 3 54 := ⟨by decide +kernel, rfl⟩
theorem dX7_readOne_54 : DD cX7_readOne 54 (.aload_n 0) 1 55 := ⟨by decide +kernel, rfl⟩
theorem dX7_readOne_55 : DD cX7_readOne 55 (.iload_n 1) 1 56 := ⟨by decide +kernel, rfl⟩
theorem dX7_readOne_56 : DD cX7_readOne 56 (.iload_n 2) 1 57 := ⟨by decide +kernel, rfl⟩
theorem dX7_readOne_57 : DD cX7_readOne 57 (.iadd) 1 58 := ⟨by decide +kernel, rfl⟩
theorem dX7_readOne_58 : DD cX7_readOne 58 (.invokevirtual 187) 3 61 := ⟨by decide +kernel, rfl⟩
theorem dX7_readOne_61 : DD cX7_readOne 61 (.ifCond .ne 5) 3 64 := ⟨by decide +kernel, rfl⟩
theorem dX7_readOne_64 : DD cX7_readOne 64 (.iconst 0) 1 65 := ⟨by decide +kernel, rfl⟩
theorem dX7_readOne_65 : DD cX7_readOne 65 (.ireturn) 1 66 := ⟨by decide +kernel, rfl⟩
theorem dX7_readOne_66 : DD cX7_readOne 66 (.iload_n 2) 1 67 := ⟨by decide +kernel, rfl⟩
theorem dX7_readOne_67 : DD cX7_readOne 67 (.iconst 2) 1 68 := ⟨by decide +kernel, rfl⟩
theorem dX7_readOne_68 : DD cX7_readOne 68 (.if_icmp .le 13) 3 71 := ⟨by decide +kernel, rfl⟩
theorem dX7_readOne_71 : DD cX7_readOne 71 (.iload_n 2) 1 72 := ⟨by decide +kernel, rfl⟩
theorem dX7_readOne_72 : DD cX7_readOne 72 (.iconst 2) 1 73 := ⟨by decide +kernel, rfl⟩
theorem dX7_readOne_73 : DD cX7_readOne 73 (.isub) 1 74 := ⟨by decide +kernel, rfl⟩
theorem dX7_readOne_74 : DD cX7_readOne 74 (.iload_n 2) 1 75 := ⟨by decide +kernel, rfl⟩
theorem dX7_readOne_75 : DD cX7_readOne 75 (.iconst 2) 1 76 := ⟨by decide +kernel, rfl⟩
theorem dX7_readOne_76 : DD cX7_readOne 76 (.irem) 1 77 := ⟨by decide +kernel, rfl⟩
theorem dX7_readOne_77 : DD cX7_readOne 77 (.iadd) 1 78 := ⟨by decide +kernel, rfl⟩
theorem dX7_readOne_78 : DD cX7_readOne 78 (.goto 4) 3 81 := ⟨by decide +kernel, rfl⟩
theorem dX7_readOne_81 : DD cX7_readOne 81 (.iconst 0) 1 82 := ⟨by decide +kernel, rfl⟩
theorem dX7_readOne_82 : DD cX7_readOne 82 (.istore_n 3) 1 83 := ⟨by decide +kernel, rfl⟩
theorem dX7_readOne_83 : DD cX7_readOne 83 (.iload_n 3) 1 84 := ⟨by decide +kernel, rfl⟩
theorem dX7_readOne_84 : DD cX7_readOne 84 (.iload_n 2) 1 85 := ⟨by decide +kernel, rfl⟩
theorem dX7_readOne_85 : DD cX7_readOne 85 (.if_icmp .ge 18) 3 88 := ⟨by decide +kernel, rfl⟩
theorem dX7_readOne_88 : DD cX7_readOne 88 (.aload_n 0) 1 89 := ⟨by decide +kernel, rfl⟩
theorem dX7_readOne_89 : DD cX7_readOne 89 (.getfield 22) 3 92 := ⟨by decide +kernel, rfl⟩
theorem dX7_readOne_92 : DD cX7_readOne 92 (.bipush (-5)) 2 94 := ⟨by decide +kernel, rfl⟩
theorem dX7_readOne_94 : DD cX7_readOne 94 (.invokevirtual 180) 3 97 := ⟨by decide +kernel, rfl⟩
theorem dX7_readOne_97 : DD cX7_readOne 97 (.iinc 3 1) 3 100 := ⟨by decide +kernel, rfl⟩
theorem dX7_readOne_100 : DD cX7_readOne 100 (.goto (-17)) 3 103 := ⟨by decide +kernel, rfl⟩
theorem dX7_readOne_103 : DD cX7_readOne 103 (.iconst 1) 1 104 := ⟨by decide +kernel, rfl⟩
theorem dX7_readOne_104 : DD cX7_readOne 104 (.ireturn) 1 105 := ⟨by decide +kernel, rfl⟩
def gX7_readOne (rec : Mem → Int32 → Option (Int32 × Mem)) : Nat → Nat → Int32 → Int32 → Int32 → Mem → Option (Int32 × Mem)
  | 0, _, _, _, _, _ => none
  | f + 1, 0, x1, x2, x3, m => (if (1600 : Int32) ≤ x3 then (cI (fX7_readRelation rec m (x1 + x2)) fun r2 m3 => (if r2 = 0 then (some ((0 : Int32), m3)) else (if x2 ≤ (2 : Int32) then (gX7_readOne rec f 1 0 x2 (0 : Int32) m3) else (nm ((x2 - (2 : Int32)) + (x2 - x2 / (2 : Int32) * (2 : Int32))) fun v6 => (gX7_readOne rec f 1 0 x2 v6 m3))))) else (if (m.1 1 4) = (146 : Int32) then (if (x1 + x2) ≤ (6 : Int32) then (cV (fX10_advance m) fun m15 => (gX7_readOne rec f 0 x1 (x2 + (1 : Int32)) (x3 + (1 : Int32)) m15)) else (cI (fX7_refuse m (2 : Int32)) fun r16 m17 => (tz r16 (some (r16, m17))))) else (cI (fX7_readRelation rec m (x1 + x2)) fun r8 m9 => (if r8 = 0 then (some ((0 : Int32), m9)) else (if x2 ≤ (2 : Int32) then (gX7_readOne rec f 1 0 x2 (0 : Int32) m9) else (nm ((x2 - (2 : Int32)) + (x2 - x2 / (2 : Int32) * (2 : Int32))) fun v12 => (gX7_readOne rec f 1 0 x2 v12 m9)))))))
  | f + 1, 1, x1, x2, x3, m => (if x2 ≤ x3 then (some ((1 : Int32), m)) else (gFm (m.2.2 4 2) (cV (fX3_put m (m.2.2 4 2) (-5 : Int32)) fun m4 => (gX7_readOne rec f 1 0 x2 (x3 + (1 : Int32)) m4))))
  | _ + 1, _ + 2, _, _, _, _ => none
def fX7_readOne (rec : Mem → Int32 → Option (Int32 × Mem)) (m : Mem) (x1 : Int32) : Option (Int32 × Mem) := (gX7_readOne rec 5000 0 x1 (0 : Int32) (0 : Int32) m)
set_option maxHeartbeats 4000000 in
set_option maxRecDepth 100000 in
theorem wX7_readOne {X : Cx} {G : Gt} (L : Nat) (hL : 30 ≤ L) (rec : Mem → Int32 → Option (Int32 × Mem)) (hrec : ∀ (l : Launch) (m : Mem) (x : Int32), ∀ a, rec m x = some a → Ct l G wC nC yX7_readEither cX7_readEither 3 (some .boolean) L [.ref (G.2.2 4), .int x] m (cvI a)) (h : OkX (X, G, wC, nC) cX7_readOne RX7 4 (some .boolean) (L + 5)) : ∀ f : Nat, (∀ (x1 : Int32) (x2 : Int32) (x3 : Int32) (m : Mem), JR (X, G, wC, nC) cvI m 4 [some (.ref (G.2.2 4)), some (.int x1), some (.int x2), some (.int x3)] [] (gX7_readOne rec f 0 x1 x2 x3 m)) ∧ (∀ (x1 : Int32) (x2 : Int32) (x3 : Int32) (m : Mem), JR (X, G, wC, nC) cvI m 83 [some (.ref (G.2.2 4)), none, some (.int x2), some (.int x3)] [] (gX7_readOne rec f 1 x1 x2 x3 m)) := by
  intro f
  induction f with
  | zero => exact ⟨(fun _ _ _ _ => j_none), (fun _ _ _ _ => j_none)⟩
  | succ f ih =>
    refine ⟨?_, ?_⟩
    · intro x1 x2 x3 m
      rw [gX7_readOne]
      refine j_iload_n h dX7_readOne_4 rfl ?_
      refine j_sipush (v := (1600 : Int32)) h dX7_readOne_5 ksipush_1600 ?_
      refine j_icmp_ge (tgt := 54) h dX7_readOne_8 (by decide) (fun c1 => ?_) (fun c1 => ?_)
      · refine j_aload_n h dX7_readOne_54 rfl ?_
        refine j_iload_n h dX7_readOne_55 rfl ?_
        refine j_iload_n h dX7_readOne_56 rfl ?_
        refine j_iadd h dX7_readOne_57 ?_
        refine j_callVI (q0 := 4) (ci := 7) h [.int (x1 + x2)] (kX7_readRelation _ G h.2.2.2.2.2.2.2.2.2.2 L hL rec hrec m (x1 + x2)) okX7_readRelation inX7_readRelation ml7_187 rfl rfl rfl rfl (by omega) (by decide) (Nat.le_of_ble_eq_true rfl) rfl dX7_readOne_58 (fun r2 m3 hr2 => ?_)
        refine j_if_ne (tgt := 66) h dX7_readOne_61 (by decide) (fun c4 => ?_) (fun c4 => ?_)
        · refine j_iload_n h dX7_readOne_66 rfl ?_
          refine j_iconst (v := (2 : Int32)) h dX7_readOne_67 kiconst_2 ?_
          refine j_icmp_le (tgt := 81) h dX7_readOne_68 (by decide) (fun c5 => ?_) (fun c5 => ?_)
          · refine j_iconst (v := (0 : Int32)) h dX7_readOne_81 kiconst_0 ?_
            refine j_istore_n h dX7_readOne_82 rfl rfl ?_
            refine j_wk (ls' := [some (.ref (G.2.2 4)), none, some (.int x2), some (.int (0 : Int32))]) (And.intro rfl (And.intro rfl (And.intro rfl trivial))) ?_
            exact ih.2 0 x2 (0 : Int32) m3
          · refine j_iload_n h dX7_readOne_71 rfl ?_
            refine j_iconst (v := (2 : Int32)) h dX7_readOne_72 kiconst_2 ?_
            refine j_isub h dX7_readOne_73 ?_
            refine j_iload_n h dX7_readOne_74 rfl ?_
            refine j_iconst (v := (2 : Int32)) h dX7_readOne_75 kiconst_2 ?_
            refine j_iremB h dX7_readOne_76 (by decide) ?_
            refine j_iadd h dX7_readOne_77 ?_
            refine j_goto (tgt := 82) h dX7_readOne_78 (by decide) ?_
            refine j_nm (fun v6 hv6 => ?_)
            refine j_istore_n h dX7_readOne_82 rfl rfl ?_
            refine j_wk (ls' := [some (.ref (G.2.2 4)), none, some (.int x2), some (.int v6)]) (And.intro rfl (And.intro rfl (And.intro rfl trivial))) ?_
            exact ih.2 0 x2 v6 m3
        · refine j_iconst (v := (0 : Int32)) h dX7_readOne_64 kiconst_0 ?_
          exact j_zretB h rfl rfl dX7_readOne_65
      · refine j_aload_n h dX7_readOne_11 rfl ?_
        refine gC7_29 h dX7_readOne_12 ?_
        refine gC7_44 h dX7_readOne_15 ?_
        refine j_sipush (v := (146 : Int32)) h dX7_readOne_18 ksipush_146 ?_
        refine j_icmp_ne (tgt := 54) h dX7_readOne_21 (by decide) (fun c7 => ?_) (fun c7 => ?_)
        · refine j_aload_n h dX7_readOne_54 rfl ?_
          refine j_iload_n h dX7_readOne_55 rfl ?_
          refine j_iload_n h dX7_readOne_56 rfl ?_
          refine j_iadd h dX7_readOne_57 ?_
          refine j_callVI (q0 := 4) (ci := 7) h [.int (x1 + x2)] (kX7_readRelation _ G h.2.2.2.2.2.2.2.2.2.2 L hL rec hrec m (x1 + x2)) okX7_readRelation inX7_readRelation ml7_187 rfl rfl rfl rfl (by omega) (by decide) (Nat.le_of_ble_eq_true rfl) rfl dX7_readOne_58 (fun r8 m9 hr8 => ?_)
          refine j_if_ne (tgt := 66) h dX7_readOne_61 (by decide) (fun c10 => ?_) (fun c10 => ?_)
          · refine j_iload_n h dX7_readOne_66 rfl ?_
            refine j_iconst (v := (2 : Int32)) h dX7_readOne_67 kiconst_2 ?_
            refine j_icmp_le (tgt := 81) h dX7_readOne_68 (by decide) (fun c11 => ?_) (fun c11 => ?_)
            · refine j_iconst (v := (0 : Int32)) h dX7_readOne_81 kiconst_0 ?_
              refine j_istore_n h dX7_readOne_82 rfl rfl ?_
              refine j_wk (ls' := [some (.ref (G.2.2 4)), none, some (.int x2), some (.int (0 : Int32))]) (And.intro rfl (And.intro rfl (And.intro rfl trivial))) ?_
              exact ih.2 0 x2 (0 : Int32) m9
            · refine j_iload_n h dX7_readOne_71 rfl ?_
              refine j_iconst (v := (2 : Int32)) h dX7_readOne_72 kiconst_2 ?_
              refine j_isub h dX7_readOne_73 ?_
              refine j_iload_n h dX7_readOne_74 rfl ?_
              refine j_iconst (v := (2 : Int32)) h dX7_readOne_75 kiconst_2 ?_
              refine j_iremB h dX7_readOne_76 (by decide) ?_
              refine j_iadd h dX7_readOne_77 ?_
              refine j_goto (tgt := 82) h dX7_readOne_78 (by decide) ?_
              refine j_nm (fun v12 hv12 => ?_)
              refine j_istore_n h dX7_readOne_82 rfl rfl ?_
              refine j_wk (ls' := [some (.ref (G.2.2 4)), none, some (.int x2), some (.int v12)]) (And.intro rfl (And.intro rfl (And.intro rfl trivial))) ?_
              exact ih.2 0 x2 v12 m9
          · refine j_iconst (v := (0 : Int32)) h dX7_readOne_64 kiconst_0 ?_
            exact j_zretB h rfl rfl dX7_readOne_65
        · refine j_iload_n h dX7_readOne_24 rfl ?_
          refine j_iload_n h dX7_readOne_25 rfl ?_
          refine j_iadd h dX7_readOne_26 ?_
          refine j_bipush (v := (6 : Int32)) h dX7_readOne_27 kbipush_6 ?_
          refine j_icmp_le (tgt := 38) h dX7_readOne_29 (by decide) (fun c13 => ?_) (fun c13 => ?_)
          · refine j_iinc (v := (x2 + (1 : Int32))) h dX7_readOne_38 rfl (by rw [kiconst_1]) rfl ?_
            refine j_aload_n h dX7_readOne_41 rfl ?_
            refine gC7_29 h dX7_readOne_42 ?_
            refine j_callVV (q0 := 1) (ci := 10) h [] (kX10_advance _ G h.2.2.2.2.2.2.2.2.2.2 m) okX10_advance inX10_advance ml7_80 rfl rfl rfl rfl (by omega) (by decide) (Nat.le_of_ble_eq_true rfl) rfl dX7_readOne_45 (fun m15 hm15 => ?_)
            refine j_iinc (v := (x3 + (1 : Int32))) h dX7_readOne_48 rfl (by rw [kiconst_1]) rfl ?_
            refine j_goto (tgt := 4) h dX7_readOne_51 (by decide) ?_
            refine j_wk (ls' := [some (.ref (G.2.2 4)), some (.int x1), some (.int (x2 + (1 : Int32))), some (.int (x3 + (1 : Int32)))]) (And.intro rfl (And.intro rfl (And.intro rfl (And.intro rfl trivial)))) ?_
            exact ih.1 x1 (x2 + (1 : Int32)) (x3 + (1 : Int32)) m15
          · refine j_aload_n h dX7_readOne_32 rfl ?_
            refine j_iconst (v := (2 : Int32)) h dX7_readOne_33 kiconst_2 ?_
            refine j_callVI (q0 := 4) (ci := 7) h [.int (2 : Int32)] (kX7_refuse _ G h.2.2.2.2.2.2.2.2.2.2 m (2 : Int32)) okX7_refuse inX7_refuse ml7_73 rfl rfl rfl rfl (by omega) (by decide) (Nat.le_of_ble_eq_true rfl) rfl dX7_readOne_34 (fun r16 m17 hr16 => ?_)
            exact j_zret h rfl dX7_readOne_37
    · intro x1 x2 x3 m
      rw [gX7_readOne]
      refine j_iload_n h dX7_readOne_83 rfl ?_
      refine j_iload_n h dX7_readOne_84 rfl ?_
      refine j_icmp_ge (tgt := 103) h dX7_readOne_85 (by decide) (fun c1 => ?_) (fun c1 => ?_)
      · refine j_iconst (v := (1 : Int32)) h dX7_readOne_103 kiconst_1 ?_
        exact j_zretB h rfl rfl dX7_readOne_104
      · refine j_aload_n h dX7_readOne_88 rfl ?_
        refine gC7_22 h dX7_readOne_89 ?_
        refine j_bipush (v := (-5 : Int32)) h dX7_readOne_92 kbipush_m5 ?_
        refine j_gFm (fun hg2 => ?_)
        refine j_callVV (q0 := (m.2.2 4 2)) (ci := 3) h [.int (-5 : Int32)] (kX3_put _ G h.2.2.2.2.2.2.2.2.2.2 m (m.2.2 4 2) (-5 : Int32)) okX3_put inX3_put ml7_180 rfl (at_Fm hg2) rfl rfl (by omega) (by decide) (Nat.le_of_ble_eq_true rfl) rfl dX7_readOne_94 (fun m4 hm4 => ?_)
        refine j_iinc (v := (x3 + (1 : Int32))) h dX7_readOne_97 rfl (by rw [kiconst_1]) rfl ?_
        refine j_goto (tgt := 83) h dX7_readOne_100 (by decide) ?_
        refine j_wk (ls' := [some (.ref (G.2.2 4)), none, some (.int x2), some (.int (x3 + (1 : Int32)))]) (And.intro rfl (And.intro rfl (And.intro rfl trivial))) ?_
        exact ih.2 0 x2 (x3 + (1 : Int32)) m4
set_option maxHeartbeats 4000000 in
set_option maxRecDepth 100000 in
theorem kX7_readOne (l : Launch) (G : Gt) (hD : ∀ m, va_D (inA G nC) (wC G m)) (L : Nat) (hL : 30 ≤ L) (rec : Mem → Int32 → Option (Int32 × Mem)) (hrec : ∀ (l : Launch) (m : Mem) (x : Int32), ∀ a, rec m x = some a → Ct l G wC nC yX7_readEither cX7_readEither 3 (some .boolean) L [.ref (G.2.2 4), .int x] m (cvI a)) (m : Mem) (x1 : Int32) : ∀ a, fX7_readOne rec m x1 = some a → Ct l G wC nC yX7_readOne cX7_readOne 4 (some .boolean) (L + 5) [.ref (G.2.2 4), .int x1] m (cvI a) := by
  refine ct_of (own := RX7) (ls0 := [some (.ref (G.2.2 4)), some (.int x1), none, none]) (by decide) rfl rfl rfl (Nat.le_of_ble_eq_true rfl) hD (fun X h => ?_) l
  unfold fX7_readOne
  refine j_iconst (v := (0 : Int32)) h dX7_readOne_0 kiconst_0 ?_
  refine j_istore_n h dX7_readOne_1 rfl rfl ?_
  refine j_iconst (v := (0 : Int32)) h dX7_readOne_2 kiconst_0 ?_
  refine j_istore_n h dX7_readOne_3 rfl rfl ?_
  refine j_wk (ls' := [some (.ref (G.2.2 4)), some (.int x1), some (.int (0 : Int32)), some (.int (0 : Int32))]) (And.intro rfl (And.intro rfl (And.intro rfl (And.intro rfl trivial)))) ?_
  exact (wX7_readOne L hL rec hrec h 5000).1 x1 (0 : Int32) (0 : Int32) m
theorem dX7_readBoth_0 : DD cX7_readBoth 0 (.aload_n 0) 1 1 := ⟨by decide +kernel, rfl⟩
theorem dX7_readBoth_1 : DD cX7_readBoth 1 (.iload_n 1) 1 2 := ⟨by decide +kernel, rfl⟩
theorem dX7_readBoth_2 : DD cX7_readBoth 2 (.invokevirtual 184) 3 5 := ⟨by decide +kernel, rfl⟩
theorem dX7_readBoth_5 : DD cX7_readBoth 5 (.ifCond .ne 5) 3 8 := ⟨by decide +kernel, rfl⟩
theorem dX7_readBoth_8 : DD cX7_readBoth 8 (.iconst 0) 1 9 := ⟨by decide +kernel, rfl⟩
theorem dX7_readBoth_9 : DD cX7_readBoth 9 (.ireturn) 1 10 := ⟨by decide +kernel, rfl⟩
theorem dX7_readBoth_10 : DD cX7_readBoth 10 (.iconst 0) 1 11 := ⟨by decide +kernel, rfl⟩
theorem dX7_readBoth_11 : DD cX7_readBoth 11 (.istore_n 2) 1 12 := ⟨by decide +kernel, rfl⟩
theorem dX7_readBoth_12 : DD cX7_readBoth 12 (.iload_n 2) 1 13 := ⟨by decide +kernel, rfl⟩
theorem dX7_readBoth_13 : DD cX7_readBoth 13 (.sipush 1600) 3 16 := ⟨by decide +kernel, rfl⟩
theorem dX7_readBoth_16 : DD cX7_readBoth 16 (.if_icmp .ge 48) 3 19 := ⟨by decide +kernel, rfl⟩
theorem dX7_readBoth_19 : DD cX7_readBoth 19 (.aload_n 0) 1 20 := ⟨by decide +kernel, rfl⟩
theorem dX7_readBoth_20 : DD cX7_readBoth 20 (.getfield 29) 3 23 := ⟨by decide +kernel, rfl⟩
theorem dX7_readBoth_23 : DD cX7_readBoth 23 (.getfield 44) 3 26 := ⟨by decide +kernel, rfl⟩
theorem dX7_readBoth_26 : DD cX7_readBoth 26 (.sipush 145) 3 29 := ⟨by decide +kernel, rfl⟩
theorem dX7_readBoth_29 : DD cX7_readBoth 29 (.if_icmp .ne 35) 3 32 := ⟨by decide +kernel, rfl⟩
theorem dX7_readBoth_32 : DD cX7_readBoth 32 (.aload_n 0) 1 33 := ⟨by decide +kernel, rfl⟩
theorem dX7_readBoth_33 : DD cX7_readBoth 33 (.getfield 29) 3 36 := ⟨by decide +kernel, rfl⟩
theorem dX7_readBoth_36 : DD cX7_readBoth 36 (.invokevirtual 80) 3 39 := ⟨by decide +kernel, rfl⟩
theorem dX7_readBoth_39 : DD cX7_readBoth 39 (.aload_n 0) 1 40 := ⟨by decide +kernel, rfl⟩
theorem dX7_readBoth_40 : DD cX7_readBoth 40 (.iload_n 1) 1 41 := ⟨by decide +kernel, rfl⟩
theorem dX7_readBoth_41 : DD cX7_readBoth 41 (.invokevirtual 184) 3 44 := ⟨by decide +kernel, rfl⟩
theorem dX7_readBoth_44 : DD cX7_readBoth 44 (.ifCond .ne 5) 3 47 := ⟨by decide +kernel, rfl⟩
theorem dX7_readBoth_47 : DD cX7_readBoth 47 (.iconst 0) 1 48 := ⟨by decide +kernel, rfl⟩
theorem dX7_readBoth_48 : DD cX7_readBoth 48 (.ireturn) 1 49 := ⟨by decide +kernel, rfl⟩
theorem dX7_readBoth_49 : DD cX7_readBoth 49 (.aload_n 0) 1 50 := ⟨by decide +kernel, rfl⟩
theorem dX7_readBoth_50 : DD cX7_readBoth 50 (.getfield 22) 3 53 := ⟨by decide +kernel, rfl⟩
theorem dX7_readBoth_53 : DD cX7_readBoth 53 (.bipush (-7)) 2 55 := ⟨by decide +kernel, rfl⟩
theorem dX7_readBoth_55 : DD cX7_readBoth 55 (.invokevirtual 180) 3 58 := ⟨by decide +kernel, rfl⟩
theorem dX7_readBoth_58 : DD cX7_readBoth 58 (.iinc 2 1) 3 61 := ⟨by decide +kernel, rfl⟩
theorem dX7_readBoth_61 : DD cX7_readBoth 61 (.goto (-49)) 3 64 := ⟨by decide +kernel, rfl⟩
theorem dX7_readBoth_64 : DD cX7_readBoth 64 (.iconst 1) 1 65 := ⟨by decide +kernel, rfl⟩
theorem dX7_readBoth_65 : DD cX7_readBoth 65 (.ireturn) 1 66 := ⟨by decide +kernel, rfl⟩
def gX7_readBoth (rec : Mem → Int32 → Option (Int32 × Mem)) : Nat → Int32 → Int32 → Mem → Option (Int32 × Mem)
  | 0, _, _, _ => none
  | f + 1, x1, x2, m => (if (1600 : Int32) ≤ x2 then (some ((1 : Int32), m)) else (if (m.1 1 4) = (145 : Int32) then (cV (fX10_advance m) fun m4 => (cI (fX7_readOne rec m4 x1) fun r5 m6 => (if r5 = 0 then (some ((0 : Int32), m6)) else (gFm (m6.2.2 4 2) (cV (fX3_put m6 (m6.2.2 4 2) (-7 : Int32)) fun m10 => (gX7_readBoth rec f x1 (x2 + (1 : Int32)) m10)))))) else (some ((1 : Int32), m))))
def fX7_readBoth (rec : Mem → Int32 → Option (Int32 × Mem)) (m : Mem) (x1 : Int32) : Option (Int32 × Mem) := (cI (fX7_readOne rec m x1) fun r1 m2 => (if r1 = 0 then (some ((0 : Int32), m2)) else (gX7_readBoth rec 5000 x1 (0 : Int32) m2)))
set_option maxHeartbeats 4000000 in
set_option maxRecDepth 100000 in
theorem wX7_readBoth {X : Cx} {G : Gt} (L : Nat) (hL : 30 ≤ L) (rec : Mem → Int32 → Option (Int32 × Mem)) (hrec : ∀ (l : Launch) (m : Mem) (x : Int32), ∀ a, rec m x = some a → Ct l G wC nC yX7_readEither cX7_readEither 3 (some .boolean) L [.ref (G.2.2 4), .int x] m (cvI a)) (h : OkX (X, G, wC, nC) cX7_readBoth RX7 3 (some .boolean) (L + 6)) : ∀ f : Nat, (∀ (x1 : Int32) (x2 : Int32) (m : Mem), JR (X, G, wC, nC) cvI m 12 [some (.ref (G.2.2 4)), some (.int x1), some (.int x2)] [] (gX7_readBoth rec f x1 x2 m)) := by
  intro f
  induction f with
  | zero => exact (fun _ _ _ => j_none)
  | succ f ih =>
    intro x1 x2 m
    rw [gX7_readBoth]
    refine j_iload_n h dX7_readBoth_12 rfl ?_
    refine j_sipush (v := (1600 : Int32)) h dX7_readBoth_13 ksipush_1600 ?_
    refine j_icmp_ge (tgt := 64) h dX7_readBoth_16 (by decide) (fun c1 => ?_) (fun c1 => ?_)
    · refine j_iconst (v := (1 : Int32)) h dX7_readBoth_64 kiconst_1 ?_
      exact j_zretB h rfl rfl dX7_readBoth_65
    · refine j_aload_n h dX7_readBoth_19 rfl ?_
      refine gC7_29 h dX7_readBoth_20 ?_
      refine gC7_44 h dX7_readBoth_23 ?_
      refine j_sipush (v := (145 : Int32)) h dX7_readBoth_26 ksipush_145 ?_
      refine j_icmp_ne (tgt := 64) h dX7_readBoth_29 (by decide) (fun c2 => ?_) (fun c2 => ?_)
      · refine j_iconst (v := (1 : Int32)) h dX7_readBoth_64 kiconst_1 ?_
        exact j_zretB h rfl rfl dX7_readBoth_65
      · refine j_aload_n h dX7_readBoth_32 rfl ?_
        refine gC7_29 h dX7_readBoth_33 ?_
        refine j_callVV (q0 := 1) (ci := 10) h [] (kX10_advance _ G h.2.2.2.2.2.2.2.2.2.2 m) okX10_advance inX10_advance ml7_80 rfl rfl rfl rfl (by omega) (by decide) (Nat.le_of_ble_eq_true rfl) rfl dX7_readBoth_36 (fun m4 hm4 => ?_)
        refine j_aload_n h dX7_readBoth_39 rfl ?_
        refine j_iload_n h dX7_readBoth_40 rfl ?_
        refine j_callVI (q0 := 4) (ci := 7) h [.int x1] (kX7_readOne _ G h.2.2.2.2.2.2.2.2.2.2 L hL rec hrec m4 x1) okX7_readOne inX7_readOne ml7_184 rfl rfl rfl rfl (by omega) (by decide) (Nat.le_of_ble_eq_true rfl) rfl dX7_readBoth_41 (fun r5 m6 hr5 => ?_)
        refine j_if_ne (tgt := 49) h dX7_readBoth_44 (by decide) (fun c7 => ?_) (fun c7 => ?_)
        · refine j_aload_n h dX7_readBoth_49 rfl ?_
          refine gC7_22 h dX7_readBoth_50 ?_
          refine j_bipush (v := (-7 : Int32)) h dX7_readBoth_53 kbipush_m7 ?_
          refine j_gFm (fun hg8 => ?_)
          refine j_callVV (q0 := (m6.2.2 4 2)) (ci := 3) h [.int (-7 : Int32)] (kX3_put _ G h.2.2.2.2.2.2.2.2.2.2 m6 (m6.2.2 4 2) (-7 : Int32)) okX3_put inX3_put ml7_180 rfl (at_Fm hg8) rfl rfl (by omega) (by decide) (Nat.le_of_ble_eq_true rfl) rfl dX7_readBoth_55 (fun m10 hm10 => ?_)
          refine j_iinc (v := (x2 + (1 : Int32))) h dX7_readBoth_58 rfl (by rw [kiconst_1]) rfl ?_
          refine j_goto (tgt := 12) h dX7_readBoth_61 (by decide) ?_
          refine j_wk (ls' := [some (.ref (G.2.2 4)), some (.int x1), some (.int (x2 + (1 : Int32)))]) (And.intro rfl (And.intro rfl (And.intro rfl trivial))) ?_
          exact ih x1 (x2 + (1 : Int32)) m10
        · refine j_iconst (v := (0 : Int32)) h dX7_readBoth_47 kiconst_0 ?_
          exact j_zretB h rfl rfl dX7_readBoth_48
set_option maxHeartbeats 4000000 in
set_option maxRecDepth 100000 in
theorem kX7_readBoth (l : Launch) (G : Gt) (hD : ∀ m, va_D (inA G nC) (wC G m)) (L : Nat) (hL : 30 ≤ L) (rec : Mem → Int32 → Option (Int32 × Mem)) (hrec : ∀ (l : Launch) (m : Mem) (x : Int32), ∀ a, rec m x = some a → Ct l G wC nC yX7_readEither cX7_readEither 3 (some .boolean) L [.ref (G.2.2 4), .int x] m (cvI a)) (m : Mem) (x1 : Int32) : ∀ a, fX7_readBoth rec m x1 = some a → Ct l G wC nC yX7_readBoth cX7_readBoth 3 (some .boolean) (L + 6) [.ref (G.2.2 4), .int x1] m (cvI a) := by
  refine ct_of (own := RX7) (ls0 := [some (.ref (G.2.2 4)), some (.int x1), none]) (by decide) rfl rfl rfl (Nat.le_of_ble_eq_true rfl) hD (fun X h => ?_) l
  unfold fX7_readBoth
  refine j_aload_n h dX7_readBoth_0 rfl ?_
  refine j_iload_n h dX7_readBoth_1 rfl ?_
  refine j_callVI (q0 := 4) (ci := 7) h [.int x1] (kX7_readOne _ G h.2.2.2.2.2.2.2.2.2.2 L hL rec hrec m x1) okX7_readOne inX7_readOne ml7_184 rfl rfl rfl rfl (by omega) (by decide) (Nat.le_of_ble_eq_true rfl) rfl dX7_readBoth_2 (fun r1 m2 hr1 => ?_)
  refine j_if_ne (tgt := 10) h dX7_readBoth_5 (by decide) (fun c3 => ?_) (fun c3 => ?_)
  · refine j_iconst (v := (0 : Int32)) h dX7_readBoth_10 kiconst_0 ?_
    refine j_istore_n h dX7_readBoth_11 rfl rfl ?_
    refine j_wk (ls' := [some (.ref (G.2.2 4)), some (.int x1), some (.int (0 : Int32))]) (And.intro rfl (And.intro rfl (And.intro rfl trivial))) ?_
    exact (wX7_readBoth L hL rec hrec h 5000) x1 (0 : Int32) m2
  · refine j_iconst (v := (0 : Int32)) h dX7_readBoth_8 kiconst_0 ?_
    exact j_zretB h rfl rfl dX7_readBoth_9
theorem dX7_readEither_0 : DD cX7_readEither 0 (.aload_n 0) 1 1 := ⟨by decide +kernel, rfl⟩
theorem dX7_readEither_1 : DD cX7_readEither 1 (.iload_n 1) 1 2 := ⟨by decide +kernel, rfl⟩
theorem dX7_readEither_2 : DD cX7_readEither 2 (.invokevirtual 177) 3 5 := ⟨by decide +kernel, rfl⟩
theorem dX7_readEither_5 : DD cX7_readEither 5 (.ifCond .ne 5) 3 8 := ⟨by decide +kernel, rfl⟩
theorem dX7_readEither_8 : DD cX7_readEither 8 (.iconst 0) 1 9 := ⟨by decide +kernel, rfl⟩
theorem dX7_readEither_9 : DD cX7_readEither 9 (.ireturn) 1 10 := ⟨by decide +kernel, rfl⟩
theorem dX7_readEither_10 : DD cX7_readEither 10 (.iconst 0) 1 11 := ⟨by decide +kernel, rfl⟩
theorem dX7_readEither_11 : DD cX7_readEither 11 (.istore_n 2) 1 12 := ⟨by decide +kernel, rfl⟩
theorem dX7_readEither_12 : DD cX7_readEither 12 (.iload_n 2) 1 13 := ⟨by decide +kernel, rfl⟩
theorem dX7_readEither_13 : DD cX7_readEither 13 (.sipush 1600) 3 16 := ⟨by decide +kernel, rfl⟩
theorem dX7_readEither_16 : DD cX7_readEither 16 (.if_icmp .ge 48) 3 19 := ⟨by decide +kernel, rfl⟩
theorem dX7_readEither_19 : DD cX7_readEither 19 (.aload_n 0) 1 20 := ⟨by decide +kernel, rfl⟩
theorem dX7_readEither_20 : DD cX7_readEither 20 (.getfield 29) 3 23 := ⟨by decide +kernel, rfl⟩
theorem dX7_readEither_23 : DD cX7_readEither 23 (.getfield 44) 3 26 := ⟨by decide +kernel, rfl⟩
theorem dX7_readEither_26 : DD cX7_readEither 26 (.sipush 144) 3 29 := ⟨by decide +kernel, rfl⟩
theorem dX7_readEither_29 : DD cX7_readEither 29 (.if_icmp .ne 35) 3 32 := ⟨by decide +kernel, rfl⟩
theorem dX7_readEither_32 : DD cX7_readEither 32 (.aload_n 0) 1 33 := ⟨by decide +kernel, rfl⟩
theorem dX7_readEither_33 : DD cX7_readEither 33 (.getfield 29) 3 36 := ⟨by decide +kernel, rfl⟩
theorem dX7_readEither_36 : DD cX7_readEither 36 (.invokevirtual 80) 3 39 := ⟨by decide +kernel, rfl⟩
theorem dX7_readEither_39 : DD cX7_readEither 39 (.aload_n 0) 1 40 := ⟨by decide +kernel, rfl⟩
theorem dX7_readEither_40 : DD cX7_readEither 40 (.iload_n 1) 1 41 := ⟨by decide +kernel, rfl⟩
theorem dX7_readEither_41 : DD cX7_readEither 41 (.invokevirtual 177) 3 44 := ⟨by decide +kernel, rfl⟩
theorem dX7_readEither_44 : DD cX7_readEither 44 (.ifCond .ne 5) 3 47 := ⟨by decide +kernel, rfl⟩
theorem dX7_readEither_47 : DD cX7_readEither 47 (.iconst 0) 1 48 := ⟨by decide +kernel, rfl⟩
theorem dX7_readEither_48 : DD cX7_readEither 48 (.ireturn) 1 49 := ⟨by decide +kernel, rfl⟩
theorem dX7_readEither_49 : DD cX7_readEither 49 (.aload_n 0) 1 50 := ⟨by decide +kernel, rfl⟩
theorem dX7_readEither_50 : DD cX7_readEither 50 (.getfield 22) 3 53 := ⟨by decide +kernel, rfl⟩
theorem dX7_readEither_53 : DD cX7_readEither 53 (.bipush (-6)) 2 55 := ⟨by decide +kernel, rfl⟩
theorem dX7_readEither_55 : DD cX7_readEither 55 (.invokevirtual 180) 3 58 := ⟨by decide +kernel, rfl⟩
theorem dX7_readEither_58 : DD cX7_readEither 58 (.iinc 2 1) 3 61 := ⟨by decide +kernel, rfl⟩
theorem dX7_readEither_61 : DD cX7_readEither 61 (.goto (-49)) 3 64 := ⟨by decide +kernel, rfl⟩
theorem dX7_readEither_64 : DD cX7_readEither 64 (.iconst 1) 1 65 := ⟨by decide +kernel, rfl⟩
theorem dX7_readEither_65 : DD cX7_readEither 65 (.ireturn) 1 66 := ⟨by decide +kernel, rfl⟩
def gX7_readEither (rec : Mem → Int32 → Option (Int32 × Mem)) : Nat → Int32 → Int32 → Mem → Option (Int32 × Mem)
  | 0, _, _, _ => none
  | f + 1, x1, x2, m => (if (1600 : Int32) ≤ x2 then (some ((1 : Int32), m)) else (if (m.1 1 4) = (144 : Int32) then (cV (fX10_advance m) fun m4 => (cI (fX7_readBoth rec m4 x1) fun r5 m6 => (if r5 = 0 then (some ((0 : Int32), m6)) else (gFm (m6.2.2 4 2) (cV (fX3_put m6 (m6.2.2 4 2) (-6 : Int32)) fun m10 => (gX7_readEither rec f x1 (x2 + (1 : Int32)) m10)))))) else (some ((1 : Int32), m))))
def fX7_readEither (rec : Mem → Int32 → Option (Int32 × Mem)) (m : Mem) (x1 : Int32) : Option (Int32 × Mem) := (cI (fX7_readBoth rec m x1) fun r1 m2 => (if r1 = 0 then (some ((0 : Int32), m2)) else (gX7_readEither rec 5000 x1 (0 : Int32) m2)))
set_option maxHeartbeats 4000000 in
set_option maxRecDepth 100000 in
theorem wX7_readEither {X : Cx} {G : Gt} (L : Nat) (hL : 30 ≤ L) (rec : Mem → Int32 → Option (Int32 × Mem)) (hrec : ∀ (l : Launch) (m : Mem) (x : Int32), ∀ a, rec m x = some a → Ct l G wC nC yX7_readEither cX7_readEither 3 (some .boolean) L [.ref (G.2.2 4), .int x] m (cvI a)) (h : OkX (X, G, wC, nC) cX7_readEither RX7 3 (some .boolean) (L + 7)) : ∀ f : Nat, (∀ (x1 : Int32) (x2 : Int32) (m : Mem), JR (X, G, wC, nC) cvI m 12 [some (.ref (G.2.2 4)), some (.int x1), some (.int x2)] [] (gX7_readEither rec f x1 x2 m)) := by
  intro f
  induction f with
  | zero => exact (fun _ _ _ => j_none)
  | succ f ih =>
    intro x1 x2 m
    rw [gX7_readEither]
    refine j_iload_n h dX7_readEither_12 rfl ?_
    refine j_sipush (v := (1600 : Int32)) h dX7_readEither_13 ksipush_1600 ?_
    refine j_icmp_ge (tgt := 64) h dX7_readEither_16 (by decide) (fun c1 => ?_) (fun c1 => ?_)
    · refine j_iconst (v := (1 : Int32)) h dX7_readEither_64 kiconst_1 ?_
      exact j_zretB h rfl rfl dX7_readEither_65
    · refine j_aload_n h dX7_readEither_19 rfl ?_
      refine gC7_29 h dX7_readEither_20 ?_
      refine gC7_44 h dX7_readEither_23 ?_
      refine j_sipush (v := (144 : Int32)) h dX7_readEither_26 ksipush_144 ?_
      refine j_icmp_ne (tgt := 64) h dX7_readEither_29 (by decide) (fun c2 => ?_) (fun c2 => ?_)
      · refine j_iconst (v := (1 : Int32)) h dX7_readEither_64 kiconst_1 ?_
        exact j_zretB h rfl rfl dX7_readEither_65
      · refine j_aload_n h dX7_readEither_32 rfl ?_
        refine gC7_29 h dX7_readEither_33 ?_
        refine j_callVV (q0 := 1) (ci := 10) h [] (kX10_advance _ G h.2.2.2.2.2.2.2.2.2.2 m) okX10_advance inX10_advance ml7_80 rfl rfl rfl rfl (by omega) (by decide) (Nat.le_of_ble_eq_true rfl) rfl dX7_readEither_36 (fun m4 hm4 => ?_)
        refine j_aload_n h dX7_readEither_39 rfl ?_
        refine j_iload_n h dX7_readEither_40 rfl ?_
        refine j_callVI (q0 := 4) (ci := 7) h [.int x1] (kX7_readBoth _ G h.2.2.2.2.2.2.2.2.2.2 L hL rec hrec m4 x1) okX7_readBoth inX7_readBoth ml7_177 rfl rfl rfl rfl (by omega) (by decide) (Nat.le_of_ble_eq_true rfl) rfl dX7_readEither_41 (fun r5 m6 hr5 => ?_)
        refine j_if_ne (tgt := 49) h dX7_readEither_44 (by decide) (fun c7 => ?_) (fun c7 => ?_)
        · refine j_aload_n h dX7_readEither_49 rfl ?_
          refine gC7_22 h dX7_readEither_50 ?_
          refine j_bipush (v := (-6 : Int32)) h dX7_readEither_53 kbipush_m6 ?_
          refine j_gFm (fun hg8 => ?_)
          refine j_callVV (q0 := (m6.2.2 4 2)) (ci := 3) h [.int (-6 : Int32)] (kX3_put _ G h.2.2.2.2.2.2.2.2.2.2 m6 (m6.2.2 4 2) (-6 : Int32)) okX3_put inX3_put ml7_180 rfl (at_Fm hg8) rfl rfl (by omega) (by decide) (Nat.le_of_ble_eq_true rfl) rfl dX7_readEither_55 (fun m10 hm10 => ?_)
          refine j_iinc (v := (x2 + (1 : Int32))) h dX7_readEither_58 rfl (by rw [kiconst_1]) rfl ?_
          refine j_goto (tgt := 12) h dX7_readEither_61 (by decide) ?_
          refine j_wk (ls' := [some (.ref (G.2.2 4)), some (.int x1), some (.int (x2 + (1 : Int32)))]) (And.intro rfl (And.intro rfl (And.intro rfl trivial))) ?_
          exact ih x1 (x2 + (1 : Int32)) m10
        · refine j_iconst (v := (0 : Int32)) h dX7_readEither_47 kiconst_0 ?_
          exact j_zretB h rfl rfl dX7_readEither_48
set_option maxHeartbeats 4000000 in
set_option maxRecDepth 100000 in
theorem kX7_readEither (l : Launch) (G : Gt) (hD : ∀ m, va_D (inA G nC) (wC G m)) (L : Nat) (hL : 30 ≤ L) (rec : Mem → Int32 → Option (Int32 × Mem)) (hrec : ∀ (l : Launch) (m : Mem) (x : Int32), ∀ a, rec m x = some a → Ct l G wC nC yX7_readEither cX7_readEither 3 (some .boolean) L [.ref (G.2.2 4), .int x] m (cvI a)) (m : Mem) (x1 : Int32) : ∀ a, fX7_readEither rec m x1 = some a → Ct l G wC nC yX7_readEither cX7_readEither 3 (some .boolean) (L + 7) [.ref (G.2.2 4), .int x1] m (cvI a) := by
  refine ct_of (own := RX7) (ls0 := [some (.ref (G.2.2 4)), some (.int x1), none]) (by decide) rfl rfl rfl (Nat.le_of_ble_eq_true rfl) hD (fun X h => ?_) l
  unfold fX7_readEither
  refine j_aload_n h dX7_readEither_0 rfl ?_
  refine j_iload_n h dX7_readEither_1 rfl ?_
  refine j_callVI (q0 := 4) (ci := 7) h [.int x1] (kX7_readBoth _ G h.2.2.2.2.2.2.2.2.2.2 L hL rec hrec m x1) okX7_readBoth inX7_readBoth ml7_177 rfl rfl rfl rfl (by omega) (by decide) (Nat.le_of_ble_eq_true rfl) rfl dX7_readEither_2 (fun r1 m2 hr1 => ?_)
  refine j_if_ne (tgt := 10) h dX7_readEither_5 (by decide) (fun c3 => ?_) (fun c3 => ?_)
  · refine j_iconst (v := (0 : Int32)) h dX7_readEither_10 kiconst_0 ?_
    refine j_istore_n h dX7_readEither_11 rfl rfl ?_
    refine j_wk (ls' := [some (.ref (G.2.2 4)), some (.int x1), some (.int (0 : Int32))]) (And.intro rfl (And.intro rfl (And.intro rfl trivial))) ?_
    exact (wX7_readEither L hL rec hrec h 5000) x1 (0 : Int32) m2
  · refine j_iconst (v := (0 : Int32)) h dX7_readEither_8 kiconst_0 ?_
    exact j_zretB h rfl rfl dX7_readEither_9
def fX7_either : Nat → Mem → Int32 → Option (Int32 × Mem)
  | 0, _, _ => none
  | d + 1, m, x => fX7_readEither (fX7_either d) m x
theorem kX7_either (G : Gt) (hD : ∀ m, va_D (inA G nC) (wC G m)) : ∀ (d : Nat) (l : Launch) (m : Mem) (x : Int32), ∀ a, fX7_either d m x = some a → Ct l G wC nC yX7_readEither cX7_readEither 3 (some .boolean) (30 + 7 * d) [.ref (G.2.2 4), .int x] m (cvI a) := by
  intro d
  induction d with
  | zero => intro l m x a ha; cases ha
  | succ d ih =>
    intro l m x a ha
    exact kX7_readEither l G hD (30 + 7 * d) (by omega) (fX7_either d) ih m x a ha
theorem dX8_save_0 : DD cX8_save 0 (.iload_n 2) 1 1 := ⟨by decide +kernel, rfl⟩
theorem dX8_save_1 : DD cX8_save 1 (.ifCond .lt 12) 3 4 := ⟨by decide +kernel, rfl⟩
theorem dX8_save_4 : DD cX8_save 4 (.iload_n 2) 1 5 := ⟨by decide +kernel, rfl⟩
theorem dX8_save_5 : DD cX8_save 5 (.aload_n 1) 1 6 := ⟨by decide +kernel, rfl⟩
theorem dX8_save_6 : DD cX8_save 6 (.arraylength) 1 7 := ⟨by decide +kernel, rfl⟩
theorem dX8_save_7 : DD cX8_save 7 (.bipush 37) 2 9 := ⟨by decide +kernel, rfl⟩
theorem dX8_save_9 : DD cX8_save 9 (.isub) 1 10 := ⟨by decide +kernel, rfl⟩
theorem dX8_save_10 : DD cX8_save 10 (.if_icmp .le 4) 3 13 := ⟨by decide +kernel, rfl⟩
theorem dX8_save_13 : DD cX8_save 13 (.return_) 1 14 := ⟨by decide +kernel, rfl⟩
theorem dX8_save_14 : DD cX8_save 14 (.iload_n 2) 1 15 := ⟨by decide +kernel, rfl⟩
theorem dX8_save_15 : DD cX8_save 15 (.istore_n 3) 1 16 := ⟨by decide +kernel, rfl⟩
theorem dX8_save_16 : DD cX8_save 16 (.aload_n 0) 1 17 := ⟨by decide +kernel, rfl⟩
theorem dX8_save_17 : DD cX8_save 17 (.getfield 9) 3 20 := ⟨by decide +kernel, rfl⟩
theorem dX8_save_20 : DD cX8_save 20 (.iconst 0) 1 21 := ⟨by decide +kernel, rfl⟩
theorem dX8_save_21 : DD cX8_save 21 (.aload_n 1) 1 22 := ⟨by decide +kernel, rfl⟩
theorem dX8_save_22 : DD cX8_save 22 (.iload_n 3) 1 23 := ⟨by decide +kernel, rfl⟩
theorem dX8_save_23 : DD cX8_save 23 (.bipush 7) 2 25 := ⟨by decide +kernel, rfl⟩
theorem dX8_save_25 : DD cX8_save 25 (.invokestatic 25) 3 28 := ⟨by decide +kernel, rfl⟩
theorem dX8_save_28 : DD cX8_save 28 (.iinc 3 7) 3 31 := ⟨by decide +kernel, rfl⟩
theorem dX8_save_31 : DD cX8_save 31 (.aload_n 0) 1 32 := ⟨by decide +kernel, rfl⟩
theorem dX8_save_32 : DD cX8_save 32 (.getfield 15) 3 35 := ⟨by decide +kernel, rfl⟩
theorem dX8_save_35 : DD cX8_save 35 (.iconst 0) 1 36 := ⟨by decide +kernel, rfl⟩
theorem dX8_save_36 : DD cX8_save 36 (.aload_n 1) 1 37 := ⟨by decide +kernel, rfl⟩
theorem dX8_save_37 : DD cX8_save 37 (.iload_n 3) 1 38 := ⟨by decide +kernel, rfl⟩
theorem dX8_save_38 : DD cX8_save 38 (.bipush 7) 2 40 := ⟨by decide +kernel, rfl⟩
theorem dX8_save_40 : DD cX8_save 40 (.invokestatic 25) 3 43 := ⟨by decide +kernel, rfl⟩
theorem dX8_save_43 : DD cX8_save 43 (.iinc 3 7) 3 46 := ⟨by decide +kernel, rfl⟩
theorem dX8_save_46 : DD cX8_save 46 (.aload_n 0) 1 47 := ⟨by decide +kernel, rfl⟩
theorem dX8_save_47 : DD cX8_save 47 (.getfield 18) 3 50 := ⟨by decide +kernel, rfl⟩
theorem dX8_save_50 : DD cX8_save 50 (.iconst 0) 1 51 := ⟨by decide +kernel, rfl⟩
theorem dX8_save_51 : DD cX8_save 51 (.aload_n 1) 1 52 := ⟨by decide +kernel, rfl⟩
theorem dX8_save_52 : DD cX8_save 52 (.iload_n 3) 1 53 := ⟨by decide +kernel, rfl⟩
theorem dX8_save_53 : DD cX8_save 53 (.bipush 10) 2 55 := ⟨by decide +kernel, rfl⟩
theorem dX8_save_55 : DD cX8_save 55 (.invokestatic 25) 3 58 := ⟨by decide +kernel, rfl⟩
theorem dX8_save_58 : DD cX8_save 58 (.iinc 3 10) 3 61 := ⟨by decide +kernel, rfl⟩
theorem dX8_save_61 : DD cX8_save 61 (.aload_n 0) 1 62 := ⟨by decide +kernel, rfl⟩
theorem dX8_save_62 : DD cX8_save 62 (.getfield 21) 3 65 := ⟨by decide +kernel, rfl⟩
theorem dX8_save_65 : DD cX8_save 65 (.iconst 0) 1 66 := ⟨by decide +kernel, rfl⟩
theorem dX8_save_66 : DD cX8_save 66 (.aload_n 1) 1 67 := ⟨by decide +kernel, rfl⟩
theorem dX8_save_67 : DD cX8_save 67 (.iload_n 3) 1 68 := ⟨by decide +kernel, rfl⟩
theorem dX8_save_68 : DD cX8_save 68 (.bipush 10) 2 70 := ⟨by decide +kernel, rfl⟩
theorem dX8_save_70 : DD cX8_save 70 (.invokestatic 25) 3 73 := ⟨by decide +kernel, rfl⟩
theorem dX8_save_73 : DD cX8_save 73 (.iinc 3 10) 3 76 := ⟨by decide +kernel, rfl⟩
theorem dX8_save_76 : DD cX8_save 76 (.aload_n 1) 1 77 := ⟨by decide +kernel, rfl⟩
theorem dX8_save_77 : DD cX8_save 77 (.iload_n 3) 1 78 := ⟨by decide +kernel, rfl⟩
theorem dX8_save_78 : DD cX8_save 78 (.aload_n 0) 1 79 := ⟨by decide +kernel, rfl⟩
theorem dX8_save_79 : DD cX8_save 79 (.getfield 37) 3 82 := ⟨by decide +kernel, rfl⟩
theorem dX8_save_82 : DD cX8_save 82 (.iastore) 1 83 := ⟨by decide +kernel, rfl⟩
theorem dX8_save_83 : DD cX8_save 83 (.aload_n 1) 1 84 := ⟨by decide +kernel, rfl⟩
theorem dX8_save_84 : DD cX8_save 84 (.iload_n 3) 1 85 := ⟨by decide +kernel, rfl⟩
theorem dX8_save_85 : DD cX8_save 85 (.iconst 1) 1 86 := ⟨by decide +kernel, rfl⟩
theorem dX8_save_86 : DD cX8_save 86 (.iadd) 1 87 := ⟨by decide +kernel, rfl⟩
theorem dX8_save_87 : DD cX8_save 87 (.aload_n 0) 1 88 := ⟨by decide +kernel, rfl⟩
theorem dX8_save_88 : DD cX8_save 88 (.getfield 41) 3 91 := ⟨by decide +kernel, rfl⟩
theorem dX8_save_91 : DD cX8_save 91 (.iastore) 1 92 := ⟨by decide +kernel, rfl⟩
theorem dX8_save_92 : DD cX8_save 92 (.aload_n 1) 1 93 := ⟨by decide +kernel, rfl⟩
theorem dX8_save_93 : DD cX8_save 93 (.iload_n 3) 1 94 := ⟨by decide +kernel, rfl⟩
theorem dX8_save_94 : DD cX8_save 94 (.iconst 2) 1 95 := ⟨by decide +kernel, rfl⟩
theorem dX8_save_95 : DD cX8_save 95 (.iadd) 1 96 := ⟨by decide +kernel, rfl⟩
theorem dX8_save_96 : DD cX8_save 96 (.aload_n 0) 1 97 := ⟨by decide +kernel, rfl⟩
theorem dX8_save_97 : DD cX8_save 97 (.getfield 53) 3 100 := ⟨by decide +kernel, rfl⟩
theorem dX8_save_100 : DD cX8_save 100 (.iastore) 1 101 := ⟨by decide +kernel, rfl⟩
theorem dX8_save_101 : DD cX8_save 101 (.return_) 1 102 := ⟨by decide +kernel, rfl⟩
def fX8_save (m : Mem) (x1 : Nat) (x2 : Int32) : Option Mem := (if x2 < 0 then (some m) else (gRw x1 (if x2 ≤ ((Int32.ofNat (rlen x1)) - (37 : Int32)) then (cpy m 28 7 x1 (rlen x1) (0 : Int32) x2 (7 : Int32) fun m4 => (cpy m4 29 7 x1 (rlen x1) (0 : Int32) (x2 + (7 : Int32)) (7 : Int32) fun m5 => (cpy m5 30 10 x1 (rlen x1) (0 : Int32) ((x2 + (7 : Int32)) + (7 : Int32)) (10 : Int32) fun m6 => (cpy m6 31 10 x1 (rlen x1) (0 : Int32) (((x2 + (7 : Int32)) + (7 : Int32)) + (10 : Int32)) (10 : Int32) fun m7 => (wr m7 x1 (rlen x1) ((((x2 + (7 : Int32)) + (7 : Int32)) + (10 : Int32)) + (10 : Int32)) (m7.1 27 4) fun m8 => (wr m8 x1 (rlen x1) (((((x2 + (7 : Int32)) + (7 : Int32)) + (10 : Int32)) + (10 : Int32)) + (1 : Int32)) (m8.1 27 5) fun m9 => (wr m9 x1 (rlen x1) (((((x2 + (7 : Int32)) + (7 : Int32)) + (10 : Int32)) + (10 : Int32)) + (2 : Int32)) (m9.1 27 6) fun m10 => (some m10)))))))) else (some m))))
set_option maxHeartbeats 4000000 in
set_option maxRecDepth 100000 in
theorem kX8_save (l : Launch) (G : Gt) (hD : ∀ m, va_D (inA G nC) (wC G m)) (m : Mem) (x1 : Nat) (x2 : Int32) : ∀ a, fX8_save m x1 x2 = some a → Ct l G wC nC yX8_save cX8_save 4 none 2 [.ref (G.2.2 27), .ref (G.2.2 x1), .int x2] m (cvV a) := by
  refine ct_of (own := RX8) (ls0 := [some (.ref (G.2.2 27)), some (.ref (G.2.2 x1)), some (.int x2), none]) (by decide) rfl rfl rfl (Nat.le_of_ble_eq_true rfl) hD (fun X h => ?_) l
  unfold fX8_save
  refine j_iload_n h dX8_save_0 rfl ?_
  refine j_if_lt (tgt := 13) h dX8_save_1 (by decide) (fun c1 => ?_) (fun c1 => ?_)
  · exact j_vret h rfl dX8_save_13
  · refine j_iload_n h dX8_save_4 rfl ?_
    refine j_aload_n h dX8_save_5 rfl ?_
    refine j_gRw (fun hg2 => ?_)
    refine j_alen (q0 := x1) h (at_Rw hg2) rfl dX8_save_6 ?_
    refine j_bipush (v := (37 : Int32)) h dX8_save_7 kbipush_37 ?_
    refine j_isub h dX8_save_9 ?_
    refine j_icmp_le (tgt := 14) h dX8_save_10 (by decide) (fun c3 => ?_) (fun c3 => ?_)
    · refine j_iload_n h dX8_save_14 rfl ?_
      refine j_istore_n h dX8_save_15 rfl rfl ?_
      refine j_aload_n h dX8_save_16 rfl ?_
      refine gC8_9 h dX8_save_17 ?_
      refine j_iconst (v := (0 : Int32)) h dX8_save_20 kiconst_0 ?_
      refine j_aload_n h dX8_save_21 rfl ?_
      refine j_iload_n h dX8_save_22 rfl ?_
      refine j_bipush (v := (7 : Int32)) h dX8_save_23 kbipush_7 ?_
      refine j_copy (q0 := 28) (q1 := x1) h ml8_25 (at_28) (at_Rw hg2) (se_Rw hg2) (Nat.le_of_ble_eq_true rfl) rfl (by decide) dX8_save_25 (fun m4 hm4 => ?_)
      refine j_iinc (v := (x2 + (7 : Int32))) h dX8_save_28 rfl (by rw [kiconst_7]) rfl ?_
      refine j_aload_n h dX8_save_31 rfl ?_
      refine gC8_15 h dX8_save_32 ?_
      refine j_iconst (v := (0 : Int32)) h dX8_save_35 kiconst_0 ?_
      refine j_aload_n h dX8_save_36 rfl ?_
      refine j_iload_n h dX8_save_37 rfl ?_
      refine j_bipush (v := (7 : Int32)) h dX8_save_38 kbipush_7 ?_
      refine j_copy (q0 := 29) (q1 := x1) h ml8_25 (at_29) (at_Rw hg2) (se_Rw hg2) (Nat.le_of_ble_eq_true rfl) rfl (by decide) dX8_save_40 (fun m5 hm5 => ?_)
      refine j_iinc (v := ((x2 + (7 : Int32)) + (7 : Int32))) h dX8_save_43 rfl (by rw [kiconst_7]) rfl ?_
      refine j_aload_n h dX8_save_46 rfl ?_
      refine gC8_18 h dX8_save_47 ?_
      refine j_iconst (v := (0 : Int32)) h dX8_save_50 kiconst_0 ?_
      refine j_aload_n h dX8_save_51 rfl ?_
      refine j_iload_n h dX8_save_52 rfl ?_
      refine j_bipush (v := (10 : Int32)) h dX8_save_53 kbipush_10 ?_
      refine j_copy (q0 := 30) (q1 := x1) h ml8_25 (at_30) (at_Rw hg2) (se_Rw hg2) (Nat.le_of_ble_eq_true rfl) rfl (by decide) dX8_save_55 (fun m6 hm6 => ?_)
      refine j_iinc (v := (((x2 + (7 : Int32)) + (7 : Int32)) + (10 : Int32))) h dX8_save_58 rfl (by rw [kiconst_10]) rfl ?_
      refine j_aload_n h dX8_save_61 rfl ?_
      refine gC8_21 h dX8_save_62 ?_
      refine j_iconst (v := (0 : Int32)) h dX8_save_65 kiconst_0 ?_
      refine j_aload_n h dX8_save_66 rfl ?_
      refine j_iload_n h dX8_save_67 rfl ?_
      refine j_bipush (v := (10 : Int32)) h dX8_save_68 kbipush_10 ?_
      refine j_copy (q0 := 31) (q1 := x1) h ml8_25 (at_31) (at_Rw hg2) (se_Rw hg2) (Nat.le_of_ble_eq_true rfl) rfl (by decide) dX8_save_70 (fun m7 hm7 => ?_)
      refine j_iinc (v := ((((x2 + (7 : Int32)) + (7 : Int32)) + (10 : Int32)) + (10 : Int32))) h dX8_save_73 rfl (by rw [kiconst_10]) rfl ?_
      refine j_aload_n h dX8_save_76 rfl ?_
      refine j_iload_n h dX8_save_77 rfl ?_
      refine j_aload_n h dX8_save_78 rfl ?_
      refine gC8_37 h dX8_save_79 ?_
      refine bC_Rw h hg2 dX8_save_82 (fun m8 hm8 => ?_)
      refine j_aload_n h dX8_save_83 rfl ?_
      refine j_iload_n h dX8_save_84 rfl ?_
      refine j_iconst (v := (1 : Int32)) h dX8_save_85 kiconst_1 ?_
      refine j_iadd h dX8_save_86 ?_
      refine j_aload_n h dX8_save_87 rfl ?_
      refine gC8_41 h dX8_save_88 ?_
      refine bC_Rw h hg2 dX8_save_91 (fun m9 hm9 => ?_)
      refine j_aload_n h dX8_save_92 rfl ?_
      refine j_iload_n h dX8_save_93 rfl ?_
      refine j_iconst (v := (2 : Int32)) h dX8_save_94 kiconst_2 ?_
      refine j_iadd h dX8_save_95 ?_
      refine j_aload_n h dX8_save_96 rfl ?_
      refine gC8_53 h dX8_save_97 ?_
      refine bC_Rw h hg2 dX8_save_100 (fun m10 hm10 => ?_)
      exact j_vret h rfl dX8_save_101
    · exact j_vret h rfl dX8_save_13
theorem dX0_forgetAll_0 : DD cX0_forgetAll 0 (.aload_n 0) 1 1 := ⟨by decide +kernel, rfl⟩
theorem dX0_forgetAll_1 : DD cX0_forgetAll 1 (.iconst 0) 1 2 := ⟨by decide +kernel, rfl⟩
theorem dX0_forgetAll_2 : DD cX0_forgetAll 2 (.putfield 15) 3 5 := ⟨by decide +kernel, rfl⟩
theorem dX0_forgetAll_5 : DD cX0_forgetAll 5 (.aload_n 0) 1 6 := ⟨by decide +kernel, rfl⟩
theorem dX0_forgetAll_6 : DD cX0_forgetAll 6 (.iconst 0) 1 7 := ⟨by decide +kernel, rfl⟩
theorem dX0_forgetAll_7 : DD cX0_forgetAll 7 (.putfield 19) 3 10 := ⟨by decide +kernel, rfl⟩
theorem dX0_forgetAll_10 : DD cX0_forgetAll 10 (.aload_n 1) 1 11 := ⟨by decide +kernel, rfl⟩
theorem dX0_forgetAll_11 : DD cX0_forgetAll 11 (.aload_n 0) 1 12 := ⟨by decide +kernel, rfl⟩
theorem dX0_forgetAll_12 : DD cX0_forgetAll 12 (.getfield 11) 3 15 := ⟨by decide +kernel, rfl⟩
theorem dX0_forgetAll_15 : DD cX0_forgetAll 15 (.aload_n 0) 1 16 := ⟨by decide +kernel, rfl⟩
theorem dX0_forgetAll_16 : DD cX0_forgetAll 16 (.getfield 22) 3 19 := ⟨by decide +kernel, rfl⟩
theorem dX0_forgetAll_19 : DD cX0_forgetAll 19 (.bipush 37) 2 21 := ⟨by decide +kernel, rfl⟩
theorem dX0_forgetAll_21 : DD cX0_forgetAll 21 (.imul) 1 22 := ⟨by decide +kernel, rfl⟩
theorem dX0_forgetAll_22 : DD cX0_forgetAll 22 (.invokevirtual 25) 3 25 := ⟨by decide +kernel, rfl⟩
theorem dX0_forgetAll_25 : DD cX0_forgetAll 25 (.return_) 1 26 := ⟨by decide +kernel, rfl⟩
def fX0_forgetAll (m : Mem) : Option Mem := (pt (sI m 56 2 (0 : Int32)) fun m1 => (pt (sI m1 56 3 (0 : Int32)) fun m2 => (cV (fX8_save m2 57 ((m2.1 56 1) * (37 : Int32))) fun m4 => (some m4))))
set_option maxHeartbeats 4000000 in
set_option maxRecDepth 100000 in
theorem kX0_forgetAll (l : Launch) (G : Gt) (hD : ∀ m, va_D (inA G nC) (wC G m)) (m : Mem) : ∀ a, fX0_forgetAll m = some a → Ct l G wC nC yX0_forgetAll cX0_forgetAll 2 none 3 [.ref (G.2.2 56), .ref (G.2.2 27)] m (cvV a) := by
  refine ct_of (own := RX0) (ls0 := [some (.ref (G.2.2 56)), some (.ref (G.2.2 27))]) (by decide) rfl rfl rfl (Nat.le_of_ble_eq_true rfl) hD (fun X h => ?_) l
  unfold fX0_forgetAll
  refine j_aload_n h dX0_forgetAll_0 rfl ?_
  refine j_iconst (v := (0 : Int32)) h dX0_forgetAll_1 kiconst_0 ?_
  refine pC0_15 h dX0_forgetAll_2 (fun m1 hm1 => ?_)
  refine j_aload_n h dX0_forgetAll_5 rfl ?_
  refine j_iconst (v := (0 : Int32)) h dX0_forgetAll_6 kiconst_0 ?_
  refine pC0_19 h dX0_forgetAll_7 (fun m2 hm2 => ?_)
  refine j_aload_n h dX0_forgetAll_10 rfl ?_
  refine j_aload_n h dX0_forgetAll_11 rfl ?_
  refine gC0_11 h dX0_forgetAll_12 ?_
  refine j_aload_n h dX0_forgetAll_15 rfl ?_
  refine gC0_22 h dX0_forgetAll_16 ?_
  refine j_bipush (v := (37 : Int32)) h dX0_forgetAll_19 kbipush_37 ?_
  refine j_imul h dX0_forgetAll_21 ?_
  refine j_callVV (q0 := 27) (ci := 8) h [.ref (G.2.2 57), .int ((m2.1 56 1) * (37 : Int32))] (kX8_save _ G h.2.2.2.2.2.2.2.2.2.2 m2 57 ((m2.1 56 1) * (37 : Int32))) okX8_save inX8_save ml0_25 rfl rfl rfl rfl (by decide) (by decide) (Nat.le_of_ble_eq_true rfl) rfl dX0_forgetAll_22 (fun m4 hm4 => ?_)
  exact j_vret h rfl dX0_forgetAll_25
theorem dX0_keep_0 : DD cX0_keep 0 (.aload_n 0) 1 1 := ⟨by decide +kernel, rfl⟩
theorem dX0_keep_1 : DD cX0_keep 1 (.aload_n 0) 1 2 := ⟨by decide +kernel, rfl⟩
theorem dX0_keep_2 : DD cX0_keep 2 (.getfield 22) 3 5 := ⟨by decide +kernel, rfl⟩
theorem dX0_keep_5 : DD cX0_keep 5 (.iconst 1) 1 6 := ⟨by decide +kernel, rfl⟩
theorem dX0_keep_6 : DD cX0_keep 6 (.iadd) 1 7 := ⟨by decide +kernel, rfl⟩
theorem dX0_keep_7 : DD cX0_keep 7 (.bipush 41) 2 9 := ⟨by decide +kernel, rfl⟩
theorem dX0_keep_9 : DD cX0_keep 9 (.irem) 1 10 := ⟨by decide +kernel, rfl⟩
theorem dX0_keep_10 : DD cX0_keep 10 (.putfield 22) 3 13 := ⟨by decide +kernel, rfl⟩
theorem dX0_keep_13 : DD cX0_keep 13 (.aload_n 0) 1 14 := ⟨by decide +kernel, rfl⟩
theorem dX0_keep_14 : DD cX0_keep 14 (.aload_n 0) 1 15 := ⟨by decide +kernel, rfl⟩
theorem dX0_keep_15 : DD cX0_keep 15 (.getfield 15) 3 18 := ⟨by decide +kernel, rfl⟩
theorem dX0_keep_18 : DD cX0_keep 18 (.iconst 1) 1 19 := ⟨by decide +kernel, rfl⟩
theorem dX0_keep_19 : DD cX0_keep 19 (.iadd) 1 20 := ⟨by decide +kernel, rfl⟩
theorem dX0_keep_20 : DD cX0_keep 20 (.bipush 40) 2 22 := ⟨by decide +kernel, rfl⟩
theorem dX0_keep_22 : DD cX0_keep 22 (.invokestatic 29) 3 25 := ⟨by decide +kernel, rfl⟩
theorem dX0_keep_25 : DD cX0_keep 25 (.putfield 15) 3 28 := ⟨by decide +kernel, rfl⟩
theorem dX0_keep_28 : DD cX0_keep 28 (.aload_n 0) 1 29 := ⟨by decide +kernel, rfl⟩
theorem dX0_keep_29 : DD cX0_keep 29 (.iconst 0) 1 30 := ⟨by decide +kernel, rfl⟩
theorem dX0_keep_30 : DD cX0_keep 30 (.putfield 19) 3 33 := ⟨by decide +kernel, rfl⟩
theorem dX0_keep_33 : DD cX0_keep 33 (.aload_n 1) 1 34 := ⟨by decide +kernel, rfl⟩
theorem dX0_keep_34 : DD cX0_keep 34 (.aload_n 0) 1 35 := ⟨by decide +kernel, rfl⟩
theorem dX0_keep_35 : DD cX0_keep 35 (.getfield 11) 3 38 := ⟨by decide +kernel, rfl⟩
theorem dX0_keep_38 : DD cX0_keep 38 (.aload_n 0) 1 39 := ⟨by decide +kernel, rfl⟩
theorem dX0_keep_39 : DD cX0_keep 39 (.getfield 22) 3 42 := ⟨by decide +kernel, rfl⟩
theorem dX0_keep_42 : DD cX0_keep 42 (.bipush 37) 2 44 := ⟨by decide +kernel, rfl⟩
theorem dX0_keep_44 : DD cX0_keep 44 (.imul) 1 45 := ⟨by decide +kernel, rfl⟩
theorem dX0_keep_45 : DD cX0_keep 45 (.invokevirtual 25) 3 48 := ⟨by decide +kernel, rfl⟩
theorem dX0_keep_48 : DD cX0_keep 48 (.return_) 1 49 := ⟨by decide +kernel, rfl⟩
def fX0_keep (m : Mem) : Option Mem := (pt (sI m 56 1 (((m.1 56 1) + (1 : Int32)) - ((m.1 56 1) + (1 : Int32)) / (41 : Int32) * (41 : Int32))) fun m1 => (pt (sI m1 56 2 (imin ((m1.1 56 2) + (1 : Int32)) (40 : Int32))) fun m2 => (pt (sI m2 56 3 (0 : Int32)) fun m3 => (cV (fX8_save m3 57 ((m3.1 56 1) * (37 : Int32))) fun m5 => (some m5)))))
set_option maxHeartbeats 4000000 in
set_option maxRecDepth 100000 in
theorem kX0_keep (l : Launch) (G : Gt) (hD : ∀ m, va_D (inA G nC) (wC G m)) (m : Mem) : ∀ a, fX0_keep m = some a → Ct l G wC nC yX0_keep cX0_keep 2 none 3 [.ref (G.2.2 56), .ref (G.2.2 27)] m (cvV a) := by
  refine ct_of (own := RX0) (ls0 := [some (.ref (G.2.2 56)), some (.ref (G.2.2 27))]) (by decide) rfl rfl rfl (Nat.le_of_ble_eq_true rfl) hD (fun X h => ?_) l
  unfold fX0_keep
  refine j_aload_n h dX0_keep_0 rfl ?_
  refine j_aload_n h dX0_keep_1 rfl ?_
  refine gC0_22 h dX0_keep_2 ?_
  refine j_iconst (v := (1 : Int32)) h dX0_keep_5 kiconst_1 ?_
  refine j_iadd h dX0_keep_6 ?_
  refine j_bipush (v := (41 : Int32)) h dX0_keep_7 kbipush_41 ?_
  refine j_iremB h dX0_keep_9 (by decide) ?_
  refine pC0_22 h dX0_keep_10 (fun m1 hm1 => ?_)
  refine j_aload_n h dX0_keep_13 rfl ?_
  refine j_aload_n h dX0_keep_14 rfl ?_
  refine gC0_15 h dX0_keep_15 ?_
  refine j_iconst (v := (1 : Int32)) h dX0_keep_18 kiconst_1 ?_
  refine j_iadd h dX0_keep_19 ?_
  refine j_bipush (v := (40 : Int32)) h dX0_keep_20 kbipush_40 ?_
  refine j_mmin h ml0_29 (Nat.le_of_ble_eq_true rfl) rfl (by decide) dX0_keep_22 ?_
  refine pC0_15 h dX0_keep_25 (fun m2 hm2 => ?_)
  refine j_aload_n h dX0_keep_28 rfl ?_
  refine j_iconst (v := (0 : Int32)) h dX0_keep_29 kiconst_0 ?_
  refine pC0_19 h dX0_keep_30 (fun m3 hm3 => ?_)
  refine j_aload_n h dX0_keep_33 rfl ?_
  refine j_aload_n h dX0_keep_34 rfl ?_
  refine gC0_11 h dX0_keep_35 ?_
  refine j_aload_n h dX0_keep_38 rfl ?_
  refine gC0_22 h dX0_keep_39 ?_
  refine j_bipush (v := (37 : Int32)) h dX0_keep_42 kbipush_37 ?_
  refine j_imul h dX0_keep_44 ?_
  refine j_callVV (q0 := 27) (ci := 8) h [.ref (G.2.2 57), .int ((m3.1 56 1) * (37 : Int32))] (kX8_save _ G h.2.2.2.2.2.2.2.2.2.2 m3 57 ((m3.1 56 1) * (37 : Int32))) okX8_save inX8_save ml0_25 rfl rfl rfl rfl (by decide) (by decide) (Nat.le_of_ble_eq_true rfl) rfl dX0_keep_45 (fun m5 hm5 => ?_)
  exact j_vret h rfl dX0_keep_48
theorem dX8_load_0 : DD cX8_load 0 (.iload_n 2) 1 1 := ⟨by decide +kernel, rfl⟩
theorem dX8_load_1 : DD cX8_load 1 (.ifCond .lt 12) 3 4 := ⟨by decide +kernel, rfl⟩
theorem dX8_load_4 : DD cX8_load 4 (.iload_n 2) 1 5 := ⟨by decide +kernel, rfl⟩
theorem dX8_load_5 : DD cX8_load 5 (.aload_n 1) 1 6 := ⟨by decide +kernel, rfl⟩
theorem dX8_load_6 : DD cX8_load 6 (.arraylength) 1 7 := ⟨by decide +kernel, rfl⟩
theorem dX8_load_7 : DD cX8_load 7 (.bipush 37) 2 9 := ⟨by decide +kernel, rfl⟩
theorem dX8_load_9 : DD cX8_load 9 (.isub) 1 10 := ⟨by decide +kernel, rfl⟩
theorem dX8_load_10 : DD cX8_load 10 (.if_icmp .le 4) 3 13 := ⟨by decide +kernel, rfl⟩
theorem dX8_load_13 : DD cX8_load 13 (.return_) 1 14 := ⟨by decide +kernel, rfl⟩
theorem dX8_load_14 : DD cX8_load 14 (.iload_n 2) 1 15 := ⟨by decide +kernel, rfl⟩
theorem dX8_load_15 : DD cX8_load 15 (.istore_n 3) 1 16 := ⟨by decide +kernel, rfl⟩
theorem dX8_load_16 : DD cX8_load 16 (.aload_n 1) 1 17 := ⟨by decide +kernel, rfl⟩
theorem dX8_load_17 : DD cX8_load 17 (.iload_n 3) 1 18 := ⟨by decide +kernel, rfl⟩
theorem dX8_load_18 : DD cX8_load 18 (.aload_n 0) 1 19 := ⟨by decide +kernel, rfl⟩
theorem dX8_load_19 : DD cX8_load 19 (.getfield 9) 3 22 := ⟨by decide +kernel, rfl⟩
theorem dX8_load_22 : DD cX8_load 22 (.iconst 0) 1 23 := ⟨by decide +kernel, rfl⟩
theorem dX8_load_23 : DD cX8_load 23 (.bipush 7) 2 25 := ⟨by decide +kernel, rfl⟩
theorem dX8_load_25 : DD cX8_load 25 (.invokestatic 25) 3 28 := ⟨by decide +kernel, rfl⟩
theorem dX8_load_28 : DD cX8_load 28 (.iinc 3 7) 3 31 := ⟨by decide +kernel, rfl⟩
theorem dX8_load_31 : DD cX8_load 31 (.aload_n 1) 1 32 := ⟨by decide +kernel, rfl⟩
theorem dX8_load_32 : DD cX8_load 32 (.iload_n 3) 1 33 := ⟨by decide +kernel, rfl⟩
theorem dX8_load_33 : DD cX8_load 33 (.aload_n 0) 1 34 := ⟨by decide +kernel, rfl⟩
theorem dX8_load_34 : DD cX8_load 34 (.getfield 15) 3 37 := ⟨by decide +kernel, rfl⟩
theorem dX8_load_37 : DD cX8_load 37 (.iconst 0) 1 38 := ⟨by decide +kernel, rfl⟩
theorem dX8_load_38 : DD cX8_load 38 (.bipush 7) 2 40 := ⟨by decide +kernel, rfl⟩
theorem dX8_load_40 : DD cX8_load 40 (.invokestatic 25) 3 43 := ⟨by decide +kernel, rfl⟩
theorem dX8_load_43 : DD cX8_load 43 (.iinc 3 7) 3 46 := ⟨by decide +kernel, rfl⟩
theorem dX8_load_46 : DD cX8_load 46 (.aload_n 1) 1 47 := ⟨by decide +kernel, rfl⟩
theorem dX8_load_47 : DD cX8_load 47 (.iload_n 3) 1 48 := ⟨by decide +kernel, rfl⟩
theorem dX8_load_48 : DD cX8_load 48 (.aload_n 0) 1 49 := ⟨by decide +kernel, rfl⟩
theorem dX8_load_49 : DD cX8_load 49 (.getfield 18) 3 52 := ⟨by decide +kernel, rfl⟩
theorem dX8_load_52 : DD cX8_load 52 (.iconst 0) 1 53 := ⟨by decide +kernel, rfl⟩
theorem dX8_load_53 : DD cX8_load 53 (.bipush 10) 2 55 := ⟨by decide +kernel, rfl⟩
theorem dX8_load_55 : DD cX8_load 55 (.invokestatic 25) 3 58 := ⟨by decide +kernel, rfl⟩
theorem dX8_load_58 : DD cX8_load 58 (.iinc 3 10) 3 61 := ⟨by decide +kernel, rfl⟩
theorem dX8_load_61 : DD cX8_load 61 (.aload_n 1) 1 62 := ⟨by decide +kernel, rfl⟩
theorem dX8_load_62 : DD cX8_load 62 (.iload_n 3) 1 63 := ⟨by decide +kernel, rfl⟩
theorem dX8_load_63 : DD cX8_load 63 (.aload_n 0) 1 64 := ⟨by decide +kernel, rfl⟩
theorem dX8_load_64 : DD cX8_load 64 (.getfield 21) 3 67 := ⟨by decide +kernel, rfl⟩
theorem dX8_load_67 : DD cX8_load 67 (.iconst 0) 1 68 := ⟨by decide +kernel, rfl⟩
theorem dX8_load_68 : DD cX8_load 68 (.bipush 10) 2 70 := ⟨by decide +kernel, rfl⟩
theorem dX8_load_70 : DD cX8_load 70 (.invokestatic 25) 3 73 := ⟨by decide +kernel, rfl⟩
theorem dX8_load_73 : DD cX8_load 73 (.iinc 3 10) 3 76 := ⟨by decide +kernel, rfl⟩
theorem dX8_load_76 : DD cX8_load 76 (.aload_n 0) 1 77 := ⟨by decide +kernel, rfl⟩
theorem dX8_load_77 : DD cX8_load 77 (.aload_n 1) 1 78 := ⟨by decide +kernel, rfl⟩
theorem dX8_load_78 : DD cX8_load 78 (.iload_n 3) 1 79 := ⟨by decide +kernel, rfl⟩
theorem dX8_load_79 : DD cX8_load 79 (.iaload) 1 80 := ⟨by decide +kernel, rfl⟩
theorem dX8_load_80 : DD cX8_load 80 (.putfield 37) 3 83 := ⟨by decide +kernel, rfl⟩
theorem dX8_load_83 : DD cX8_load 83 (.aload_n 0) 1 84 := ⟨by decide +kernel, rfl⟩
theorem dX8_load_84 : DD cX8_load 84 (.aload_n 1) 1 85 := ⟨by decide +kernel, rfl⟩
theorem dX8_load_85 : DD cX8_load 85 (.iload_n 3) 1 86 := ⟨by decide +kernel, rfl⟩
theorem dX8_load_86 : DD cX8_load 86 (.iconst 1) 1 87 := ⟨by decide +kernel, rfl⟩
theorem dX8_load_87 : DD cX8_load 87 (.iadd) 1 88 := ⟨by decide +kernel, rfl⟩
theorem dX8_load_88 : DD cX8_load 88 (.iaload) 1 89 := ⟨by decide +kernel, rfl⟩
theorem dX8_load_89 : DD cX8_load 89 (.putfield 41) 3 92 := ⟨by decide +kernel, rfl⟩
theorem dX8_load_92 : DD cX8_load 92 (.aload_n 0) 1 93 := ⟨by decide +kernel, rfl⟩
theorem dX8_load_93 : DD cX8_load 93 (.aload_n 1) 1 94 := ⟨by decide +kernel, rfl⟩
theorem dX8_load_94 : DD cX8_load 94 (.iload_n 3) 1 95 := ⟨by decide +kernel, rfl⟩
theorem dX8_load_95 : DD cX8_load 95 (.iconst 2) 1 96 := ⟨by decide +kernel, rfl⟩
theorem dX8_load_96 : DD cX8_load 96 (.iadd) 1 97 := ⟨by decide +kernel, rfl⟩
theorem dX8_load_97 : DD cX8_load 97 (.iaload) 1 98 := ⟨by decide +kernel, rfl⟩
theorem dX8_load_98 : DD cX8_load 98 (.putfield 53) 3 101 := ⟨by decide +kernel, rfl⟩
theorem dX8_load_101 : DD cX8_load 101 (.return_) 1 102 := ⟨by decide +kernel, rfl⟩
def fX8_load (m : Mem) (x1 : Nat) (x2 : Int32) : Option Mem := (if x2 < 0 then (some m) else (gRw x1 (if x2 ≤ ((Int32.ofNat (rlen x1)) - (37 : Int32)) then (cpy m x1 (rlen x1) 28 7 x2 (0 : Int32) (7 : Int32) fun m4 => (cpy m4 x1 (rlen x1) 29 7 (x2 + (7 : Int32)) (0 : Int32) (7 : Int32) fun m5 => (cpy m5 x1 (rlen x1) 30 10 ((x2 + (7 : Int32)) + (7 : Int32)) (0 : Int32) (10 : Int32) fun m6 => (cpy m6 x1 (rlen x1) 31 10 (((x2 + (7 : Int32)) + (7 : Int32)) + (10 : Int32)) (0 : Int32) (10 : Int32) fun m7 => (rd (m7.1 x1) (rlen x1) ((((x2 + (7 : Int32)) + (7 : Int32)) + (10 : Int32)) + (10 : Int32)) fun v8 => (pt (sI m7 27 4 v8) fun m9 => (rd (m9.1 x1) (rlen x1) (((((x2 + (7 : Int32)) + (7 : Int32)) + (10 : Int32)) + (10 : Int32)) + (1 : Int32)) fun v10 => (pt (sI m9 27 5 v10) fun m11 => (rd (m11.1 x1) (rlen x1) (((((x2 + (7 : Int32)) + (7 : Int32)) + (10 : Int32)) + (10 : Int32)) + (2 : Int32)) fun v12 => (pt (sI m11 27 6 v12) fun m13 => (some m13))))))))))) else (some m))))
set_option maxHeartbeats 4000000 in
set_option maxRecDepth 100000 in
theorem kX8_load (l : Launch) (G : Gt) (hD : ∀ m, va_D (inA G nC) (wC G m)) (m : Mem) (x1 : Nat) (x2 : Int32) : ∀ a, fX8_load m x1 x2 = some a → Ct l G wC nC yX8_load cX8_load 4 none 2 [.ref (G.2.2 27), .ref (G.2.2 x1), .int x2] m (cvV a) := by
  refine ct_of (own := RX8) (ls0 := [some (.ref (G.2.2 27)), some (.ref (G.2.2 x1)), some (.int x2), none]) (by decide) rfl rfl rfl (Nat.le_of_ble_eq_true rfl) hD (fun X h => ?_) l
  unfold fX8_load
  refine j_iload_n h dX8_load_0 rfl ?_
  refine j_if_lt (tgt := 13) h dX8_load_1 (by decide) (fun c1 => ?_) (fun c1 => ?_)
  · exact j_vret h rfl dX8_load_13
  · refine j_iload_n h dX8_load_4 rfl ?_
    refine j_aload_n h dX8_load_5 rfl ?_
    refine j_gRw (fun hg2 => ?_)
    refine j_alen (q0 := x1) h (at_Rw hg2) rfl dX8_load_6 ?_
    refine j_bipush (v := (37 : Int32)) h dX8_load_7 kbipush_37 ?_
    refine j_isub h dX8_load_9 ?_
    refine j_icmp_le (tgt := 14) h dX8_load_10 (by decide) (fun c3 => ?_) (fun c3 => ?_)
    · refine j_iload_n h dX8_load_14 rfl ?_
      refine j_istore_n h dX8_load_15 rfl rfl ?_
      refine j_aload_n h dX8_load_16 rfl ?_
      refine j_iload_n h dX8_load_17 rfl ?_
      refine j_aload_n h dX8_load_18 rfl ?_
      refine gC8_9 h dX8_load_19 ?_
      refine j_iconst (v := (0 : Int32)) h dX8_load_22 kiconst_0 ?_
      refine j_bipush (v := (7 : Int32)) h dX8_load_23 kbipush_7 ?_
      refine j_copy (q0 := x1) (q1 := 28) h ml8_25 (at_Rw hg2) (at_28) (se_28) (Nat.le_of_ble_eq_true rfl) rfl (by decide) dX8_load_25 (fun m4 hm4 => ?_)
      refine j_iinc (v := (x2 + (7 : Int32))) h dX8_load_28 rfl (by rw [kiconst_7]) rfl ?_
      refine j_aload_n h dX8_load_31 rfl ?_
      refine j_iload_n h dX8_load_32 rfl ?_
      refine j_aload_n h dX8_load_33 rfl ?_
      refine gC8_15 h dX8_load_34 ?_
      refine j_iconst (v := (0 : Int32)) h dX8_load_37 kiconst_0 ?_
      refine j_bipush (v := (7 : Int32)) h dX8_load_38 kbipush_7 ?_
      refine j_copy (q0 := x1) (q1 := 29) h ml8_25 (at_Rw hg2) (at_29) (se_29) (Nat.le_of_ble_eq_true rfl) rfl (by decide) dX8_load_40 (fun m5 hm5 => ?_)
      refine j_iinc (v := ((x2 + (7 : Int32)) + (7 : Int32))) h dX8_load_43 rfl (by rw [kiconst_7]) rfl ?_
      refine j_aload_n h dX8_load_46 rfl ?_
      refine j_iload_n h dX8_load_47 rfl ?_
      refine j_aload_n h dX8_load_48 rfl ?_
      refine gC8_18 h dX8_load_49 ?_
      refine j_iconst (v := (0 : Int32)) h dX8_load_52 kiconst_0 ?_
      refine j_bipush (v := (10 : Int32)) h dX8_load_53 kbipush_10 ?_
      refine j_copy (q0 := x1) (q1 := 30) h ml8_25 (at_Rw hg2) (at_30) (se_30) (Nat.le_of_ble_eq_true rfl) rfl (by decide) dX8_load_55 (fun m6 hm6 => ?_)
      refine j_iinc (v := (((x2 + (7 : Int32)) + (7 : Int32)) + (10 : Int32))) h dX8_load_58 rfl (by rw [kiconst_10]) rfl ?_
      refine j_aload_n h dX8_load_61 rfl ?_
      refine j_iload_n h dX8_load_62 rfl ?_
      refine j_aload_n h dX8_load_63 rfl ?_
      refine gC8_21 h dX8_load_64 ?_
      refine j_iconst (v := (0 : Int32)) h dX8_load_67 kiconst_0 ?_
      refine j_bipush (v := (10 : Int32)) h dX8_load_68 kbipush_10 ?_
      refine j_copy (q0 := x1) (q1 := 31) h ml8_25 (at_Rw hg2) (at_31) (se_31) (Nat.le_of_ble_eq_true rfl) rfl (by decide) dX8_load_70 (fun m7 hm7 => ?_)
      refine j_iinc (v := ((((x2 + (7 : Int32)) + (7 : Int32)) + (10 : Int32)) + (10 : Int32))) h dX8_load_73 rfl (by rw [kiconst_10]) rfl ?_
      refine j_aload_n h dX8_load_76 rfl ?_
      refine j_aload_n h dX8_load_77 rfl ?_
      refine j_iload_n h dX8_load_78 rfl ?_
      refine aC_Rw h hg2 dX8_load_79 (fun v8 hv8 => ?_)
      refine pC8_37 h dX8_load_80 (fun m9 hm9 => ?_)
      refine j_aload_n h dX8_load_83 rfl ?_
      refine j_aload_n h dX8_load_84 rfl ?_
      refine j_iload_n h dX8_load_85 rfl ?_
      refine j_iconst (v := (1 : Int32)) h dX8_load_86 kiconst_1 ?_
      refine j_iadd h dX8_load_87 ?_
      refine aC_Rw h hg2 dX8_load_88 (fun v10 hv10 => ?_)
      refine pC8_41 h dX8_load_89 (fun m11 hm11 => ?_)
      refine j_aload_n h dX8_load_92 rfl ?_
      refine j_aload_n h dX8_load_93 rfl ?_
      refine j_iload_n h dX8_load_94 rfl ?_
      refine j_iconst (v := (2 : Int32)) h dX8_load_95 kiconst_2 ?_
      refine j_iadd h dX8_load_96 ?_
      refine aC_Rw h hg2 dX8_load_97 (fun v12 hv12 => ?_)
      refine pC8_53 h dX8_load_98 (fun m13 hm13 => ?_)
      exact j_vret h rfl dX8_load_101
    · exact j_vret h rfl dX8_load_13
theorem dX0_stepBack_0 : DD cX0_stepBack 0 (.aload_n 0) 1 1 := ⟨by decide +kernel, rfl⟩
theorem dX0_stepBack_1 : DD cX0_stepBack 1 (.getfield 15) 3 4 := ⟨by decide +kernel, rfl⟩
theorem dX0_stepBack_4 : DD cX0_stepBack 4 (.ifCond .ne 5) 3 7 := ⟨by decide +kernel, rfl⟩
theorem dX0_stepBack_7 : DD cX0_stepBack 7 (.iconst 0) 1 8 := ⟨by decide +kernel, rfl⟩
theorem dX0_stepBack_8 : DD cX0_stepBack 8 (.ireturn) 1 9 := ⟨by decide +kernel, rfl⟩
theorem dX0_stepBack_9 : DD cX0_stepBack 9 (.aload_n 0) 1 10 := ⟨by decide +kernel, rfl⟩
theorem dX0_stepBack_10 : DD cX0_stepBack 10 (.aload_n 0) 1 11 := ⟨by decide +kernel, rfl⟩
theorem dX0_stepBack_11 : DD cX0_stepBack 11 (.getfield 22) 3 14 := ⟨by decide +kernel, rfl⟩
theorem dX0_stepBack_14 : DD cX0_stepBack 14 (.bipush 41) 2 16 := ⟨by decide +kernel, rfl⟩
theorem dX0_stepBack_16 : DD cX0_stepBack 16 (.iadd) 1 17 := ⟨by decide +kernel, rfl⟩
theorem dX0_stepBack_17 : DD cX0_stepBack 17 (.iconst 1) 1 18 := ⟨by decide +kernel, rfl⟩
theorem dX0_stepBack_18 : DD cX0_stepBack 18 (.isub) 1 19 := ⟨by decide +kernel, rfl⟩
theorem dX0_stepBack_19 : DD cX0_stepBack 19 (.bipush 41) 2 21 := ⟨by decide +kernel, rfl⟩
theorem dX0_stepBack_21 : DD cX0_stepBack 21 (.irem) 1 22 := ⟨by decide +kernel, rfl⟩
theorem dX0_stepBack_22 : DD cX0_stepBack 22 (.putfield 22) 3 25 := ⟨by decide +kernel, rfl⟩
theorem dX0_stepBack_25 : DD cX0_stepBack 25 (.aload_n 0) 1 26 := ⟨by decide +kernel, rfl⟩
theorem dX0_stepBack_26 : DD cX0_stepBack 26 (.dup) 1 27 := ⟨by decide +kernel, rfl⟩
theorem dX0_stepBack_27 : DD cX0_stepBack 27 (.getfield 15) 3 30 := ⟨by decide +kernel, rfl⟩
theorem dX0_stepBack_30 : DD cX0_stepBack 30 (.iconst 1) 1 31 := ⟨by decide +kernel, rfl⟩
theorem dX0_stepBack_31 : DD cX0_stepBack 31 (.isub) 1 32 := ⟨by decide +kernel, rfl⟩
theorem dX0_stepBack_32 : DD cX0_stepBack 32 (.putfield 15) 3 35 := ⟨by decide +kernel, rfl⟩
theorem dX0_stepBack_35 : DD cX0_stepBack 35 (.aload_n 0) 1 36 := ⟨by decide +kernel, rfl⟩
theorem dX0_stepBack_36 : DD cX0_stepBack 36 (.dup) 1 37 := ⟨by decide +kernel, rfl⟩
theorem dX0_stepBack_37 : DD cX0_stepBack 37 (.getfield 19) 3 40 := ⟨by decide +kernel, rfl⟩
theorem dX0_stepBack_40 : DD cX0_stepBack 40 (.iconst 1) 1 41 := ⟨by decide +kernel, rfl⟩
theorem dX0_stepBack_41 : DD cX0_stepBack 41 (.iadd) 1 42 := ⟨by decide +kernel, rfl⟩
theorem dX0_stepBack_42 : DD cX0_stepBack 42 (.putfield 19) 3 45 := ⟨by decide +kernel, rfl⟩
theorem dX0_stepBack_45 : DD cX0_stepBack 45 (.aload_n 1) 1 46 := ⟨by decide +kernel, rfl⟩
theorem dX0_stepBack_46 : DD cX0_stepBack 46 (.aload_n 0) 1 47 := ⟨by decide +kernel, rfl⟩
theorem dX0_stepBack_47 : DD cX0_stepBack 47 (.getfield 11) 3 50 := ⟨by decide +kernel, rfl⟩
theorem dX0_stepBack_50 : DD cX0_stepBack 50 (.aload_n 0) 1 51 := ⟨by decide +kernel, rfl⟩
theorem dX0_stepBack_51 : DD cX0_stepBack 51 (.getfield 22) 3 54 := ⟨by decide +kernel, rfl⟩
theorem dX0_stepBack_54 : DD cX0_stepBack 54 (.bipush 37) 2 56 := ⟨by decide +kernel, rfl⟩
theorem dX0_stepBack_56 : DD cX0_stepBack 56 (.imul) 1 57 := ⟨by decide +kernel, rfl⟩
theorem dX0_stepBack_57 : DD cX0_stepBack 57 (.invokevirtual 35) 3 60 := ⟨by decide +kernel, rfl⟩
theorem dX0_stepBack_60 : DD cX0_stepBack 60 (.iconst 1) 1 61 := ⟨by decide +kernel, rfl⟩
theorem dX0_stepBack_61 : DD cX0_stepBack 61 (.ireturn) 1 62 := ⟨by decide +kernel, rfl⟩
def fX0_stepBack (m : Mem) : Option (Int32 × Mem) := (if (m.1 56 2) = 0 then (some ((0 : Int32), m)) else (pt (sI m 56 1 ((((m.1 56 1) + (41 : Int32)) - (1 : Int32)) - (((m.1 56 1) + (41 : Int32)) - (1 : Int32)) / (41 : Int32) * (41 : Int32))) fun m2 => (pt (sI m2 56 2 ((m2.1 56 2) - (1 : Int32))) fun m3 => (pt (sI m3 56 3 ((m3.1 56 3) + (1 : Int32))) fun m4 => (cV (fX8_load m4 57 ((m4.1 56 1) * (37 : Int32))) fun m6 => (some ((1 : Int32), m6)))))))
set_option maxHeartbeats 4000000 in
set_option maxRecDepth 100000 in
theorem kX0_stepBack (l : Launch) (G : Gt) (hD : ∀ m, va_D (inA G nC) (wC G m)) (m : Mem) : ∀ a, fX0_stepBack m = some a → Ct l G wC nC yX0_stepBack cX0_stepBack 2 (some .boolean) 3 [.ref (G.2.2 56), .ref (G.2.2 27)] m (cvI a) := by
  refine ct_of (own := RX0) (ls0 := [some (.ref (G.2.2 56)), some (.ref (G.2.2 27))]) (by decide) rfl rfl rfl (Nat.le_of_ble_eq_true rfl) hD (fun X h => ?_) l
  unfold fX0_stepBack
  refine j_aload_n h dX0_stepBack_0 rfl ?_
  refine gC0_15 h dX0_stepBack_1 ?_
  refine j_if_ne (tgt := 9) h dX0_stepBack_4 (by decide) (fun c1 => ?_) (fun c1 => ?_)
  · refine j_aload_n h dX0_stepBack_9 rfl ?_
    refine j_aload_n h dX0_stepBack_10 rfl ?_
    refine gC0_22 h dX0_stepBack_11 ?_
    refine j_bipush (v := (41 : Int32)) h dX0_stepBack_14 kbipush_41 ?_
    refine j_iadd h dX0_stepBack_16 ?_
    refine j_iconst (v := (1 : Int32)) h dX0_stepBack_17 kiconst_1 ?_
    refine j_isub h dX0_stepBack_18 ?_
    refine j_bipush (v := (41 : Int32)) h dX0_stepBack_19 kbipush_41 ?_
    refine j_iremB h dX0_stepBack_21 (by decide) ?_
    refine pC0_22 h dX0_stepBack_22 (fun m2 hm2 => ?_)
    refine j_aload_n h dX0_stepBack_25 rfl ?_
    refine j_dup h dX0_stepBack_26 rfl ?_
    refine gC0_15 h dX0_stepBack_27 ?_
    refine j_iconst (v := (1 : Int32)) h dX0_stepBack_30 kiconst_1 ?_
    refine j_isub h dX0_stepBack_31 ?_
    refine pC0_15 h dX0_stepBack_32 (fun m3 hm3 => ?_)
    refine j_aload_n h dX0_stepBack_35 rfl ?_
    refine j_dup h dX0_stepBack_36 rfl ?_
    refine gC0_19 h dX0_stepBack_37 ?_
    refine j_iconst (v := (1 : Int32)) h dX0_stepBack_40 kiconst_1 ?_
    refine j_iadd h dX0_stepBack_41 ?_
    refine pC0_19 h dX0_stepBack_42 (fun m4 hm4 => ?_)
    refine j_aload_n h dX0_stepBack_45 rfl ?_
    refine j_aload_n h dX0_stepBack_46 rfl ?_
    refine gC0_11 h dX0_stepBack_47 ?_
    refine j_aload_n h dX0_stepBack_50 rfl ?_
    refine gC0_22 h dX0_stepBack_51 ?_
    refine j_bipush (v := (37 : Int32)) h dX0_stepBack_54 kbipush_37 ?_
    refine j_imul h dX0_stepBack_56 ?_
    refine j_callVV (q0 := 27) (ci := 8) h [.ref (G.2.2 57), .int ((m4.1 56 1) * (37 : Int32))] (kX8_load _ G h.2.2.2.2.2.2.2.2.2.2 m4 57 ((m4.1 56 1) * (37 : Int32))) okX8_load inX8_load ml0_35 rfl rfl rfl rfl (by decide) (by decide) (Nat.le_of_ble_eq_true rfl) rfl dX0_stepBack_57 (fun m6 hm6 => ?_)
    refine j_iconst (v := (1 : Int32)) h dX0_stepBack_60 kiconst_1 ?_
    exact j_zretB h rfl rfl dX0_stepBack_61
  · refine j_iconst (v := (0 : Int32)) h dX0_stepBack_7 kiconst_0 ?_
    exact j_zretB h rfl rfl dX0_stepBack_8
theorem dX0_stepOn_0 : DD cX0_stepOn 0 (.aload_n 0) 1 1 := ⟨by decide +kernel, rfl⟩
theorem dX0_stepOn_1 : DD cX0_stepOn 1 (.getfield 19) 3 4 := ⟨by decide +kernel, rfl⟩
theorem dX0_stepOn_4 : DD cX0_stepOn 4 (.ifCond .ne 5) 3 7 := ⟨by decide +kernel, rfl⟩
theorem dX0_stepOn_7 : DD cX0_stepOn 7 (.iconst 0) 1 8 := ⟨by decide +kernel, rfl⟩
theorem dX0_stepOn_8 : DD cX0_stepOn 8 (.ireturn) 1 9 := ⟨by decide +kernel, rfl⟩
theorem dX0_stepOn_9 : DD cX0_stepOn 9 (.aload_n 0) 1 10 := ⟨by decide +kernel, rfl⟩
theorem dX0_stepOn_10 : DD cX0_stepOn 10 (.aload_n 0) 1 11 := ⟨by decide +kernel, rfl⟩
theorem dX0_stepOn_11 : DD cX0_stepOn 11 (.getfield 22) 3 14 := ⟨by decide +kernel, rfl⟩
theorem dX0_stepOn_14 : DD cX0_stepOn 14 (.iconst 1) 1 15 := ⟨by decide +kernel, rfl⟩
theorem dX0_stepOn_15 : DD cX0_stepOn 15 (.iadd) 1 16 := ⟨by decide +kernel, rfl⟩
theorem dX0_stepOn_16 : DD cX0_stepOn 16 (.bipush 41) 2 18 := ⟨by decide +kernel, rfl⟩
theorem dX0_stepOn_18 : DD cX0_stepOn 18 (.irem) 1 19 := ⟨by decide +kernel, rfl⟩
theorem dX0_stepOn_19 : DD cX0_stepOn 19 (.putfield 22) 3 22 := ⟨by decide +kernel, rfl⟩
theorem dX0_stepOn_22 : DD cX0_stepOn 22 (.aload_n 0) 1 23 := ⟨by decide +kernel, rfl⟩
theorem dX0_stepOn_23 : DD cX0_stepOn 23 (.dup) 1 24 := ⟨by decide +kernel, rfl⟩
theorem dX0_stepOn_24 : DD cX0_stepOn 24 (.getfield 15) 3 27 := ⟨by decide +kernel, rfl⟩
theorem dX0_stepOn_27 : DD cX0_stepOn 27 (.iconst 1) 1 28 := ⟨by decide +kernel, rfl⟩
theorem dX0_stepOn_28 : DD cX0_stepOn 28 (.iadd) 1 29 := ⟨by decide +kernel, rfl⟩
theorem dX0_stepOn_29 : DD cX0_stepOn 29 (.putfield 15) 3 32 := ⟨by decide +kernel, rfl⟩
theorem dX0_stepOn_32 : DD cX0_stepOn 32 (.aload_n 0) 1 33 := ⟨by decide +kernel, rfl⟩
theorem dX0_stepOn_33 : DD cX0_stepOn 33 (.dup) 1 34 := ⟨by decide +kernel, rfl⟩
theorem dX0_stepOn_34 : DD cX0_stepOn 34 (.getfield 19) 3 37 := ⟨by decide +kernel, rfl⟩
theorem dX0_stepOn_37 : DD cX0_stepOn 37 (.iconst 1) 1 38 := ⟨by decide +kernel, rfl⟩
theorem dX0_stepOn_38 : DD cX0_stepOn 38 (.isub) 1 39 := ⟨by decide +kernel, rfl⟩
theorem dX0_stepOn_39 : DD cX0_stepOn 39 (.putfield 19) 3 42 := ⟨by decide +kernel, rfl⟩
theorem dX0_stepOn_42 : DD cX0_stepOn 42 (.aload_n 1) 1 43 := ⟨by decide +kernel, rfl⟩
theorem dX0_stepOn_43 : DD cX0_stepOn 43 (.aload_n 0) 1 44 := ⟨by decide +kernel, rfl⟩
theorem dX0_stepOn_44 : DD cX0_stepOn 44 (.getfield 11) 3 47 := ⟨by decide +kernel, rfl⟩
theorem dX0_stepOn_47 : DD cX0_stepOn 47 (.aload_n 0) 1 48 := ⟨by decide +kernel, rfl⟩
theorem dX0_stepOn_48 : DD cX0_stepOn 48 (.getfield 22) 3 51 := ⟨by decide +kernel, rfl⟩
theorem dX0_stepOn_51 : DD cX0_stepOn 51 (.bipush 37) 2 53 := ⟨by decide +kernel, rfl⟩
theorem dX0_stepOn_53 : DD cX0_stepOn 53 (.imul) 1 54 := ⟨by decide +kernel, rfl⟩
theorem dX0_stepOn_54 : DD cX0_stepOn 54 (.invokevirtual 35) 3 57 := ⟨by decide +kernel, rfl⟩
theorem dX0_stepOn_57 : DD cX0_stepOn 57 (.iconst 1) 1 58 := ⟨by decide +kernel, rfl⟩
theorem dX0_stepOn_58 : DD cX0_stepOn 58 (.ireturn) 1 59 := ⟨by decide +kernel, rfl⟩
def fX0_stepOn (m : Mem) : Option (Int32 × Mem) := (if (m.1 56 3) = 0 then (some ((0 : Int32), m)) else (pt (sI m 56 1 (((m.1 56 1) + (1 : Int32)) - ((m.1 56 1) + (1 : Int32)) / (41 : Int32) * (41 : Int32))) fun m2 => (pt (sI m2 56 2 ((m2.1 56 2) + (1 : Int32))) fun m3 => (pt (sI m3 56 3 ((m3.1 56 3) - (1 : Int32))) fun m4 => (cV (fX8_load m4 57 ((m4.1 56 1) * (37 : Int32))) fun m6 => (some ((1 : Int32), m6)))))))
set_option maxHeartbeats 4000000 in
set_option maxRecDepth 100000 in
theorem kX0_stepOn (l : Launch) (G : Gt) (hD : ∀ m, va_D (inA G nC) (wC G m)) (m : Mem) : ∀ a, fX0_stepOn m = some a → Ct l G wC nC yX0_stepOn cX0_stepOn 2 (some .boolean) 3 [.ref (G.2.2 56), .ref (G.2.2 27)] m (cvI a) := by
  refine ct_of (own := RX0) (ls0 := [some (.ref (G.2.2 56)), some (.ref (G.2.2 27))]) (by decide) rfl rfl rfl (Nat.le_of_ble_eq_true rfl) hD (fun X h => ?_) l
  unfold fX0_stepOn
  refine j_aload_n h dX0_stepOn_0 rfl ?_
  refine gC0_19 h dX0_stepOn_1 ?_
  refine j_if_ne (tgt := 9) h dX0_stepOn_4 (by decide) (fun c1 => ?_) (fun c1 => ?_)
  · refine j_aload_n h dX0_stepOn_9 rfl ?_
    refine j_aload_n h dX0_stepOn_10 rfl ?_
    refine gC0_22 h dX0_stepOn_11 ?_
    refine j_iconst (v := (1 : Int32)) h dX0_stepOn_14 kiconst_1 ?_
    refine j_iadd h dX0_stepOn_15 ?_
    refine j_bipush (v := (41 : Int32)) h dX0_stepOn_16 kbipush_41 ?_
    refine j_iremB h dX0_stepOn_18 (by decide) ?_
    refine pC0_22 h dX0_stepOn_19 (fun m2 hm2 => ?_)
    refine j_aload_n h dX0_stepOn_22 rfl ?_
    refine j_dup h dX0_stepOn_23 rfl ?_
    refine gC0_15 h dX0_stepOn_24 ?_
    refine j_iconst (v := (1 : Int32)) h dX0_stepOn_27 kiconst_1 ?_
    refine j_iadd h dX0_stepOn_28 ?_
    refine pC0_15 h dX0_stepOn_29 (fun m3 hm3 => ?_)
    refine j_aload_n h dX0_stepOn_32 rfl ?_
    refine j_dup h dX0_stepOn_33 rfl ?_
    refine gC0_19 h dX0_stepOn_34 ?_
    refine j_iconst (v := (1 : Int32)) h dX0_stepOn_37 kiconst_1 ?_
    refine j_isub h dX0_stepOn_38 ?_
    refine pC0_19 h dX0_stepOn_39 (fun m4 hm4 => ?_)
    refine j_aload_n h dX0_stepOn_42 rfl ?_
    refine j_aload_n h dX0_stepOn_43 rfl ?_
    refine gC0_11 h dX0_stepOn_44 ?_
    refine j_aload_n h dX0_stepOn_47 rfl ?_
    refine gC0_22 h dX0_stepOn_48 ?_
    refine j_bipush (v := (37 : Int32)) h dX0_stepOn_51 kbipush_37 ?_
    refine j_imul h dX0_stepOn_53 ?_
    refine j_callVV (q0 := 27) (ci := 8) h [.ref (G.2.2 57), .int ((m4.1 56 1) * (37 : Int32))] (kX8_load _ G h.2.2.2.2.2.2.2.2.2.2 m4 57 ((m4.1 56 1) * (37 : Int32))) okX8_load inX8_load ml0_35 rfl rfl rfl rfl (by decide) (by decide) (Nat.le_of_ble_eq_true rfl) rfl dX0_stepOn_54 (fun m6 hm6 => ?_)
    refine j_iconst (v := (1 : Int32)) h dX0_stepOn_57 kiconst_1 ?_
    exact j_zretB h rfl rfl dX0_stepOn_58
  · refine j_iconst (v := (0 : Int32)) h dX0_stepOn_7 kiconst_0 ?_
    exact j_zretB h rfl rfl dX0_stepOn_8
theorem dX3_leafOf_0 : DD cX3_leafOf 0 (.iload_n 0) 1 1 := ⟨by decide +kernel, rfl⟩
theorem dX3_leafOf_1 : DD cX3_leafOf 1 (.tableswitch 40 (-4) (-1) #[37, 35, 33, 31]) 31 32 := ⟨by decide +kernel, rfl⟩
theorem dX3_leafOf_32 : DD cX3_leafOf 32 (.iload_n 1) 1 33 := ⟨by decide +kernel, rfl⟩
theorem dX3_leafOf_33 : DD cX3_leafOf 33 (.ireturn) 1 34 := ⟨by decide +kernel, rfl⟩
theorem dX3_leafOf_34 : DD cX3_leafOf 34 (.iload_n 2) 1 35 := ⟨by decide +kernel, rfl⟩
theorem dX3_leafOf_35 : DD cX3_leafOf 35 (.ireturn) 1 36 := ⟨by decide +kernel, rfl⟩
theorem dX3_leafOf_36 : DD cX3_leafOf 36 (.iload_n 3) 1 37 := ⟨by decide +kernel, rfl⟩
theorem dX3_leafOf_37 : DD cX3_leafOf 37 (.ireturn) 1 38 := ⟨by decide +kernel, rfl⟩
theorem dX3_leafOf_38 : DD cX3_leafOf 38 (.iload 4) 2 40 := ⟨by decide +kernel, rfl⟩
theorem dX3_leafOf_40 : DD cX3_leafOf 40 (.ireturn) 1 41 := ⟨by decide +kernel, rfl⟩
theorem dX3_leafOf_41 : DD cX3_leafOf 41 (.iload_n 0) 1 42 := ⟨by decide +kernel, rfl⟩
theorem dX3_leafOf_42 : DD cX3_leafOf 42 (.ireturn) 1 43 := ⟨by decide +kernel, rfl⟩
def fX3_leafOf (x0 : Int32) (x1 : Int32) (x2 : Int32) (x3 : Int32) (x4 : Int32) : Option Int32 := (if x0 = (-4 : Int32) then (some x4) else (if x0 = (-3 : Int32) then (some x3) else (if x0 = (-2 : Int32) then (some x2) else (if x0 = (-1 : Int32) then (some x1) else (some x0)))))
set_option maxHeartbeats 4000000 in
set_option maxRecDepth 100000 in
theorem kX3_leafOf (l : Launch) (G : Gt) (hD : ∀ m, va_D (inA G nC) (wC G m)) (m : Mem) (x0 : Int32) (x1 : Int32) (x2 : Int32) (x3 : Int32) (x4 : Int32) : ∀ a, fX3_leafOf x0 x1 x2 x3 x4 = some a → Ct l G wC nC yX3_leafOf cX3_leafOf 5 (some .int) 1 [.int x0, .int x1, .int x2, .int x3, .int x4] m ((cvP m) a) := by
  refine ct_of (own := RX3) (ls0 := [some (.int x0), some (.int x1), some (.int x2), some (.int x3), some (.int x4)]) (by decide) rfl rfl rfl (Nat.le_of_ble_eq_true rfl) hD (fun X h => ?_) l
  unfold fX3_leafOf
  refine j_iload_n h dX3_leafOf_0 rfl ?_
  by_cases c1 : x0 = (-4 : Int32)
  · rw [if_pos c1]
    refine j_tabIn (off := 37) (tgt := 38) h c1 dX3_leafOf_1 (by decide) (by decide) (by decide) (by decide) ?_
    refine j_iload h dX3_leafOf_38 rfl ?_
    exact j_iret h rfl dX3_leafOf_40
  · rw [if_neg c1]
    by_cases c2 : x0 = (-3 : Int32)
    · rw [if_pos c2]
      refine j_tabIn (off := 35) (tgt := 36) h c2 dX3_leafOf_1 (by decide) (by decide) (by decide) (by decide) ?_
      refine j_iload_n h dX3_leafOf_36 rfl ?_
      exact j_iret h rfl dX3_leafOf_37
    · rw [if_neg c2]
      by_cases c3 : x0 = (-2 : Int32)
      · rw [if_pos c3]
        refine j_tabIn (off := 33) (tgt := 34) h c3 dX3_leafOf_1 (by decide) (by decide) (by decide) (by decide) ?_
        refine j_iload_n h dX3_leafOf_34 rfl ?_
        exact j_iret h rfl dX3_leafOf_35
      · rw [if_neg c3]
        by_cases c4 : x0 = (-1 : Int32)
        · rw [if_pos c4]
          refine j_tabIn (off := 31) (tgt := 32) h c4 dX3_leafOf_1 (by decide) (by decide) (by decide) (by decide) ?_
          refine j_iload_n h dX3_leafOf_32 rfl ?_
          exact j_iret h rfl dX3_leafOf_33
        · rw [if_neg c4]
          refine j_tabOut (tgt := 41) h [(-4 : Int32), (-3 : Int32), (-2 : Int32), (-1 : Int32)] dX3_leafOf_1 (by intro v hv; simp only [List.mem_cons, List.not_mem_nil, or_false] at hv; rcases hv with rfl | rfl | rfl | rfl <;> assumption) (by decide) (by decide) (by decide) ?_
          refine j_iload_n h dX3_leafOf_41 rfl ?_
          exact j_iret h rfl dX3_leafOf_42
theorem dX3_join_0 : DD cX3_join 0 (.iload_n 0) 1 1 := ⟨by decide +kernel, rfl⟩
theorem dX3_join_1 : DD cX3_join 1 (.tableswitch 152 (-15) (-6) #[140, 128, 124, 120, 116, 105, 94, 83, 69, 55]) 55 56 := ⟨by decide +kernel, rfl⟩
theorem dX3_join_56 : DD cX3_join 56 (.iload_n 1) 1 57 := ⟨by decide +kernel, rfl⟩
theorem dX3_join_57 : DD cX3_join 57 (.ifCond .ne 7) 3 60 := ⟨by decide +kernel, rfl⟩
theorem dX3_join_60 : DD cX3_join 60 (.iload_n 2) 1 61 := ⟨by decide +kernel, rfl⟩
theorem dX3_join_61 : DD cX3_join 61 (.ifCond .eq 7) 3 64 := ⟨by decide +kernel, rfl⟩
theorem dX3_join_64 : DD cX3_join 64 (.iconst 1) 1 65 := ⟨by decide +kernel, rfl⟩
theorem dX3_join_65 : DD cX3_join 65 (.goto 4) 3 68 := ⟨by decide +kernel, rfl⟩
theorem dX3_join_68 : DD cX3_join 68 (.iconst 0) 1 69 := ⟨by decide +kernel, rfl⟩
theorem dX3_join_69 : DD cX3_join 69 (.ireturn) 1 70 := ⟨by decide +kernel, rfl⟩
theorem dX3_join_70 : DD cX3_join 70 (.iload_n 1) 1 71 := ⟨by decide +kernel, rfl⟩
theorem dX3_join_71 : DD cX3_join 71 (.ifCond .eq 11) 3 74 := ⟨by decide +kernel, rfl⟩
theorem dX3_join_74 : DD cX3_join 74 (.iload_n 2) 1 75 := ⟨by decide +kernel, rfl⟩
theorem dX3_join_75 : DD cX3_join 75 (.ifCond .eq 7) 3 78 := ⟨by decide +kernel, rfl⟩
theorem dX3_join_78 : DD cX3_join 78 (.iconst 1) 1 79 := ⟨by decide +kernel, rfl⟩
theorem dX3_join_79 : DD cX3_join 79 (.goto 4) 3 82 := ⟨by decide +kernel, rfl⟩
theorem dX3_join_82 : DD cX3_join 82 (.iconst 0) 1 83 := ⟨by decide +kernel, rfl⟩
theorem dX3_join_83 : DD cX3_join 83 (.ireturn) 1 84 := ⟨by decide +kernel, rfl⟩
theorem dX3_join_84 : DD cX3_join 84 (.iload_n 1) 1 85 := ⟨by decide +kernel, rfl⟩
theorem dX3_join_85 : DD cX3_join 85 (.iload_n 2) 1 86 := ⟨by decide +kernel, rfl⟩
theorem dX3_join_86 : DD cX3_join 86 (.if_icmp .ge 7) 3 89 := ⟨by decide +kernel, rfl⟩
theorem dX3_join_89 : DD cX3_join 89 (.iconst 1) 1 90 := ⟨by decide +kernel, rfl⟩
theorem dX3_join_90 : DD cX3_join 90 (.goto 4) 3 93 := ⟨by decide +kernel, rfl⟩
theorem dX3_join_93 : DD cX3_join 93 (.iconst 0) 1 94 := ⟨by decide +kernel, rfl⟩
theorem dX3_join_94 : DD cX3_join 94 (.ireturn) 1 95 := ⟨by decide +kernel, rfl⟩
theorem dX3_join_95 : DD cX3_join 95 (.iload_n 1) 1 96 := ⟨by decide +kernel, rfl⟩
theorem dX3_join_96 : DD cX3_join 96 (.iload_n 2) 1 97 := ⟨by decide +kernel, rfl⟩
theorem dX3_join_97 : DD cX3_join 97 (.if_icmp .le 7) 3 100 := ⟨by decide +kernel, rfl⟩
theorem dX3_join_100 : DD cX3_join 100 (.iconst 1) 1 101 := ⟨by decide +kernel, rfl⟩
theorem dX3_join_101 : DD cX3_join 101 (.goto 4) 3 104 := ⟨by decide +kernel, rfl⟩
theorem dX3_join_104 : DD cX3_join 104 (.iconst 0) 1 105 := ⟨by decide +kernel, rfl⟩
theorem dX3_join_105 : DD cX3_join 105 (.ireturn) 1 106 := ⟨by decide +kernel, rfl⟩
theorem dX3_join_106 : DD cX3_join 106 (.iload_n 1) 1 107 := ⟨by decide +kernel, rfl⟩
theorem dX3_join_107 : DD cX3_join 107 (.iload_n 2) 1 108 := ⟨by decide +kernel, rfl⟩
theorem dX3_join_108 : DD cX3_join 108 (.if_icmp .ne 7) 3 111 := ⟨by decide +kernel, rfl⟩
theorem dX3_join_111 : DD cX3_join 111 (.iconst 1) 1 112 := ⟨by decide +kernel, rfl⟩
theorem dX3_join_112 : DD cX3_join 112 (.goto 4) 3 115 := ⟨by decide +kernel, rfl⟩
theorem dX3_join_115 : DD cX3_join 115 (.iconst 0) 1 116 := ⟨by decide +kernel, rfl⟩
theorem dX3_join_116 : DD cX3_join 116 (.ireturn) 1 117 := ⟨by decide +kernel, rfl⟩
theorem dX3_join_117 : DD cX3_join 117 (.iload_n 1) 1 118 := ⟨by decide +kernel, rfl⟩
theorem dX3_join_118 : DD cX3_join 118 (.iload_n 2) 1 119 := ⟨by decide +kernel, rfl⟩
theorem dX3_join_119 : DD cX3_join 119 (.iadd) 1 120 := ⟨by decide +kernel, rfl⟩
theorem dX3_join_120 : DD cX3_join 120 (.ireturn) 1 121 := ⟨by decide +kernel, rfl⟩
theorem dX3_join_121 : DD cX3_join 121 (.iload_n 1) 1 122 := ⟨by decide +kernel, rfl⟩
theorem dX3_join_122 : DD cX3_join 122 (.iload_n 2) 1 123 := ⟨by decide +kernel, rfl⟩
theorem dX3_join_123 : DD cX3_join 123 (.isub) 1 124 := ⟨by decide +kernel, rfl⟩
theorem dX3_join_124 : DD cX3_join 124 (.ireturn) 1 125 := ⟨by decide +kernel, rfl⟩
theorem dX3_join_125 : DD cX3_join 125 (.iload_n 1) 1 126 := ⟨by decide +kernel, rfl⟩
theorem dX3_join_126 : DD cX3_join 126 (.iload_n 2) 1 127 := ⟨by decide +kernel, rfl⟩
theorem dX3_join_127 : DD cX3_join 127 (.imul) 1 128 := ⟨by decide +kernel, rfl⟩
theorem dX3_join_128 : DD cX3_join 128 (.ireturn) 1 129 := ⟨by decide +kernel, rfl⟩
theorem dX3_join_129 : DD cX3_join 129 (.iload_n 2) 1 130 := ⟨by decide +kernel, rfl⟩
theorem dX3_join_130 : DD cX3_join 130 (.ifCond .ne 7) 3 133 := ⟨by decide +kernel, rfl⟩
theorem dX3_join_133 : DD cX3_join 133 (.iconst 0) 1 134 := ⟨by decide +kernel, rfl⟩
theorem dX3_join_134 : DD cX3_join 134 (.goto 6) 3 137 := ⟨by decide +kernel, rfl⟩
theorem dX3_join_137 : DD cX3_join 137 (.iload_n 1) 1 138 := ⟨by decide +kernel, rfl⟩
theorem dX3_join_138 : DD cX3_join 138 (.iload_n 2) 1 139 := ⟨by decide +kernel, rfl⟩
theorem dX3_join_139 : DD cX3_join 139 (.idiv) 1 140 := ⟨by decide +kernel, rfl⟩
theorem dX3_join_140 : DD cX3_join 140 (.ireturn) 1 141 := ⟨by decide +kernel, rfl⟩
theorem dX3_join_141 : DD cX3_join 141 (.iload_n 2) 1 142 := ⟨by decide +kernel, rfl⟩
theorem dX3_join_142 : DD cX3_join 142 (.ifCond .ne 7) 3 145 := ⟨by decide +kernel, rfl⟩
theorem dX3_join_145 : DD cX3_join 145 (.iconst 0) 1 146 := ⟨by decide +kernel, rfl⟩
theorem dX3_join_146 : DD cX3_join 146 (.goto 6) 3 149 := ⟨by decide +kernel, rfl⟩
theorem dX3_join_149 : DD cX3_join 149 (.iload_n 1) 1 150 := ⟨by decide +kernel, rfl⟩
theorem dX3_join_150 : DD cX3_join 150 (.iload_n 2) 1 151 := ⟨by decide +kernel, rfl⟩
theorem dX3_join_151 : DD cX3_join 151 (.irem) 1 152 := ⟨by decide +kernel, rfl⟩
theorem dX3_join_152 : DD cX3_join 152 (.ireturn) 1 153 := ⟨by decide +kernel, rfl⟩
theorem dX3_join_153 : DD cX3_join 153 (.iconst 0) 1 154 := ⟨by decide +kernel, rfl⟩
theorem dX3_join_154 : DD cX3_join 154 (.ireturn) 1 155 := ⟨by decide +kernel, rfl⟩
def fX3_join (x0 : Int32) (x1 : Int32) (x2 : Int32) : Option Int32 := (if x0 = (-15 : Int32) then (if x2 = 0 then (some (0 : Int32)) else (dv x2 (some (x1 - x1 / x2 * x2)))) else (if x0 = (-14 : Int32) then (if x2 = 0 then (some (0 : Int32)) else (dv x2 (some (x1 / x2)))) else (if x0 = (-13 : Int32) then (some (x1 * x2)) else (if x0 = (-12 : Int32) then (some (x1 - x2)) else (if x0 = (-11 : Int32) then (some (x1 + x2)) else (if x0 = (-10 : Int32) then (if x1 = x2 then (some (1 : Int32)) else (some (0 : Int32))) else (if x0 = (-9 : Int32) then (if x1 ≤ x2 then (some (0 : Int32)) else (some (1 : Int32))) else (if x0 = (-8 : Int32) then (if x2 ≤ x1 then (some (0 : Int32)) else (some (1 : Int32))) else (if x0 = (-7 : Int32) then (if x1 = 0 then (some (0 : Int32)) else (if x2 = 0 then (some (0 : Int32)) else (some (1 : Int32)))) else (if x0 = (-6 : Int32) then (if x1 = 0 then (if x2 = 0 then (some (0 : Int32)) else (some (1 : Int32))) else (some (1 : Int32))) else (some (0 : Int32))))))))))))
set_option maxHeartbeats 4000000 in
set_option maxRecDepth 100000 in
theorem kX3_join (l : Launch) (G : Gt) (hD : ∀ m, va_D (inA G nC) (wC G m)) (m : Mem) (x0 : Int32) (x1 : Int32) (x2 : Int32) : ∀ a, fX3_join x0 x1 x2 = some a → Ct l G wC nC yX3_join cX3_join 3 (some .int) 1 [.int x0, .int x1, .int x2] m ((cvP m) a) := by
  refine ct_of (own := RX3) (ls0 := [some (.int x0), some (.int x1), some (.int x2)]) (by decide) rfl rfl rfl (Nat.le_of_ble_eq_true rfl) hD (fun X h => ?_) l
  unfold fX3_join
  refine j_iload_n h dX3_join_0 rfl ?_
  by_cases c1 : x0 = (-15 : Int32)
  · rw [if_pos c1]
    refine j_tabIn (off := 140) (tgt := 141) h c1 dX3_join_1 (by decide) (by decide) (by decide) (by decide) ?_
    refine j_iload_n h dX3_join_141 rfl ?_
    refine j_if_ne (tgt := 149) h dX3_join_142 (by decide) (fun c2 => ?_) (fun c2 => ?_)
    · refine j_iload_n h dX3_join_149 rfl ?_
      refine j_iload_n h dX3_join_150 rfl ?_
      refine j_irem h dX3_join_151 ?_
      exact j_iret h rfl dX3_join_152
    · refine j_iconst (v := (0 : Int32)) h dX3_join_145 kiconst_0 ?_
      refine j_goto (tgt := 152) h dX3_join_146 (by decide) ?_
      exact j_iret h rfl dX3_join_152
  · rw [if_neg c1]
    by_cases c3 : x0 = (-14 : Int32)
    · rw [if_pos c3]
      refine j_tabIn (off := 128) (tgt := 129) h c3 dX3_join_1 (by decide) (by decide) (by decide) (by decide) ?_
      refine j_iload_n h dX3_join_129 rfl ?_
      refine j_if_ne (tgt := 137) h dX3_join_130 (by decide) (fun c4 => ?_) (fun c4 => ?_)
      · refine j_iload_n h dX3_join_137 rfl ?_
        refine j_iload_n h dX3_join_138 rfl ?_
        refine j_idiv h dX3_join_139 ?_
        exact j_iret h rfl dX3_join_140
      · refine j_iconst (v := (0 : Int32)) h dX3_join_133 kiconst_0 ?_
        refine j_goto (tgt := 140) h dX3_join_134 (by decide) ?_
        exact j_iret h rfl dX3_join_140
    · rw [if_neg c3]
      by_cases c5 : x0 = (-13 : Int32)
      · rw [if_pos c5]
        refine j_tabIn (off := 124) (tgt := 125) h c5 dX3_join_1 (by decide) (by decide) (by decide) (by decide) ?_
        refine j_iload_n h dX3_join_125 rfl ?_
        refine j_iload_n h dX3_join_126 rfl ?_
        refine j_imul h dX3_join_127 ?_
        exact j_iret h rfl dX3_join_128
      · rw [if_neg c5]
        by_cases c6 : x0 = (-12 : Int32)
        · rw [if_pos c6]
          refine j_tabIn (off := 120) (tgt := 121) h c6 dX3_join_1 (by decide) (by decide) (by decide) (by decide) ?_
          refine j_iload_n h dX3_join_121 rfl ?_
          refine j_iload_n h dX3_join_122 rfl ?_
          refine j_isub h dX3_join_123 ?_
          exact j_iret h rfl dX3_join_124
        · rw [if_neg c6]
          by_cases c7 : x0 = (-11 : Int32)
          · rw [if_pos c7]
            refine j_tabIn (off := 116) (tgt := 117) h c7 dX3_join_1 (by decide) (by decide) (by decide) (by decide) ?_
            refine j_iload_n h dX3_join_117 rfl ?_
            refine j_iload_n h dX3_join_118 rfl ?_
            refine j_iadd h dX3_join_119 ?_
            exact j_iret h rfl dX3_join_120
          · rw [if_neg c7]
            by_cases c8 : x0 = (-10 : Int32)
            · rw [if_pos c8]
              refine j_tabIn (off := 105) (tgt := 106) h c8 dX3_join_1 (by decide) (by decide) (by decide) (by decide) ?_
              refine j_iload_n h dX3_join_106 rfl ?_
              refine j_iload_n h dX3_join_107 rfl ?_
              refine j_icmp_ne (tgt := 115) h dX3_join_108 (by decide) (fun c9 => ?_) (fun c9 => ?_)
              · refine j_iconst (v := (0 : Int32)) h dX3_join_115 kiconst_0 ?_
                exact j_iret h rfl dX3_join_116
              · refine j_iconst (v := (1 : Int32)) h dX3_join_111 kiconst_1 ?_
                refine j_goto (tgt := 116) h dX3_join_112 (by decide) ?_
                exact j_iret h rfl dX3_join_116
            · rw [if_neg c8]
              by_cases c10 : x0 = (-9 : Int32)
              · rw [if_pos c10]
                refine j_tabIn (off := 94) (tgt := 95) h c10 dX3_join_1 (by decide) (by decide) (by decide) (by decide) ?_
                refine j_iload_n h dX3_join_95 rfl ?_
                refine j_iload_n h dX3_join_96 rfl ?_
                refine j_icmp_le (tgt := 104) h dX3_join_97 (by decide) (fun c11 => ?_) (fun c11 => ?_)
                · refine j_iconst (v := (0 : Int32)) h dX3_join_104 kiconst_0 ?_
                  exact j_iret h rfl dX3_join_105
                · refine j_iconst (v := (1 : Int32)) h dX3_join_100 kiconst_1 ?_
                  refine j_goto (tgt := 105) h dX3_join_101 (by decide) ?_
                  exact j_iret h rfl dX3_join_105
              · rw [if_neg c10]
                by_cases c12 : x0 = (-8 : Int32)
                · rw [if_pos c12]
                  refine j_tabIn (off := 83) (tgt := 84) h c12 dX3_join_1 (by decide) (by decide) (by decide) (by decide) ?_
                  refine j_iload_n h dX3_join_84 rfl ?_
                  refine j_iload_n h dX3_join_85 rfl ?_
                  refine j_icmp_ge (tgt := 93) h dX3_join_86 (by decide) (fun c13 => ?_) (fun c13 => ?_)
                  · refine j_iconst (v := (0 : Int32)) h dX3_join_93 kiconst_0 ?_
                    exact j_iret h rfl dX3_join_94
                  · refine j_iconst (v := (1 : Int32)) h dX3_join_89 kiconst_1 ?_
                    refine j_goto (tgt := 94) h dX3_join_90 (by decide) ?_
                    exact j_iret h rfl dX3_join_94
                · rw [if_neg c12]
                  by_cases c14 : x0 = (-7 : Int32)
                  · rw [if_pos c14]
                    refine j_tabIn (off := 69) (tgt := 70) h c14 dX3_join_1 (by decide) (by decide) (by decide) (by decide) ?_
                    refine j_iload_n h dX3_join_70 rfl ?_
                    refine j_if_eq (tgt := 82) h dX3_join_71 (by decide) (fun c15 => ?_) (fun c15 => ?_)
                    · refine j_iconst (v := (0 : Int32)) h dX3_join_82 kiconst_0 ?_
                      exact j_iret h rfl dX3_join_83
                    · refine j_iload_n h dX3_join_74 rfl ?_
                      refine j_if_eq (tgt := 82) h dX3_join_75 (by decide) (fun c16 => ?_) (fun c16 => ?_)
                      · refine j_iconst (v := (0 : Int32)) h dX3_join_82 kiconst_0 ?_
                        exact j_iret h rfl dX3_join_83
                      · refine j_iconst (v := (1 : Int32)) h dX3_join_78 kiconst_1 ?_
                        refine j_goto (tgt := 83) h dX3_join_79 (by decide) ?_
                        exact j_iret h rfl dX3_join_83
                  · rw [if_neg c14]
                    by_cases c17 : x0 = (-6 : Int32)
                    · rw [if_pos c17]
                      refine j_tabIn (off := 55) (tgt := 56) h c17 dX3_join_1 (by decide) (by decide) (by decide) (by decide) ?_
                      refine j_iload_n h dX3_join_56 rfl ?_
                      refine j_if_ne (tgt := 64) h dX3_join_57 (by decide) (fun c18 => ?_) (fun c18 => ?_)
                      · refine j_iconst (v := (1 : Int32)) h dX3_join_64 kiconst_1 ?_
                        refine j_goto (tgt := 69) h dX3_join_65 (by decide) ?_
                        exact j_iret h rfl dX3_join_69
                      · refine j_iload_n h dX3_join_60 rfl ?_
                        refine j_if_eq (tgt := 68) h dX3_join_61 (by decide) (fun c19 => ?_) (fun c19 => ?_)
                        · refine j_iconst (v := (0 : Int32)) h dX3_join_68 kiconst_0 ?_
                          exact j_iret h rfl dX3_join_69
                        · refine j_iconst (v := (1 : Int32)) h dX3_join_64 kiconst_1 ?_
                          refine j_goto (tgt := 69) h dX3_join_65 (by decide) ?_
                          exact j_iret h rfl dX3_join_69
                    · rw [if_neg c17]
                      refine j_tabOut (tgt := 153) h [(-15 : Int32), (-14 : Int32), (-13 : Int32), (-12 : Int32), (-11 : Int32), (-10 : Int32), (-9 : Int32), (-8 : Int32), (-7 : Int32), (-6 : Int32)] dX3_join_1 (by intro v hv; simp only [List.mem_cons, List.not_mem_nil, or_false] at hv; rcases hv with rfl | rfl | rfl | rfl | rfl | rfl | rfl | rfl | rfl | rfl <;> assumption) (by decide) (by decide) (by decide) ?_
                      refine j_iconst (v := (0 : Int32)) h dX3_join_153 kiconst_0 ?_
                      exact j_iret h rfl dX3_join_154
theorem dX3_valueOf_0 : DD cX3_valueOf 0 (.iconst 0) 1 1 := ⟨by decide +kernel, rfl⟩
theorem dX3_valueOf_1 : DD cX3_valueOf 1 (.istore 5) 2 3 := ⟨by decide +kernel, rfl⟩
theorem dX3_valueOf_3 : DD cX3_valueOf 3 (.iconst 0) 1 4 := ⟨by decide +kernel, rfl⟩
theorem dX3_valueOf_4 : DD cX3_valueOf 4 (.istore 6) 2 6 := ⟨by decide +kernel, rfl⟩
theorem dX3_valueOf_6 : DD cX3_valueOf 6 (.iload 6) 2 8 := ⟨by decide +kernel, rfl⟩
theorem dX3_valueOf_8 : DD cX3_valueOf 8 (.aload_n 0) 1 9 := ⟨by decide +kernel, rfl⟩
theorem dX3_valueOf_9 : DD cX3_valueOf 9 (.getfield 16) 3 12 := ⟨by decide +kernel, rfl⟩
theorem dX3_valueOf_12 : DD cX3_valueOf 12 (.if_icmp .ge 156) 3 15 := ⟨by decide +kernel, rfl⟩
theorem dX3_valueOf_15 : DD cX3_valueOf 15 (.iload 6) 2 17 := ⟨by decide +kernel, rfl⟩
theorem dX3_valueOf_17 : DD cX3_valueOf 17 (.aload_n 0) 1 18 := ⟨by decide +kernel, rfl⟩
theorem dX3_valueOf_18 : DD cX3_valueOf 18 (.getfield 9) 3 21 := ⟨by decide +kernel, rfl⟩
theorem dX3_valueOf_21 : DD cX3_valueOf 21 (.arraylength) 1 22 := ⟨by decide +kernel, rfl⟩
theorem dX3_valueOf_22 : DD cX3_valueOf 22 (.if_icmp .ge 146) 3 25 := ⟨by decide +kernel, rfl⟩
theorem dX3_valueOf_25 : DD cX3_valueOf 25 (.aload_n 0) 1 26 := ⟨by decide +kernel, rfl⟩
theorem dX3_valueOf_26 : DD cX3_valueOf 26 (.getfield 9) 3 29 := ⟨by decide +kernel, rfl⟩
theorem dX3_valueOf_29 : DD cX3_valueOf 29 (.iload 6) 2 31 := ⟨by decide +kernel, rfl⟩
theorem dX3_valueOf_31 : DD cX3_valueOf 31 (.iaload) 1 32 := ⟨by decide +kernel, rfl⟩
theorem dX3_valueOf_32 : DD cX3_valueOf 32 (.istore 7) 2 34 := ⟨by decide +kernel, rfl⟩
theorem dX3_valueOf_34 : DD cX3_valueOf 34 (.iload 7) 2 36 := ⟨by decide +kernel, rfl⟩
theorem dX3_valueOf_36 : DD cX3_valueOf 36 (.bipush (-5)) 2 38 := ⟨by decide +kernel, rfl⟩
theorem dX3_valueOf_38 : DD cX3_valueOf 38 (.if_icmp .le 36) 3 41 := ⟨by decide +kernel, rfl⟩
theorem dX3_valueOf_41 : DD cX3_valueOf 41 (.iload 5) 2 43 := ⟨by decide +kernel, rfl⟩
theorem dX3_valueOf_43 : DD cX3_valueOf 43 (.aload_n 0) 1 44 := ⟨by decide +kernel, rfl⟩
theorem dX3_valueOf_44 : DD cX3_valueOf 44 (.getfield 13) 3 47 := ⟨by decide +kernel, rfl⟩
theorem dX3_valueOf_47 : DD cX3_valueOf 47 (.arraylength) 1 48 := ⟨by decide +kernel, rfl⟩
theorem dX3_valueOf_48 : DD cX3_valueOf 48 (.if_icmp .ge 26) 3 51 := ⟨by decide +kernel, rfl⟩
theorem dX3_valueOf_51 : DD cX3_valueOf 51 (.aload_n 0) 1 52 := ⟨by decide +kernel, rfl⟩
theorem dX3_valueOf_52 : DD cX3_valueOf 52 (.getfield 13) 3 55 := ⟨by decide +kernel, rfl⟩
theorem dX3_valueOf_55 : DD cX3_valueOf 55 (.iload 5) 2 57 := ⟨by decide +kernel, rfl⟩
theorem dX3_valueOf_57 : DD cX3_valueOf 57 (.iload 7) 2 59 := ⟨by decide +kernel, rfl⟩
theorem dX3_valueOf_59 : DD cX3_valueOf 59 (.iload_n 1) 1 60 := ⟨by decide +kernel, rfl⟩
theorem dX3_valueOf_60 : DD cX3_valueOf 60 (.iload_n 2) 1 61 := ⟨by decide +kernel, rfl⟩
theorem dX3_valueOf_61 : DD cX3_valueOf 61 (.iload_n 3) 1 62 := ⟨by decide +kernel, rfl⟩
theorem dX3_valueOf_62 : DD cX3_valueOf 62 (.iload 4) 2 64 := ⟨by decide +kernel, rfl⟩
theorem dX3_valueOf_64 : DD cX3_valueOf 64 (.invokestatic 24) 3 67 := ⟨by decide +kernel, rfl⟩
theorem dX3_valueOf_67 : DD cX3_valueOf 67 (.iastore) 1 68 := ⟨by decide +kernel, rfl⟩
theorem dX3_valueOf_68 : DD cX3_valueOf 68 (.iinc 5 1) 3 71 := ⟨by decide +kernel, rfl⟩
theorem dX3_valueOf_71 : DD cX3_valueOf 71 (.goto 91) 3 74 := ⟨by decide +kernel, rfl⟩
theorem dX3_valueOf_74 : DD cX3_valueOf 74 (.iload 7) 2 76 := ⟨by decide +kernel, rfl⟩
theorem dX3_valueOf_76 : DD cX3_valueOf 76 (.bipush (-5)) 2 78 := ⟨by decide +kernel, rfl⟩
theorem dX3_valueOf_78 : DD cX3_valueOf 78 (.if_icmp .ne 38) 3 81 := ⟨by decide +kernel, rfl⟩
theorem dX3_valueOf_81 : DD cX3_valueOf 81 (.iload 5) 2 83 := ⟨by decide +kernel, rfl⟩
theorem dX3_valueOf_83 : DD cX3_valueOf 83 (.iconst 1) 1 84 := ⟨by decide +kernel, rfl⟩
theorem dX3_valueOf_84 : DD cX3_valueOf 84 (.if_icmp .lt 32) 3 87 := ⟨by decide +kernel, rfl⟩
theorem dX3_valueOf_87 : DD cX3_valueOf 87 (.aload_n 0) 1 88 := ⟨by decide +kernel, rfl⟩
theorem dX3_valueOf_88 : DD cX3_valueOf 88 (.getfield 13) 3 91 := ⟨by decide +kernel, rfl⟩
theorem dX3_valueOf_91 : DD cX3_valueOf 91 (.iload 5) 2 93 := ⟨by decide +kernel, rfl⟩
theorem dX3_valueOf_93 : DD cX3_valueOf 93 (.iconst 1) 1 94 := ⟨by decide +kernel, rfl⟩
theorem dX3_valueOf_94 : DD cX3_valueOf 94 (.isub) 1 95 := ⟨by decide +kernel, rfl⟩
theorem dX3_valueOf_95 : DD cX3_valueOf 95 (.aload_n 0) 1 96 := ⟨by decide +kernel, rfl⟩
theorem dX3_valueOf_96 : DD cX3_valueOf 96 (.getfield 13) 3 99 := ⟨by decide +kernel, rfl⟩
theorem dX3_valueOf_99 : DD cX3_valueOf 99 (.iload 5) 2 101 := ⟨by decide +kernel, rfl⟩
theorem dX3_valueOf_101 : DD cX3_valueOf 101 (.iconst 1) 1 102 := ⟨by decide +kernel, rfl⟩
theorem dX3_valueOf_102 : DD cX3_valueOf 102 (.isub) 1 103 := ⟨by decide +kernel, rfl⟩
theorem dX3_valueOf_103 : DD cX3_valueOf 103 (.iaload) 1 104 := ⟨by decide +kernel, rfl⟩
theorem dX3_valueOf_104 : DD cX3_valueOf 104 (.ifCond .ne 7) 3 107 := ⟨by decide +kernel, rfl⟩
theorem dX3_valueOf_107 : DD cX3_valueOf 107 (.iconst 1) 1 108 := ⟨by decide +kernel, rfl⟩
theorem dX3_valueOf_108 : DD cX3_valueOf 108 (.goto 4) 3 111 := ⟨by decide +kernel, rfl⟩
theorem dX3_valueOf_111 : DD cX3_valueOf 111 (.iconst 0) 1 112 := ⟨by decide +kernel, rfl⟩
theorem dX3_valueOf_112 : DD cX3_valueOf 112 (.iastore) 1 113 := ⟨by decide +kernel, rfl⟩
theorem dX3_valueOf_113 : DD cX3_valueOf 113 (.goto 49) 3 116 := ⟨by decide +kernel, rfl⟩
theorem dX3_valueOf_116 : DD cX3_valueOf 116 (.iload 7) 2 118 := ⟨by decide +kernel, rfl⟩
theorem dX3_valueOf_118 : DD cX3_valueOf 118 (.bipush (-5)) 2 120 := ⟨by decide +kernel, rfl⟩
theorem dX3_valueOf_120 : DD cX3_valueOf 120 (.if_icmp .ge 42) 3 123 := ⟨by decide +kernel, rfl⟩
theorem dX3_valueOf_123 : DD cX3_valueOf 123 (.iload 5) 2 125 := ⟨by decide +kernel, rfl⟩
theorem dX3_valueOf_125 : DD cX3_valueOf 125 (.iconst 2) 1 126 := ⟨by decide +kernel, rfl⟩
theorem dX3_valueOf_126 : DD cX3_valueOf 126 (.if_icmp .lt 36) 3 129 := ⟨by decide +kernel, rfl⟩
theorem dX3_valueOf_129 : DD cX3_valueOf 129 (.iinc 5 (-1)) 3 132 := ⟨by decide +kernel, rfl⟩
theorem dX3_valueOf_132 : DD cX3_valueOf 132 (.aload_n 0) 1 133 := ⟨by decide +kernel, rfl⟩
theorem dX3_valueOf_133 : DD cX3_valueOf 133 (.getfield 13) 3 136 := ⟨by decide +kernel, rfl⟩
theorem dX3_valueOf_136 : DD cX3_valueOf 136 (.iload 5) 2 138 := ⟨by decide +kernel, rfl⟩
theorem dX3_valueOf_138 : DD cX3_valueOf 138 (.iconst 1) 1 139 := ⟨by decide +kernel, rfl⟩
theorem dX3_valueOf_139 : DD cX3_valueOf 139 (.isub) 1 140 := ⟨by decide +kernel, rfl⟩
theorem dX3_valueOf_140 : DD cX3_valueOf 140 (.iload 7) 2 142 := ⟨by decide +kernel, rfl⟩
theorem dX3_valueOf_142 : DD cX3_valueOf 142 (.aload_n 0) 1 143 := ⟨by decide +kernel, rfl⟩
theorem dX3_valueOf_143 : DD cX3_valueOf 143 (.getfield 13) 3 146 := ⟨by decide +kernel, rfl⟩
theorem dX3_valueOf_146 : DD cX3_valueOf 146 (.iload 5) 2 148 := ⟨by decide +kernel, rfl⟩
theorem dX3_valueOf_148 : DD cX3_valueOf 148 (.iconst 1) 1 149 := ⟨by decide +kernel, rfl⟩
theorem dX3_valueOf_149 : DD cX3_valueOf 149 (.isub) 1 150 := ⟨by decide +kernel, rfl⟩
theorem dX3_valueOf_150 : DD cX3_valueOf 150 (.iaload) 1 151 := ⟨by decide +kernel, rfl⟩
theorem dX3_valueOf_151 : DD cX3_valueOf 151 (.aload_n 0) 1 152 := ⟨by decide +kernel, rfl⟩
theorem dX3_valueOf_152 : DD cX3_valueOf 152 (.getfield 13) 3 155 := ⟨by decide +kernel, rfl⟩
theorem dX3_valueOf_155 : DD cX3_valueOf 155 (.iload 5) 2 157 := ⟨by decide +kernel, rfl⟩
theorem dX3_valueOf_157 : DD cX3_valueOf 157 (.iaload) 1 158 := ⟨by decide +kernel, rfl⟩
theorem dX3_valueOf_158 : DD cX3_valueOf 158 (.invokestatic 28) 3 161 := ⟨by decide +kernel, rfl⟩
theorem dX3_valueOf_161 : DD cX3_valueOf 161 (.iastore) 1 162 := ⟨by decide +kernel, rfl⟩
theorem dX3_valueOf_162 : DD cX3_valueOf 162 (.iinc 6 1) 3 165 := ⟨by decide +kernel, rfl⟩
theorem dX3_valueOf_165 : DD cX3_valueOf 165 (.goto (-159)) 3 168 := ⟨by decide +kernel, rfl⟩
theorem dX3_valueOf_168 : DD cX3_valueOf 168 (.aload_n 0) 1 169 := ⟨by decide +kernel, rfl⟩
theorem dX3_valueOf_169 : DD cX3_valueOf 169 (.getfield 13) 3 172 := ⟨by decide +kernel, rfl⟩
theorem dX3_valueOf_172 : DD cX3_valueOf 172 (.iconst 0) 1 173 := ⟨by decide +kernel, rfl⟩
theorem dX3_valueOf_173 : DD cX3_valueOf 173 (.iaload) 1 174 := ⟨by decide +kernel, rfl⟩
theorem dX3_valueOf_174 : DD cX3_valueOf 174 (.ireturn) 1 175 := ⟨by decide +kernel, rfl⟩
def gX3_valueOf : Nat → Nat → Int32 → Int32 → Int32 → Int32 → Int32 → Int32 → Mem → Option (Int32 × Mem)
  | 0, _, _, _, _, _, _, _, _ => none
  | f + 1, x0, x1, x2, x3, x4, x5, x6, m => (gFm x0 (if (m.1 x0 2) ≤ x6 then (rd (m.1 (x0 + 2)) 30 (0 : Int32) fun v3 => (some (v3, m))) else (if (120 : Int32) ≤ x6 then (rd (m.1 (x0 + 2)) 30 (0 : Int32) fun v5 => (some (v5, m))) else (rd (m.1 (x0 + 1)) 120 x6 fun v6 => (if v6 ≤ (-5 : Int32) then (if v6 = (-5 : Int32) then (if x5 < (1 : Int32) then (if (-5 : Int32) ≤ v6 then (gX3_valueOf f x0 x1 x2 x3 x4 x5 (x6 + (1 : Int32)) m) else (if x5 < (2 : Int32) then (gX3_valueOf f x0 x1 x2 x3 x4 x5 (x6 + (1 : Int32)) m) else (rd (m.1 (x0 + 2)) 30 ((x5 + (-1 : Int32)) - (1 : Int32)) fun v19 => (rd (m.1 (x0 + 2)) 30 (x5 + (-1 : Int32)) fun v20 => (cP (fX3_join v6 v19 v20) fun r21 => (wr m (x0 + 2) 30 ((x5 + (-1 : Int32)) - (1 : Int32)) r21 fun m23 => (gX3_valueOf f x0 x1 x2 x3 x4 (x5 + (-1 : Int32)) (x6 + (1 : Int32)) m23))))))) else (rd (m.1 (x0 + 2)) 30 (x5 - (1 : Int32)) fun v24 => (if v24 = 0 then (wr m (x0 + 2) 30 (x5 - (1 : Int32)) (1 : Int32) fun m27 => (gX3_valueOf f x0 x1 x2 x3 x4 x5 (x6 + (1 : Int32)) m27)) else (wr m (x0 + 2) 30 (x5 - (1 : Int32)) (0 : Int32) fun m26 => (gX3_valueOf f x0 x1 x2 x3 x4 x5 (x6 + (1 : Int32)) m26))))) else (if (-5 : Int32) ≤ v6 then (gX3_valueOf f x0 x1 x2 x3 x4 x5 (x6 + (1 : Int32)) m) else (if x5 < (2 : Int32) then (gX3_valueOf f x0 x1 x2 x3 x4 x5 (x6 + (1 : Int32)) m) else (rd (m.1 (x0 + 2)) 30 ((x5 + (-1 : Int32)) - (1 : Int32)) fun v11 => (rd (m.1 (x0 + 2)) 30 (x5 + (-1 : Int32)) fun v12 => (cP (fX3_join v6 v11 v12) fun r13 => (wr m (x0 + 2) 30 ((x5 + (-1 : Int32)) - (1 : Int32)) r13 fun m15 => (gX3_valueOf f x0 x1 x2 x3 x4 (x5 + (-1 : Int32)) (x6 + (1 : Int32)) m15)))))))) else (if (30 : Int32) ≤ x5 then (if v6 = (-5 : Int32) then (if x5 < (1 : Int32) then (if (-5 : Int32) ≤ v6 then (gX3_valueOf f x0 x1 x2 x3 x4 x5 (x6 + (1 : Int32)) m) else (if x5 < (2 : Int32) then (gX3_valueOf f x0 x1 x2 x3 x4 x5 (x6 + (1 : Int32)) m) else (rd (m.1 (x0 + 2)) 30 ((x5 + (-1 : Int32)) - (1 : Int32)) fun v40 => (rd (m.1 (x0 + 2)) 30 (x5 + (-1 : Int32)) fun v41 => (cP (fX3_join v6 v40 v41) fun r42 => (wr m (x0 + 2) 30 ((x5 + (-1 : Int32)) - (1 : Int32)) r42 fun m44 => (gX3_valueOf f x0 x1 x2 x3 x4 (x5 + (-1 : Int32)) (x6 + (1 : Int32)) m44))))))) else (rd (m.1 (x0 + 2)) 30 (x5 - (1 : Int32)) fun v45 => (if v45 = 0 then (wr m (x0 + 2) 30 (x5 - (1 : Int32)) (1 : Int32) fun m48 => (gX3_valueOf f x0 x1 x2 x3 x4 x5 (x6 + (1 : Int32)) m48)) else (wr m (x0 + 2) 30 (x5 - (1 : Int32)) (0 : Int32) fun m47 => (gX3_valueOf f x0 x1 x2 x3 x4 x5 (x6 + (1 : Int32)) m47))))) else (if (-5 : Int32) ≤ v6 then (gX3_valueOf f x0 x1 x2 x3 x4 x5 (x6 + (1 : Int32)) m) else (if x5 < (2 : Int32) then (gX3_valueOf f x0 x1 x2 x3 x4 x5 (x6 + (1 : Int32)) m) else (rd (m.1 (x0 + 2)) 30 ((x5 + (-1 : Int32)) - (1 : Int32)) fun v32 => (rd (m.1 (x0 + 2)) 30 (x5 + (-1 : Int32)) fun v33 => (cP (fX3_join v6 v32 v33) fun r34 => (wr m (x0 + 2) 30 ((x5 + (-1 : Int32)) - (1 : Int32)) r34 fun m36 => (gX3_valueOf f x0 x1 x2 x3 x4 (x5 + (-1 : Int32)) (x6 + (1 : Int32)) m36)))))))) else (cP (fX3_leafOf v6 x1 x2 x3 x4) fun r49 => (wr m (x0 + 2) 30 x5 r49 fun m51 => (gX3_valueOf f x0 x1 x2 x3 x4 (x5 + (1 : Int32)) (x6 + (1 : Int32)) m51)))))))))
def fX3_valueOf (m : Mem) (x0 : Nat) (x1 : Int32) (x2 : Int32) (x3 : Int32) (x4 : Int32) : Option (Int32 × Mem) := (gX3_valueOf 5000 x0 x1 x2 x3 x4 (0 : Int32) (0 : Int32) m)
set_option maxHeartbeats 4000000 in
set_option maxRecDepth 100000 in
theorem wX3_valueOf {X : Cx} {G : Gt} (h : OkX (X, G, wC, nC) cX3_valueOf RX3 8 (some .int) 2) : ∀ f : Nat, (∀ (x0 : Nat) (x1 : Int32) (x2 : Int32) (x3 : Int32) (x4 : Int32) (x5 : Int32) (x6 : Int32) (m : Mem), JR (X, G, wC, nC) cvI m 6 [some (.ref (G.2.2 x0)), some (.int x1), some (.int x2), some (.int x3), some (.int x4), some (.int x5), some (.int x6), none] [] (gX3_valueOf f x0 x1 x2 x3 x4 x5 x6 m)) := by
  intro f
  induction f with
  | zero => exact (fun _ _ _ _ _ _ _ _ => j_none)
  | succ f ih =>
    intro x0 x1 x2 x3 x4 x5 x6 m
    rw [gX3_valueOf]
    refine j_iload h dX3_valueOf_6 rfl ?_
    refine j_aload_n h dX3_valueOf_8 rfl ?_
    refine j_gFm (fun hg1 => ?_)
    refine gC3_16 h hg1 dX3_valueOf_9 ?_
    refine j_icmp_ge (tgt := 168) h dX3_valueOf_12 (by decide) (fun c2 => ?_) (fun c2 => ?_)
    · refine j_aload_n h dX3_valueOf_168 rfl ?_
      refine gC3_13 h hg1 dX3_valueOf_169 ?_
      refine j_iconst (v := (0 : Int32)) h dX3_valueOf_172 kiconst_0 ?_
      refine aC_Fm2 h hg1 dX3_valueOf_173 (fun v3 hv3 => ?_)
      exact j_iret h rfl dX3_valueOf_174
    · refine j_iload h dX3_valueOf_15 rfl ?_
      refine j_aload_n h dX3_valueOf_17 rfl ?_
      refine gC3_9 h hg1 dX3_valueOf_18 ?_
      refine j_alen (q0 := (x0 + 1)) (v := (120 : Int32)) h (at_Fm1 hg1) rfl dX3_valueOf_21 ?_
      refine j_icmp_ge (tgt := 168) h dX3_valueOf_22 (by decide) (fun c4 => ?_) (fun c4 => ?_)
      · refine j_aload_n h dX3_valueOf_168 rfl ?_
        refine gC3_13 h hg1 dX3_valueOf_169 ?_
        refine j_iconst (v := (0 : Int32)) h dX3_valueOf_172 kiconst_0 ?_
        refine aC_Fm2 h hg1 dX3_valueOf_173 (fun v5 hv5 => ?_)
        exact j_iret h rfl dX3_valueOf_174
      · refine j_aload_n h dX3_valueOf_25 rfl ?_
        refine gC3_9 h hg1 dX3_valueOf_26 ?_
        refine j_iload h dX3_valueOf_29 rfl ?_
        refine aC_Fm1 h hg1 dX3_valueOf_31 (fun v6 hv6 => ?_)
        refine j_istore h dX3_valueOf_32 rfl rfl ?_
        refine j_iload h dX3_valueOf_34 rfl ?_
        refine j_bipush (v := (-5 : Int32)) h dX3_valueOf_36 kbipush_m5 ?_
        refine j_icmp_le (tgt := 74) h dX3_valueOf_38 (by decide) (fun c7 => ?_) (fun c7 => ?_)
        · refine j_iload h dX3_valueOf_74 rfl ?_
          refine j_bipush (v := (-5 : Int32)) h dX3_valueOf_76 kbipush_m5 ?_
          refine j_icmp_ne (tgt := 116) h dX3_valueOf_78 (by decide) (fun c8 => ?_) (fun c8 => ?_)
          · refine j_iload h dX3_valueOf_116 rfl ?_
            refine j_bipush (v := (-5 : Int32)) h dX3_valueOf_118 kbipush_m5 ?_
            refine j_icmp_ge (tgt := 162) h dX3_valueOf_120 (by decide) (fun c9 => ?_) (fun c9 => ?_)
            · refine j_iinc (v := (x6 + (1 : Int32))) h dX3_valueOf_162 rfl (by rw [kiconst_1]) rfl ?_
              refine j_goto (tgt := 6) h dX3_valueOf_165 (by decide) ?_
              refine j_wk (ls' := [some (.ref (G.2.2 x0)), some (.int x1), some (.int x2), some (.int x3), some (.int x4), some (.int x5), some (.int (x6 + (1 : Int32))), none]) (And.intro rfl (And.intro rfl (And.intro rfl (And.intro rfl (And.intro rfl (And.intro rfl (And.intro rfl trivial))))))) ?_
              exact ih x0 x1 x2 x3 x4 x5 (x6 + (1 : Int32)) m
            · refine j_iload h dX3_valueOf_123 rfl ?_
              refine j_iconst (v := (2 : Int32)) h dX3_valueOf_125 kiconst_2 ?_
              refine j_icmp_lt (tgt := 162) h dX3_valueOf_126 (by decide) (fun c10 => ?_) (fun c10 => ?_)
              · refine j_iinc (v := (x6 + (1 : Int32))) h dX3_valueOf_162 rfl (by rw [kiconst_1]) rfl ?_
                refine j_goto (tgt := 6) h dX3_valueOf_165 (by decide) ?_
                refine j_wk (ls' := [some (.ref (G.2.2 x0)), some (.int x1), some (.int x2), some (.int x3), some (.int x4), some (.int x5), some (.int (x6 + (1 : Int32))), none]) (And.intro rfl (And.intro rfl (And.intro rfl (And.intro rfl (And.intro rfl (And.intro rfl (And.intro rfl trivial))))))) ?_
                exact ih x0 x1 x2 x3 x4 x5 (x6 + (1 : Int32)) m
              · refine j_iinc (v := (x5 + (-1 : Int32))) h dX3_valueOf_129 rfl (by rw [kiconst_m1]) rfl ?_
                refine j_aload_n h dX3_valueOf_132 rfl ?_
                refine gC3_13 h hg1 dX3_valueOf_133 ?_
                refine j_iload h dX3_valueOf_136 rfl ?_
                refine j_iconst (v := (1 : Int32)) h dX3_valueOf_138 kiconst_1 ?_
                refine j_isub h dX3_valueOf_139 ?_
                refine j_iload h dX3_valueOf_140 rfl ?_
                refine j_aload_n h dX3_valueOf_142 rfl ?_
                refine gC3_13 h hg1 dX3_valueOf_143 ?_
                refine j_iload h dX3_valueOf_146 rfl ?_
                refine j_iconst (v := (1 : Int32)) h dX3_valueOf_148 kiconst_1 ?_
                refine j_isub h dX3_valueOf_149 ?_
                refine aC_Fm2 h hg1 dX3_valueOf_150 (fun v11 hv11 => ?_)
                refine j_aload_n h dX3_valueOf_151 rfl ?_
                refine gC3_13 h hg1 dX3_valueOf_152 ?_
                refine j_iload h dX3_valueOf_155 rfl ?_
                refine aC_Fm2 h hg1 dX3_valueOf_157 (fun v12 hv12 => ?_)
                refine j_callSP h [.int v6, .int v11, .int v12] (kX3_join _ G h.2.2.2.2.2.2.2.2.2.2 m v6 v11 v12) okX3_join stX3_join ml3_28 rfl rfl (by decide) (by decide) (Nat.le_of_ble_eq_true rfl) rfl dX3_valueOf_158 (fun r13 hr13 => ?_)
                refine bC_Fm2 h hg1 dX3_valueOf_161 (fun m15 hm15 => ?_)
                refine j_iinc (v := (x6 + (1 : Int32))) h dX3_valueOf_162 rfl (by rw [kiconst_1]) rfl ?_
                refine j_goto (tgt := 6) h dX3_valueOf_165 (by decide) ?_
                refine j_wk (ls' := [some (.ref (G.2.2 x0)), some (.int x1), some (.int x2), some (.int x3), some (.int x4), some (.int (x5 + (-1 : Int32))), some (.int (x6 + (1 : Int32))), none]) (And.intro rfl (And.intro rfl (And.intro rfl (And.intro rfl (And.intro rfl (And.intro rfl (And.intro rfl trivial))))))) ?_
                exact ih x0 x1 x2 x3 x4 (x5 + (-1 : Int32)) (x6 + (1 : Int32)) m15
          · refine j_iload h dX3_valueOf_81 rfl ?_
            refine j_iconst (v := (1 : Int32)) h dX3_valueOf_83 kiconst_1 ?_
            refine j_icmp_lt (tgt := 116) h dX3_valueOf_84 (by decide) (fun c16 => ?_) (fun c16 => ?_)
            · refine j_iload h dX3_valueOf_116 rfl ?_
              refine j_bipush (v := (-5 : Int32)) h dX3_valueOf_118 kbipush_m5 ?_
              refine j_icmp_ge (tgt := 162) h dX3_valueOf_120 (by decide) (fun c17 => ?_) (fun c17 => ?_)
              · refine j_iinc (v := (x6 + (1 : Int32))) h dX3_valueOf_162 rfl (by rw [kiconst_1]) rfl ?_
                refine j_goto (tgt := 6) h dX3_valueOf_165 (by decide) ?_
                refine j_wk (ls' := [some (.ref (G.2.2 x0)), some (.int x1), some (.int x2), some (.int x3), some (.int x4), some (.int x5), some (.int (x6 + (1 : Int32))), none]) (And.intro rfl (And.intro rfl (And.intro rfl (And.intro rfl (And.intro rfl (And.intro rfl (And.intro rfl trivial))))))) ?_
                exact ih x0 x1 x2 x3 x4 x5 (x6 + (1 : Int32)) m
              · refine j_iload h dX3_valueOf_123 rfl ?_
                refine j_iconst (v := (2 : Int32)) h dX3_valueOf_125 kiconst_2 ?_
                refine j_icmp_lt (tgt := 162) h dX3_valueOf_126 (by decide) (fun c18 => ?_) (fun c18 => ?_)
                · refine j_iinc (v := (x6 + (1 : Int32))) h dX3_valueOf_162 rfl (by rw [kiconst_1]) rfl ?_
                  refine j_goto (tgt := 6) h dX3_valueOf_165 (by decide) ?_
                  refine j_wk (ls' := [some (.ref (G.2.2 x0)), some (.int x1), some (.int x2), some (.int x3), some (.int x4), some (.int x5), some (.int (x6 + (1 : Int32))), none]) (And.intro rfl (And.intro rfl (And.intro rfl (And.intro rfl (And.intro rfl (And.intro rfl (And.intro rfl trivial))))))) ?_
                  exact ih x0 x1 x2 x3 x4 x5 (x6 + (1 : Int32)) m
                · refine j_iinc (v := (x5 + (-1 : Int32))) h dX3_valueOf_129 rfl (by rw [kiconst_m1]) rfl ?_
                  refine j_aload_n h dX3_valueOf_132 rfl ?_
                  refine gC3_13 h hg1 dX3_valueOf_133 ?_
                  refine j_iload h dX3_valueOf_136 rfl ?_
                  refine j_iconst (v := (1 : Int32)) h dX3_valueOf_138 kiconst_1 ?_
                  refine j_isub h dX3_valueOf_139 ?_
                  refine j_iload h dX3_valueOf_140 rfl ?_
                  refine j_aload_n h dX3_valueOf_142 rfl ?_
                  refine gC3_13 h hg1 dX3_valueOf_143 ?_
                  refine j_iload h dX3_valueOf_146 rfl ?_
                  refine j_iconst (v := (1 : Int32)) h dX3_valueOf_148 kiconst_1 ?_
                  refine j_isub h dX3_valueOf_149 ?_
                  refine aC_Fm2 h hg1 dX3_valueOf_150 (fun v19 hv19 => ?_)
                  refine j_aload_n h dX3_valueOf_151 rfl ?_
                  refine gC3_13 h hg1 dX3_valueOf_152 ?_
                  refine j_iload h dX3_valueOf_155 rfl ?_
                  refine aC_Fm2 h hg1 dX3_valueOf_157 (fun v20 hv20 => ?_)
                  refine j_callSP h [.int v6, .int v19, .int v20] (kX3_join _ G h.2.2.2.2.2.2.2.2.2.2 m v6 v19 v20) okX3_join stX3_join ml3_28 rfl rfl (by decide) (by decide) (Nat.le_of_ble_eq_true rfl) rfl dX3_valueOf_158 (fun r21 hr21 => ?_)
                  refine bC_Fm2 h hg1 dX3_valueOf_161 (fun m23 hm23 => ?_)
                  refine j_iinc (v := (x6 + (1 : Int32))) h dX3_valueOf_162 rfl (by rw [kiconst_1]) rfl ?_
                  refine j_goto (tgt := 6) h dX3_valueOf_165 (by decide) ?_
                  refine j_wk (ls' := [some (.ref (G.2.2 x0)), some (.int x1), some (.int x2), some (.int x3), some (.int x4), some (.int (x5 + (-1 : Int32))), some (.int (x6 + (1 : Int32))), none]) (And.intro rfl (And.intro rfl (And.intro rfl (And.intro rfl (And.intro rfl (And.intro rfl (And.intro rfl trivial))))))) ?_
                  exact ih x0 x1 x2 x3 x4 (x5 + (-1 : Int32)) (x6 + (1 : Int32)) m23
            · refine j_aload_n h dX3_valueOf_87 rfl ?_
              refine gC3_13 h hg1 dX3_valueOf_88 ?_
              refine j_iload h dX3_valueOf_91 rfl ?_
              refine j_iconst (v := (1 : Int32)) h dX3_valueOf_93 kiconst_1 ?_
              refine j_isub h dX3_valueOf_94 ?_
              refine j_aload_n h dX3_valueOf_95 rfl ?_
              refine gC3_13 h hg1 dX3_valueOf_96 ?_
              refine j_iload h dX3_valueOf_99 rfl ?_
              refine j_iconst (v := (1 : Int32)) h dX3_valueOf_101 kiconst_1 ?_
              refine j_isub h dX3_valueOf_102 ?_
              refine aC_Fm2 h hg1 dX3_valueOf_103 (fun v24 hv24 => ?_)
              refine j_if_ne (tgt := 111) h dX3_valueOf_104 (by decide) (fun c25 => ?_) (fun c25 => ?_)
              · refine j_iconst (v := (0 : Int32)) h dX3_valueOf_111 kiconst_0 ?_
                refine bC_Fm2 h hg1 dX3_valueOf_112 (fun m26 hm26 => ?_)
                refine j_goto (tgt := 162) h dX3_valueOf_113 (by decide) ?_
                refine j_iinc (v := (x6 + (1 : Int32))) h dX3_valueOf_162 rfl (by rw [kiconst_1]) rfl ?_
                refine j_goto (tgt := 6) h dX3_valueOf_165 (by decide) ?_
                refine j_wk (ls' := [some (.ref (G.2.2 x0)), some (.int x1), some (.int x2), some (.int x3), some (.int x4), some (.int x5), some (.int (x6 + (1 : Int32))), none]) (And.intro rfl (And.intro rfl (And.intro rfl (And.intro rfl (And.intro rfl (And.intro rfl (And.intro rfl trivial))))))) ?_
                exact ih x0 x1 x2 x3 x4 x5 (x6 + (1 : Int32)) m26
              · refine j_iconst (v := (1 : Int32)) h dX3_valueOf_107 kiconst_1 ?_
                refine j_goto (tgt := 112) h dX3_valueOf_108 (by decide) ?_
                refine bC_Fm2 h hg1 dX3_valueOf_112 (fun m27 hm27 => ?_)
                refine j_goto (tgt := 162) h dX3_valueOf_113 (by decide) ?_
                refine j_iinc (v := (x6 + (1 : Int32))) h dX3_valueOf_162 rfl (by rw [kiconst_1]) rfl ?_
                refine j_goto (tgt := 6) h dX3_valueOf_165 (by decide) ?_
                refine j_wk (ls' := [some (.ref (G.2.2 x0)), some (.int x1), some (.int x2), some (.int x3), some (.int x4), some (.int x5), some (.int (x6 + (1 : Int32))), none]) (And.intro rfl (And.intro rfl (And.intro rfl (And.intro rfl (And.intro rfl (And.intro rfl (And.intro rfl trivial))))))) ?_
                exact ih x0 x1 x2 x3 x4 x5 (x6 + (1 : Int32)) m27
        · refine j_iload h dX3_valueOf_41 rfl ?_
          refine j_aload_n h dX3_valueOf_43 rfl ?_
          refine gC3_13 h hg1 dX3_valueOf_44 ?_
          refine j_alen (q0 := (x0 + 2)) (v := (30 : Int32)) h (at_Fm2 hg1) rfl dX3_valueOf_47 ?_
          refine j_icmp_ge (tgt := 74) h dX3_valueOf_48 (by decide) (fun c28 => ?_) (fun c28 => ?_)
          · refine j_iload h dX3_valueOf_74 rfl ?_
            refine j_bipush (v := (-5 : Int32)) h dX3_valueOf_76 kbipush_m5 ?_
            refine j_icmp_ne (tgt := 116) h dX3_valueOf_78 (by decide) (fun c29 => ?_) (fun c29 => ?_)
            · refine j_iload h dX3_valueOf_116 rfl ?_
              refine j_bipush (v := (-5 : Int32)) h dX3_valueOf_118 kbipush_m5 ?_
              refine j_icmp_ge (tgt := 162) h dX3_valueOf_120 (by decide) (fun c30 => ?_) (fun c30 => ?_)
              · refine j_iinc (v := (x6 + (1 : Int32))) h dX3_valueOf_162 rfl (by rw [kiconst_1]) rfl ?_
                refine j_goto (tgt := 6) h dX3_valueOf_165 (by decide) ?_
                refine j_wk (ls' := [some (.ref (G.2.2 x0)), some (.int x1), some (.int x2), some (.int x3), some (.int x4), some (.int x5), some (.int (x6 + (1 : Int32))), none]) (And.intro rfl (And.intro rfl (And.intro rfl (And.intro rfl (And.intro rfl (And.intro rfl (And.intro rfl trivial))))))) ?_
                exact ih x0 x1 x2 x3 x4 x5 (x6 + (1 : Int32)) m
              · refine j_iload h dX3_valueOf_123 rfl ?_
                refine j_iconst (v := (2 : Int32)) h dX3_valueOf_125 kiconst_2 ?_
                refine j_icmp_lt (tgt := 162) h dX3_valueOf_126 (by decide) (fun c31 => ?_) (fun c31 => ?_)
                · refine j_iinc (v := (x6 + (1 : Int32))) h dX3_valueOf_162 rfl (by rw [kiconst_1]) rfl ?_
                  refine j_goto (tgt := 6) h dX3_valueOf_165 (by decide) ?_
                  refine j_wk (ls' := [some (.ref (G.2.2 x0)), some (.int x1), some (.int x2), some (.int x3), some (.int x4), some (.int x5), some (.int (x6 + (1 : Int32))), none]) (And.intro rfl (And.intro rfl (And.intro rfl (And.intro rfl (And.intro rfl (And.intro rfl (And.intro rfl trivial))))))) ?_
                  exact ih x0 x1 x2 x3 x4 x5 (x6 + (1 : Int32)) m
                · refine j_iinc (v := (x5 + (-1 : Int32))) h dX3_valueOf_129 rfl (by rw [kiconst_m1]) rfl ?_
                  refine j_aload_n h dX3_valueOf_132 rfl ?_
                  refine gC3_13 h hg1 dX3_valueOf_133 ?_
                  refine j_iload h dX3_valueOf_136 rfl ?_
                  refine j_iconst (v := (1 : Int32)) h dX3_valueOf_138 kiconst_1 ?_
                  refine j_isub h dX3_valueOf_139 ?_
                  refine j_iload h dX3_valueOf_140 rfl ?_
                  refine j_aload_n h dX3_valueOf_142 rfl ?_
                  refine gC3_13 h hg1 dX3_valueOf_143 ?_
                  refine j_iload h dX3_valueOf_146 rfl ?_
                  refine j_iconst (v := (1 : Int32)) h dX3_valueOf_148 kiconst_1 ?_
                  refine j_isub h dX3_valueOf_149 ?_
                  refine aC_Fm2 h hg1 dX3_valueOf_150 (fun v32 hv32 => ?_)
                  refine j_aload_n h dX3_valueOf_151 rfl ?_
                  refine gC3_13 h hg1 dX3_valueOf_152 ?_
                  refine j_iload h dX3_valueOf_155 rfl ?_
                  refine aC_Fm2 h hg1 dX3_valueOf_157 (fun v33 hv33 => ?_)
                  refine j_callSP h [.int v6, .int v32, .int v33] (kX3_join _ G h.2.2.2.2.2.2.2.2.2.2 m v6 v32 v33) okX3_join stX3_join ml3_28 rfl rfl (by decide) (by decide) (Nat.le_of_ble_eq_true rfl) rfl dX3_valueOf_158 (fun r34 hr34 => ?_)
                  refine bC_Fm2 h hg1 dX3_valueOf_161 (fun m36 hm36 => ?_)
                  refine j_iinc (v := (x6 + (1 : Int32))) h dX3_valueOf_162 rfl (by rw [kiconst_1]) rfl ?_
                  refine j_goto (tgt := 6) h dX3_valueOf_165 (by decide) ?_
                  refine j_wk (ls' := [some (.ref (G.2.2 x0)), some (.int x1), some (.int x2), some (.int x3), some (.int x4), some (.int (x5 + (-1 : Int32))), some (.int (x6 + (1 : Int32))), none]) (And.intro rfl (And.intro rfl (And.intro rfl (And.intro rfl (And.intro rfl (And.intro rfl (And.intro rfl trivial))))))) ?_
                  exact ih x0 x1 x2 x3 x4 (x5 + (-1 : Int32)) (x6 + (1 : Int32)) m36
            · refine j_iload h dX3_valueOf_81 rfl ?_
              refine j_iconst (v := (1 : Int32)) h dX3_valueOf_83 kiconst_1 ?_
              refine j_icmp_lt (tgt := 116) h dX3_valueOf_84 (by decide) (fun c37 => ?_) (fun c37 => ?_)
              · refine j_iload h dX3_valueOf_116 rfl ?_
                refine j_bipush (v := (-5 : Int32)) h dX3_valueOf_118 kbipush_m5 ?_
                refine j_icmp_ge (tgt := 162) h dX3_valueOf_120 (by decide) (fun c38 => ?_) (fun c38 => ?_)
                · refine j_iinc (v := (x6 + (1 : Int32))) h dX3_valueOf_162 rfl (by rw [kiconst_1]) rfl ?_
                  refine j_goto (tgt := 6) h dX3_valueOf_165 (by decide) ?_
                  refine j_wk (ls' := [some (.ref (G.2.2 x0)), some (.int x1), some (.int x2), some (.int x3), some (.int x4), some (.int x5), some (.int (x6 + (1 : Int32))), none]) (And.intro rfl (And.intro rfl (And.intro rfl (And.intro rfl (And.intro rfl (And.intro rfl (And.intro rfl trivial))))))) ?_
                  exact ih x0 x1 x2 x3 x4 x5 (x6 + (1 : Int32)) m
                · refine j_iload h dX3_valueOf_123 rfl ?_
                  refine j_iconst (v := (2 : Int32)) h dX3_valueOf_125 kiconst_2 ?_
                  refine j_icmp_lt (tgt := 162) h dX3_valueOf_126 (by decide) (fun c39 => ?_) (fun c39 => ?_)
                  · refine j_iinc (v := (x6 + (1 : Int32))) h dX3_valueOf_162 rfl (by rw [kiconst_1]) rfl ?_
                    refine j_goto (tgt := 6) h dX3_valueOf_165 (by decide) ?_
                    refine j_wk (ls' := [some (.ref (G.2.2 x0)), some (.int x1), some (.int x2), some (.int x3), some (.int x4), some (.int x5), some (.int (x6 + (1 : Int32))), none]) (And.intro rfl (And.intro rfl (And.intro rfl (And.intro rfl (And.intro rfl (And.intro rfl (And.intro rfl trivial))))))) ?_
                    exact ih x0 x1 x2 x3 x4 x5 (x6 + (1 : Int32)) m
                  · refine j_iinc (v := (x5 + (-1 : Int32))) h dX3_valueOf_129 rfl (by rw [kiconst_m1]) rfl ?_
                    refine j_aload_n h dX3_valueOf_132 rfl ?_
                    refine gC3_13 h hg1 dX3_valueOf_133 ?_
                    refine j_iload h dX3_valueOf_136 rfl ?_
                    refine j_iconst (v := (1 : Int32)) h dX3_valueOf_138 kiconst_1 ?_
                    refine j_isub h dX3_valueOf_139 ?_
                    refine j_iload h dX3_valueOf_140 rfl ?_
                    refine j_aload_n h dX3_valueOf_142 rfl ?_
                    refine gC3_13 h hg1 dX3_valueOf_143 ?_
                    refine j_iload h dX3_valueOf_146 rfl ?_
                    refine j_iconst (v := (1 : Int32)) h dX3_valueOf_148 kiconst_1 ?_
                    refine j_isub h dX3_valueOf_149 ?_
                    refine aC_Fm2 h hg1 dX3_valueOf_150 (fun v40 hv40 => ?_)
                    refine j_aload_n h dX3_valueOf_151 rfl ?_
                    refine gC3_13 h hg1 dX3_valueOf_152 ?_
                    refine j_iload h dX3_valueOf_155 rfl ?_
                    refine aC_Fm2 h hg1 dX3_valueOf_157 (fun v41 hv41 => ?_)
                    refine j_callSP h [.int v6, .int v40, .int v41] (kX3_join _ G h.2.2.2.2.2.2.2.2.2.2 m v6 v40 v41) okX3_join stX3_join ml3_28 rfl rfl (by decide) (by decide) (Nat.le_of_ble_eq_true rfl) rfl dX3_valueOf_158 (fun r42 hr42 => ?_)
                    refine bC_Fm2 h hg1 dX3_valueOf_161 (fun m44 hm44 => ?_)
                    refine j_iinc (v := (x6 + (1 : Int32))) h dX3_valueOf_162 rfl (by rw [kiconst_1]) rfl ?_
                    refine j_goto (tgt := 6) h dX3_valueOf_165 (by decide) ?_
                    refine j_wk (ls' := [some (.ref (G.2.2 x0)), some (.int x1), some (.int x2), some (.int x3), some (.int x4), some (.int (x5 + (-1 : Int32))), some (.int (x6 + (1 : Int32))), none]) (And.intro rfl (And.intro rfl (And.intro rfl (And.intro rfl (And.intro rfl (And.intro rfl (And.intro rfl trivial))))))) ?_
                    exact ih x0 x1 x2 x3 x4 (x5 + (-1 : Int32)) (x6 + (1 : Int32)) m44
              · refine j_aload_n h dX3_valueOf_87 rfl ?_
                refine gC3_13 h hg1 dX3_valueOf_88 ?_
                refine j_iload h dX3_valueOf_91 rfl ?_
                refine j_iconst (v := (1 : Int32)) h dX3_valueOf_93 kiconst_1 ?_
                refine j_isub h dX3_valueOf_94 ?_
                refine j_aload_n h dX3_valueOf_95 rfl ?_
                refine gC3_13 h hg1 dX3_valueOf_96 ?_
                refine j_iload h dX3_valueOf_99 rfl ?_
                refine j_iconst (v := (1 : Int32)) h dX3_valueOf_101 kiconst_1 ?_
                refine j_isub h dX3_valueOf_102 ?_
                refine aC_Fm2 h hg1 dX3_valueOf_103 (fun v45 hv45 => ?_)
                refine j_if_ne (tgt := 111) h dX3_valueOf_104 (by decide) (fun c46 => ?_) (fun c46 => ?_)
                · refine j_iconst (v := (0 : Int32)) h dX3_valueOf_111 kiconst_0 ?_
                  refine bC_Fm2 h hg1 dX3_valueOf_112 (fun m47 hm47 => ?_)
                  refine j_goto (tgt := 162) h dX3_valueOf_113 (by decide) ?_
                  refine j_iinc (v := (x6 + (1 : Int32))) h dX3_valueOf_162 rfl (by rw [kiconst_1]) rfl ?_
                  refine j_goto (tgt := 6) h dX3_valueOf_165 (by decide) ?_
                  refine j_wk (ls' := [some (.ref (G.2.2 x0)), some (.int x1), some (.int x2), some (.int x3), some (.int x4), some (.int x5), some (.int (x6 + (1 : Int32))), none]) (And.intro rfl (And.intro rfl (And.intro rfl (And.intro rfl (And.intro rfl (And.intro rfl (And.intro rfl trivial))))))) ?_
                  exact ih x0 x1 x2 x3 x4 x5 (x6 + (1 : Int32)) m47
                · refine j_iconst (v := (1 : Int32)) h dX3_valueOf_107 kiconst_1 ?_
                  refine j_goto (tgt := 112) h dX3_valueOf_108 (by decide) ?_
                  refine bC_Fm2 h hg1 dX3_valueOf_112 (fun m48 hm48 => ?_)
                  refine j_goto (tgt := 162) h dX3_valueOf_113 (by decide) ?_
                  refine j_iinc (v := (x6 + (1 : Int32))) h dX3_valueOf_162 rfl (by rw [kiconst_1]) rfl ?_
                  refine j_goto (tgt := 6) h dX3_valueOf_165 (by decide) ?_
                  refine j_wk (ls' := [some (.ref (G.2.2 x0)), some (.int x1), some (.int x2), some (.int x3), some (.int x4), some (.int x5), some (.int (x6 + (1 : Int32))), none]) (And.intro rfl (And.intro rfl (And.intro rfl (And.intro rfl (And.intro rfl (And.intro rfl (And.intro rfl trivial))))))) ?_
                  exact ih x0 x1 x2 x3 x4 x5 (x6 + (1 : Int32)) m48
          · refine j_aload_n h dX3_valueOf_51 rfl ?_
            refine gC3_13 h hg1 dX3_valueOf_52 ?_
            refine j_iload h dX3_valueOf_55 rfl ?_
            refine j_iload h dX3_valueOf_57 rfl ?_
            refine j_iload_n h dX3_valueOf_59 rfl ?_
            refine j_iload_n h dX3_valueOf_60 rfl ?_
            refine j_iload_n h dX3_valueOf_61 rfl ?_
            refine j_iload h dX3_valueOf_62 rfl ?_
            refine j_callSP h [.int v6, .int x1, .int x2, .int x3, .int x4] (kX3_leafOf _ G h.2.2.2.2.2.2.2.2.2.2 m v6 x1 x2 x3 x4) okX3_leafOf stX3_leafOf ml3_24 rfl rfl (by decide) (by decide) (Nat.le_of_ble_eq_true rfl) rfl dX3_valueOf_64 (fun r49 hr49 => ?_)
            refine bC_Fm2 h hg1 dX3_valueOf_67 (fun m51 hm51 => ?_)
            refine j_iinc (v := (x5 + (1 : Int32))) h dX3_valueOf_68 rfl (by rw [kiconst_1]) rfl ?_
            refine j_goto (tgt := 162) h dX3_valueOf_71 (by decide) ?_
            refine j_iinc (v := (x6 + (1 : Int32))) h dX3_valueOf_162 rfl (by rw [kiconst_1]) rfl ?_
            refine j_goto (tgt := 6) h dX3_valueOf_165 (by decide) ?_
            refine j_wk (ls' := [some (.ref (G.2.2 x0)), some (.int x1), some (.int x2), some (.int x3), some (.int x4), some (.int (x5 + (1 : Int32))), some (.int (x6 + (1 : Int32))), none]) (And.intro rfl (And.intro rfl (And.intro rfl (And.intro rfl (And.intro rfl (And.intro rfl (And.intro rfl trivial))))))) ?_
            exact ih x0 x1 x2 x3 x4 (x5 + (1 : Int32)) (x6 + (1 : Int32)) m51
set_option maxHeartbeats 4000000 in
set_option maxRecDepth 100000 in
theorem kX3_valueOf (l : Launch) (G : Gt) (hD : ∀ m, va_D (inA G nC) (wC G m)) (m : Mem) (x0 : Nat) (x1 : Int32) (x2 : Int32) (x3 : Int32) (x4 : Int32) : ∀ a, fX3_valueOf m x0 x1 x2 x3 x4 = some a → Ct l G wC nC yX3_valueOf cX3_valueOf 8 (some .int) 2 [.ref (G.2.2 x0), .int x1, .int x2, .int x3, .int x4] m (cvI a) := by
  refine ct_of (own := RX3) (ls0 := [some (.ref (G.2.2 x0)), some (.int x1), some (.int x2), some (.int x3), some (.int x4), none, none, none]) (by decide) rfl rfl rfl (Nat.le_of_ble_eq_true rfl) hD (fun X h => ?_) l
  unfold fX3_valueOf
  refine j_iconst (v := (0 : Int32)) h dX3_valueOf_0 kiconst_0 ?_
  refine j_istore h dX3_valueOf_1 rfl rfl ?_
  refine j_iconst (v := (0 : Int32)) h dX3_valueOf_3 kiconst_0 ?_
  refine j_istore h dX3_valueOf_4 rfl rfl ?_
  refine j_wk (ls' := [some (.ref (G.2.2 x0)), some (.int x1), some (.int x2), some (.int x3), some (.int x4), some (.int (0 : Int32)), some (.int (0 : Int32)), none]) (And.intro rfl (And.intro rfl (And.intro rfl (And.intro rfl (And.intro rfl (And.intro rfl (And.intro rfl trivial))))))) ?_
  exact (wX3_valueOf h 5000) x0 x1 x2 x3 x4 (0 : Int32) (0 : Int32) m
