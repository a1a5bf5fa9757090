theorem dX11_hour_0 : DD cX11_hour 0 (.aload_n 0) 1 1 := ⟨by decide +kernel, rfl⟩
theorem dX11_hour_1 : DD cX11_hour 1 (.getfield 28) 3 4 := ⟨by decide +kernel, rfl⟩
theorem dX11_hour_4 : DD cX11_hour 4 (.invokevirtual 208) 3 7 := ⟨by decide +kernel, rfl⟩
theorem dX11_hour_7 : DD cX11_hour 7 (.istore_n 1) 1 8 := ⟨by decide +kernel, rfl⟩
theorem dX11_hour_8 : DD cX11_hour 8 (.aload_n 0) 1 9 := ⟨by decide +kernel, rfl⟩
theorem dX11_hour_9 : DD cX11_hour 9 (.getfield 35) 3 12 := ⟨by decide +kernel, rfl⟩
theorem dX11_hour_12 : DD cX11_hour 12 (.aload_n 0) 1 13 := ⟨by decide +kernel, rfl⟩
theorem dX11_hour_13 : DD cX11_hour 13 (.getfield 28) 3 16 := ⟨by decide +kernel, rfl⟩
theorem dX11_hour_16 : DD cX11_hour 16 (.getfield 64) 3 19 := ⟨by decide +kernel, rfl⟩
theorem dX11_hour_19 : DD cX11_hour 19 (.invokevirtual 202) 3 22 := ⟨by decide +kernel, rfl⟩
theorem dX11_hour_22 : DD cX11_hour 22 (.iload_n 1) 1 23 := ⟨by decide +kernel, rfl⟩
theorem dX11_hour_23 : DD cX11_hour 23 (.ireturn) 1 24 := ⟨by decide +kernel, rfl⟩
def fX11_hour (m : Mem) : Option (Int32 × Mem) := (cI (fX9_passHour m) fun r1 m2 => (cV (fX0_keep m2) fun m4 => (some (r1, m4))))
set_option maxHeartbeats 4000000 in
set_option maxRecDepth 100000 in
theorem kX11_hour (l : Launch) (G : Gt) (hD : ∀ m, va_D (inA G nC) (wC G m)) (m : Mem) : ∀ a, fX11_hour m = some a → Ct l G wC nC yX11_hour cX11_hour 2 (some .int) 7 [.ref (G.2.2 0)] m (cvI a) := by
  refine ct_of (own := RX11) (ls0 := [some (.ref (G.2.2 0)), none]) (by decide) rfl rfl rfl (Nat.le_of_ble_eq_true rfl) hD (fun X h => ?_) l
  unfold fX11_hour
  refine j_aload_n h dX11_hour_0 rfl ?_
  refine gC11_28 h dX11_hour_1 ?_
  refine j_callVI (q0 := 26) (ci := 9) h [] (kX9_passHour _ G h.2.2.2.2.2.2.2.2.2.2 m) okX9_passHour inX9_passHour ml11_208 rfl rfl rfl rfl (by decide) (by decide) (Nat.le_of_ble_eq_true rfl) rfl dX11_hour_4 (fun r1 m2 hr1 => ?_)
  refine j_istore_n h dX11_hour_7 rfl rfl ?_
  refine j_aload_n h dX11_hour_8 rfl ?_
  refine gC11_35 h dX11_hour_9 ?_
  refine j_aload_n h dX11_hour_12 rfl ?_
  refine gC11_28 h dX11_hour_13 ?_
  refine gC11_64 h dX11_hour_16 ?_
  refine j_callVV (q0 := 56) (ci := 0) h [.ref (G.2.2 27)] (kX0_keep _ G h.2.2.2.2.2.2.2.2.2.2 m2) okX0_keep inX0_keep ml11_202 rfl rfl rfl rfl (by decide) (by decide) (Nat.le_of_ble_eq_true rfl) rfl dX11_hour_19 (fun m4 hm4 => ?_)
  refine j_iload_n h dX11_hour_22 rfl ?_
  exact j_iret h rfl dX11_hour_23
theorem dX11_undo_0 : DD cX11_undo 0 (.aload_n 0) 1 1 := ⟨by decide +kernel, rfl⟩
theorem dX11_undo_1 : DD cX11_undo 1 (.getfield 35) 3 4 := ⟨by decide +kernel, rfl⟩
theorem dX11_undo_4 : DD cX11_undo 4 (.aload_n 0) 1 5 := ⟨by decide +kernel, rfl⟩
theorem dX11_undo_5 : DD cX11_undo 5 (.getfield 28) 3 8 := ⟨by decide +kernel, rfl⟩
theorem dX11_undo_8 : DD cX11_undo 8 (.getfield 64) 3 11 := ⟨by decide +kernel, rfl⟩
theorem dX11_undo_11 : DD cX11_undo 11 (.invokevirtual 212) 3 14 := ⟨by decide +kernel, rfl⟩
theorem dX11_undo_14 : DD cX11_undo 14 (.ireturn) 1 15 := ⟨by decide +kernel, rfl⟩
def fX11_undo (m : Mem) : Option (Int32 × Mem) := (cI (fX0_stepBack m) fun r1 m2 => (tz r1 (some (r1, m2))))
set_option maxHeartbeats 4000000 in
set_option maxRecDepth 100000 in
theorem kX11_undo (l : Launch) (G : Gt) (hD : ∀ m, va_D (inA G nC) (wC G m)) (m : Mem) : ∀ a, fX11_undo m = some a → Ct l G wC nC yX11_undo cX11_undo 1 (some .boolean) 4 [.ref (G.2.2 0)] m (cvI a) := by
  refine ct_of (own := RX11) (ls0 := [some (.ref (G.2.2 0))]) (by decide) rfl rfl rfl (Nat.le_of_ble_eq_true rfl) hD (fun X h => ?_) l
  unfold fX11_undo
  refine j_aload_n h dX11_undo_0 rfl ?_
  refine gC11_35 h dX11_undo_1 ?_
  refine j_aload_n h dX11_undo_4 rfl ?_
  refine gC11_28 h dX11_undo_5 ?_
  refine gC11_64 h dX11_undo_8 ?_
  refine j_callVI (q0 := 56) (ci := 0) h [.ref (G.2.2 27)] (kX0_stepBack _ G h.2.2.2.2.2.2.2.2.2.2 m) okX0_stepBack inX0_stepBack ml11_212 rfl rfl rfl rfl (by decide) (by decide) (Nat.le_of_ble_eq_true rfl) rfl dX11_undo_11 (fun r1 m2 hr1 => ?_)
  exact j_zret h rfl dX11_undo_14
theorem dX11_redo_0 : DD cX11_redo 0 (.aload_n 0) 1 1 := ⟨by decide +kernel, rfl⟩
theorem dX11_redo_1 : DD cX11_redo 1 (.getfield 35) 3 4 := ⟨by decide +kernel, rfl⟩
theorem dX11_redo_4 : DD cX11_redo 4 (.aload_n 0) 1 5 := ⟨by decide +kernel, rfl⟩
theorem dX11_redo_5 : DD cX11_redo 5 (.getfield 28) 3 8 := ⟨by decide +kernel, rfl⟩
theorem dX11_redo_8 : DD cX11_redo 8 (.getfield 64) 3 11 := ⟨by decide +kernel, rfl⟩
theorem dX11_redo_11 : DD cX11_redo 11 (.invokevirtual 216) 3 14 := ⟨by decide +kernel, rfl⟩
theorem dX11_redo_14 : DD cX11_redo 14 (.ireturn) 1 15 := ⟨by decide +kernel, rfl⟩
def fX11_redo (m : Mem) : Option (Int32 × Mem) := (cI (fX0_stepOn m) fun r1 m2 => (tz r1 (some (r1, m2))))
set_option maxHeartbeats 4000000 in
set_option maxRecDepth 100000 in
theorem kX11_redo (l : Launch) (G : Gt) (hD : ∀ m, va_D (inA G nC) (wC G m)) (m : Mem) : ∀ a, fX11_redo m = some a → Ct l G wC nC yX11_redo cX11_redo 1 (some .boolean) 4 [.ref (G.2.2 0)] m (cvI a) := by
  refine ct_of (own := RX11) (ls0 := [some (.ref (G.2.2 0))]) (by decide) rfl rfl rfl (Nat.le_of_ble_eq_true rfl) hD (fun X h => ?_) l
  unfold fX11_redo
  refine j_aload_n h dX11_redo_0 rfl ?_
  refine gC11_35 h dX11_redo_1 ?_
  refine j_aload_n h dX11_redo_4 rfl ?_
  refine gC11_28 h dX11_redo_5 ?_
  refine gC11_64 h dX11_redo_8 ?_
  refine j_callVI (q0 := 56) (ci := 0) h [.ref (G.2.2 27)] (kX0_stepOn _ G h.2.2.2.2.2.2.2.2.2.2 m) okX0_stepOn inX0_stepOn ml11_216 rfl rfl rfl rfl (by decide) (by decide) (Nat.le_of_ble_eq_true rfl) rfl dX11_redo_11 (fun r1 m2 hr1 => ?_)
  exact j_zret h rfl dX11_redo_14
theorem dX11_common_0 : DD cX11_common 0 (.aload_n 0) 1 1 := ⟨by decide +kernel, rfl⟩
theorem dX11_common_1 : DD cX11_common 1 (.getfield 28) 3 4 := ⟨by decide +kernel, rfl⟩
theorem dX11_common_4 : DD cX11_common 4 (.iload_n 1) 1 5 := ⟨by decide +kernel, rfl⟩
theorem dX11_common_5 : DD cX11_common 5 (.invokevirtual 113) 3 8 := ⟨by decide +kernel, rfl⟩
theorem dX11_common_8 : DD cX11_common 8 (.ifCond .eq 25) 3 11 := ⟨by decide +kernel, rfl⟩
theorem dX11_common_11 : DD cX11_common 11 (.aload_n 0) 1 12 := ⟨by decide +kernel, rfl⟩
theorem dX11_common_12 : DD cX11_common 12 (.getfield 28) 3 15 := ⟨by decide +kernel, rfl⟩
theorem dX11_common_15 : DD cX11_common 15 (.iload_n 2) 1 16 := ⟨by decide +kernel, rfl⟩
theorem dX11_common_16 : DD cX11_common 16 (.invokevirtual 113) 3 19 := ⟨by decide +kernel, rfl⟩
theorem dX11_common_19 : DD cX11_common 19 (.ifCond .eq 14) 3 22 := ⟨by decide +kernel, rfl⟩
theorem dX11_common_22 : DD cX11_common 22 (.iload_n 3) 1 23 := ⟨by decide +kernel, rfl⟩
theorem dX11_common_23 : DD cX11_common 23 (.invokestatic 173) 3 26 := ⟨by decide +kernel, rfl⟩
theorem dX11_common_26 : DD cX11_common 26 (.ifCond .eq 7) 3 29 := ⟨by decide +kernel, rfl⟩
theorem dX11_common_29 : DD cX11_common 29 (.iconst 1) 1 30 := ⟨by decide +kernel, rfl⟩
theorem dX11_common_30 : DD cX11_common 30 (.goto 4) 3 33 := ⟨by decide +kernel, rfl⟩
theorem dX11_common_33 : DD cX11_common 33 (.iconst 0) 1 34 := ⟨by decide +kernel, rfl⟩
theorem dX11_common_34 : DD cX11_common 34 (.istore 4) 2 36 := ⟨by decide +kernel, rfl⟩
theorem dX11_common_36 : DD cX11_common 36 (.iload 4) 2 38 := ⟨by decide +kernel, rfl⟩
theorem dX11_common_38 : DD cX11_common 38 (.ifCond .eq 23) 3 41 := ⟨by decide +kernel, rfl⟩
theorem dX11_common_41 : DD cX11_common 41 (.aload_n 0) 1 42 := ⟨by decide +kernel, rfl⟩
theorem dX11_common_42 : DD cX11_common 42 (.getfield 28) 3 45 := ⟨by decide +kernel, rfl⟩
theorem dX11_common_45 : DD cX11_common 45 (.iload_n 1) 1 46 := ⟨by decide +kernel, rfl⟩
theorem dX11_common_46 : DD cX11_common 46 (.iload_n 2) 1 47 := ⟨by decide +kernel, rfl⟩
theorem dX11_common_47 : DD cX11_common 47 (.aload_n 0) 1 48 := ⟨by decide +kernel, rfl⟩
theorem dX11_common_48 : DD cX11_common 48 (.getfield 28) 3 51 := ⟨by decide +kernel, rfl⟩
theorem dX11_common_51 : DD cX11_common 51 (.iload_n 3) 1 52 := ⟨by decide +kernel, rfl⟩
theorem dX11_common_52 : DD cX11_common 52 (.invokevirtual 176) 3 55 := ⟨by decide +kernel, rfl⟩
theorem dX11_common_55 : DD cX11_common 55 (.invokevirtual 219) 3 58 := ⟨by decide +kernel, rfl⟩
theorem dX11_common_58 : DD cX11_common 58 (.goto 4) 3 61 := ⟨by decide +kernel, rfl⟩
theorem dX11_common_61 : DD cX11_common 61 (.iconst (-1)) 1 62 := ⟨by decide +kernel, rfl⟩
theorem dX11_common_62 : DD cX11_common 62 (.ireturn) 1 63 := ⟨by decide +kernel, rfl⟩
def fX11_common (m : Mem) (x1 : Int32) (x2 : Int32) (x3 : Int32) : Option (Int32 × Mem) := (cP (fX9_hasPerson m x1) fun r1 => (if r1 = 0 then (some ((-1 : Int32), m)) else (cP (fX9_hasPerson m x2) fun r4 => (if r4 = 0 then (some ((-1 : Int32), m)) else (cP (fX11_isDate x3) fun r7 => (if r7 = 0 then (some ((-1 : Int32), m)) else (cR (fX9_dayOf m x3) fun r10 m11 => (gEq r10 53 (cP (fX9_hoursTogether m11 x1 x2) fun r13 => (some (r13, m11)))))))))))
set_option maxHeartbeats 4000000 in
set_option maxRecDepth 100000 in
theorem kX11_common (l : Launch) (G : Gt) (hD : ∀ m, va_D (inA G nC) (wC G m)) (m : Mem) (x1 : Int32) (x2 : Int32) (x3 : Int32) : ∀ a, fX11_common m x1 x2 x3 = some a → Ct l G wC nC yX11_common cX11_common 5 (some .int) 5 [.ref (G.2.2 0), .int x1, .int x2, .int x3] m (cvI a) := by
  refine ct_of (own := RX11) (ls0 := [some (.ref (G.2.2 0)), some (.int x1), some (.int x2), some (.int x3), none]) (by decide) rfl rfl rfl (Nat.le_of_ble_eq_true rfl) hD (fun X h => ?_) l
  unfold fX11_common
  refine j_aload_n h dX11_common_0 rfl ?_
  refine gC11_28 h dX11_common_1 ?_
  refine j_iload_n h dX11_common_4 rfl ?_
  refine j_callVP (q0 := 26) (ci := 9) h [.int x1] (kX9_hasPerson _ G h.2.2.2.2.2.2.2.2.2.2 m x1) okX9_hasPerson inX9_hasPerson ml11_113 rfl rfl rfl rfl (by decide) (by decide) (Nat.le_of_ble_eq_true rfl) rfl dX11_common_5 (fun r1 hr1 => ?_)
  refine j_if_eq (tgt := 33) h dX11_common_8 (by decide) (fun c3 => ?_) (fun c3 => ?_)
  · refine j_iconst (v := (0 : Int32)) h dX11_common_33 kiconst_0 ?_
    refine j_istore h dX11_common_34 rfl rfl ?_
    refine j_iload h dX11_common_36 rfl ?_
    refine j_if_eqB (tgt := 61) h dX11_common_38 (by decide) (fun _ => ?_) (fun cc => absurd (by decide) cc)
    refine j_iconst (v := (-1 : Int32)) h dX11_common_61 kiconst_m1 ?_
    exact j_iret h rfl dX11_common_62
  · refine j_aload_n h dX11_common_11 rfl ?_
    refine gC11_28 h dX11_common_12 ?_
    refine j_iload_n h dX11_common_15 rfl ?_
    refine j_callVP (q0 := 26) (ci := 9) h [.int x2] (kX9_hasPerson _ G h.2.2.2.2.2.2.2.2.2.2 m x2) okX9_hasPerson inX9_hasPerson ml11_113 rfl rfl rfl rfl (by decide) (by decide) (Nat.le_of_ble_eq_true rfl) rfl dX11_common_16 (fun r4 hr4 => ?_)
    refine j_if_eq (tgt := 33) h dX11_common_19 (by decide) (fun c6 => ?_) (fun c6 => ?_)
    · refine j_iconst (v := (0 : Int32)) h dX11_common_33 kiconst_0 ?_
      refine j_istore h dX11_common_34 rfl rfl ?_
      refine j_iload h dX11_common_36 rfl ?_
      refine j_if_eqB (tgt := 61) h dX11_common_38 (by decide) (fun _ => ?_) (fun cc => absurd (by decide) cc)
      refine j_iconst (v := (-1 : Int32)) h dX11_common_61 kiconst_m1 ?_
      exact j_iret h rfl dX11_common_62
    · refine j_iload_n h dX11_common_22 rfl ?_
      refine j_callSP h [.int x3] (kX11_isDate _ G h.2.2.2.2.2.2.2.2.2.2 m x3) okX11_isDate stX11_isDate ml11_173 rfl rfl (by decide) (by decide) (Nat.le_of_ble_eq_true rfl) rfl dX11_common_23 (fun r7 hr7 => ?_)
      refine j_if_eq (tgt := 33) h dX11_common_26 (by decide) (fun c9 => ?_) (fun c9 => ?_)
      · refine j_iconst (v := (0 : Int32)) h dX11_common_33 kiconst_0 ?_
        refine j_istore h dX11_common_34 rfl rfl ?_
        refine j_iload h dX11_common_36 rfl ?_
        refine j_if_eqB (tgt := 61) h dX11_common_38 (by decide) (fun _ => ?_) (fun cc => absurd (by decide) cc)
        refine j_iconst (v := (-1 : Int32)) h dX11_common_61 kiconst_m1 ?_
        exact j_iret h rfl dX11_common_62
      · refine j_iconst (v := (1 : Int32)) h dX11_common_29 kiconst_1 ?_
        refine j_goto (tgt := 34) h dX11_common_30 (by decide) ?_
        refine j_istore h dX11_common_34 rfl rfl ?_
        refine j_iload h dX11_common_36 rfl ?_
        refine j_if_eqB (tgt := 61) h dX11_common_38 (by decide) (fun cc => absurd cc (by decide)) (fun _ => ?_)
        refine j_aload_n h dX11_common_41 rfl ?_
        refine gC11_28 h dX11_common_42 ?_
        refine j_iload_n h dX11_common_45 rfl ?_
        refine j_iload_n h dX11_common_46 rfl ?_
        refine j_aload_n h dX11_common_47 rfl ?_
        refine gC11_28 h dX11_common_48 ?_
        refine j_iload_n h dX11_common_51 rfl ?_
        refine j_callVR (q0 := 26) (ci := 9) h [.int x3] (kX9_dayOf _ G h.2.2.2.2.2.2.2.2.2.2 m x3) okX9_dayOf inX9_dayOf ml11_176 rfl rfl rfl rfl (by decide) (by decide) (Nat.le_of_ble_eq_true rfl) rfl dX11_common_52 (fun r10 m11 hr10 => ?_)
        refine j_gEq (fun hg12 => ?_)
        subst hg12
        refine j_callVP (q0 := 26) (ci := 9) h [.int x1, .int x2, .ref (G.2.2 53)] (kX9_hoursTogether _ G h.2.2.2.2.2.2.2.2.2.2 m11 x1 x2) okX9_hoursTogether inX9_hoursTogether ml11_219 rfl rfl rfl rfl (by decide) (by decide) (Nat.le_of_ble_eq_true rfl) rfl dX11_common_55 (fun r13 hr13 => ?_)
        refine j_goto (tgt := 62) h dX11_common_58 (by decide) ?_
        exact j_iret h rfl dX11_common_62
theorem dX11_can_0 : DD cX11_can 0 (.iload_n 1) 1 1 := ⟨by decide +kernel, rfl⟩
theorem dX11_can_1 : DD cX11_can 1 (.invokestatic 173) 3 4 := ⟨by decide +kernel, rfl⟩
theorem dX11_can_4 : DD cX11_can 4 (.ifCond .ne 5) 3 7 := ⟨by decide +kernel, rfl⟩
theorem dX11_can_7 : DD cX11_can 7 (.iconst (-1)) 1 8 := ⟨by decide +kernel, rfl⟩
theorem dX11_can_8 : DD cX11_can 8 (.ireturn) 1 9 := ⟨by decide +kernel, rfl⟩
theorem dX11_can_9 : DD cX11_can 9 (.iconst 0) 1 10 := ⟨by decide +kernel, rfl⟩
theorem dX11_can_10 : DD cX11_can 10 (.istore_n 2) 1 11 := ⟨by decide +kernel, rfl⟩
theorem dX11_can_11 : DD cX11_can 11 (.iconst 0) 1 12 := ⟨by decide +kernel, rfl⟩
theorem dX11_can_12 : DD cX11_can 12 (.istore_n 3) 1 13 := ⟨by decide +kernel, rfl⟩
theorem dX11_can_13 : DD cX11_can 13 (.iload_n 3) 1 14 := ⟨by decide +kernel, rfl⟩
theorem dX11_can_14 : DD cX11_can 14 (.aload_n 0) 1 15 := ⟨by decide +kernel, rfl⟩
theorem dX11_can_15 : DD cX11_can 15 (.getfield 28) 3 18 := ⟨by decide +kernel, rfl⟩
theorem dX11_can_18 : DD cX11_can 18 (.getfield 84) 3 21 := ⟨by decide +kernel, rfl⟩
theorem dX11_can_21 : DD cX11_can 21 (.getfield 223) 3 24 := ⟨by decide +kernel, rfl⟩
theorem dX11_can_24 : DD cX11_can 24 (.if_icmp .ge 38) 3 27 := ⟨by decide +kernel, rfl⟩
theorem dX11_can_27 : DD cX11_can 27 (.iload_n 2) 1 28 := ⟨by decide +kernel, rfl⟩
theorem dX11_can_28 : DD cX11_can 28 (.aload_n 0) 1 29 := ⟨by decide +kernel, rfl⟩
theorem dX11_can_29 : DD cX11_can 29 (.getfield 28) 3 32 := ⟨by decide +kernel, rfl⟩
theorem dX11_can_32 : DD cX11_can 32 (.iload_n 3) 1 33 := ⟨by decide +kernel, rfl⟩
theorem dX11_can_33 : DD cX11_can 33 (.aload_n 0) 1 34 := ⟨by decide +kernel, rfl⟩
theorem dX11_can_34 : DD cX11_can 34 (.getfield 28) 3 37 := ⟨by decide +kernel, rfl⟩
theorem dX11_can_37 : DD cX11_can 37 (.iload_n 1) 1 38 := ⟨by decide +kernel, rfl⟩
theorem dX11_can_38 : DD cX11_can 38 (.invokevirtual 176) 3 41 := ⟨by decide +kernel, rfl⟩
theorem dX11_can_41 : DD cX11_can 41 (.invokevirtual 169) 3 44 := ⟨by decide +kernel, rfl⟩
theorem dX11_can_44 : DD cX11_can 44 (.ifCond .eq 9) 3 47 := ⟨by decide +kernel, rfl⟩
theorem dX11_can_47 : DD cX11_can 47 (.iconst 1) 1 48 := ⟨by decide +kernel, rfl⟩
theorem dX11_can_48 : DD cX11_can 48 (.iload_n 3) 1 49 := ⟨by decide +kernel, rfl⟩
theorem dX11_can_49 : DD cX11_can 49 (.ishl) 1 50 := ⟨by decide +kernel, rfl⟩
theorem dX11_can_50 : DD cX11_can 50 (.goto 4) 3 53 := ⟨by decide +kernel, rfl⟩
theorem dX11_can_53 : DD cX11_can 53 (.iconst 0) 1 54 := ⟨by decide +kernel, rfl⟩
theorem dX11_can_54 : DD cX11_can 54 (.ior) 1 55 := ⟨by decide +kernel, rfl⟩
theorem dX11_can_55 : DD cX11_can 55 (.istore_n 2) 1 56 := ⟨by decide +kernel, rfl⟩
theorem dX11_can_56 : DD cX11_can 56 (.iinc 3 1) 3 59 := ⟨by decide +kernel, rfl⟩
theorem dX11_can_59 : DD cX11_can 59 (.goto (-46)) 3 62 := ⟨by decide +kernel, rfl⟩
theorem dX11_can_62 : DD cX11_can 62 (.iload_n 2) 1 63 := ⟨by decide +kernel, rfl⟩
theorem dX11_can_63 : DD cX11_can 63 (.ireturn) 1 64 := ⟨by decide +kernel, rfl⟩
def gX11_can : Nat → Int32 → Int32 → Int32 → Mem → Option (Int32 × Mem)
  | 0, _, _, _, _ => none
  | f + 1, x1, x2, x3, m => (gPl (m.2.2 26 1) (if (m.1 (m.2.2 26 1) 5) ≤ x3 then (some (x2, m)) else (cR (fX9_dayOf m x1) fun r3 m4 => (gEq r3 53 (cP (fX9_canMeet m4 x3) fun r6 => (if r6 = 0 then (nm (x2 ||| (0 : Int32)) fun v9 => (gX11_can f x1 v9 (x3 + (1 : Int32)) m4)) else (nm (x2 ||| ((1 : Int32) <<< (x3 &&& 31))) fun v10 => (gX11_can f x1 v10 (x3 + (1 : Int32)) m4))))))))
def fX11_can (m : Mem) (x1 : Int32) : Option (Int32 × Mem) := (cP (fX11_isDate x1) fun r1 => (if r1 = 0 then (some ((-1 : Int32), m)) else (gX11_can 5000 x1 (0 : Int32) (0 : Int32) m)))
set_option maxHeartbeats 4000000 in
set_option maxRecDepth 100000 in
theorem wX11_can {X : Cx} {G : Gt} (h : OkX (X, G, wC, nC) cX11_can RX11 4 (some .int) 5) : ∀ f : Nat, (∀ (x1 : Int32) (x2 : Int32) (x3 : Int32) (m : Mem), JR (X, G, wC, nC) cvI m 13 [some (.ref (G.2.2 0)), some (.int x1), some (.int x2), some (.int x3)] [] (gX11_can f x1 x2 x3 m)) := by
  intro f
  induction f with
  | zero => exact (fun _ _ _ _ => j_none)
  | succ f ih =>
    intro x1 x2 x3 m
    rw [gX11_can]
    refine j_iload_n h dX11_can_13 rfl ?_
    refine j_aload_n h dX11_can_14 rfl ?_
    refine gC11_28 h dX11_can_15 ?_
    refine gC11_84 h dX11_can_18 ?_
    refine j_gPl (fun hg1 => ?_)
    refine gC11_223 h hg1 dX11_can_21 ?_
    refine j_icmp_ge (tgt := 62) h dX11_can_24 (by decide) (fun c2 => ?_) (fun c2 => ?_)
    · refine j_iload_n h dX11_can_62 rfl ?_
      exact j_iret h rfl dX11_can_63
    · refine j_iload_n h dX11_can_27 rfl ?_
      refine j_aload_n h dX11_can_28 rfl ?_
      refine gC11_28 h dX11_can_29 ?_
      refine j_iload_n h dX11_can_32 rfl ?_
      refine j_aload_n h dX11_can_33 rfl ?_
      refine gC11_28 h dX11_can_34 ?_
      refine j_iload_n h dX11_can_37 rfl ?_
      refine j_callVR (q0 := 26) (ci := 9) h [.int x1] (kX9_dayOf _ G h.2.2.2.2.2.2.2.2.2.2 m x1) okX9_dayOf inX9_dayOf ml11_176 rfl rfl rfl rfl (by decide) (by decide) (Nat.le_of_ble_eq_true rfl) rfl dX11_can_38 (fun r3 m4 hr3 => ?_)
      refine j_gEq (fun hg5 => ?_)
      subst hg5
      refine j_callVP (q0 := 26) (ci := 9) h [.int x3, .ref (G.2.2 53)] (kX9_canMeet _ G h.2.2.2.2.2.2.2.2.2.2 m4 x3) okX9_canMeet inX9_canMeet ml11_169 rfl rfl rfl rfl (by decide) (by decide) (Nat.le_of_ble_eq_true rfl) rfl dX11_can_41 (fun r6 hr6 => ?_)
      refine j_if_eq (tgt := 53) h dX11_can_44 (by decide) (fun c8 => ?_) (fun c8 => ?_)
      · refine j_iconst (v := (0 : Int32)) h dX11_can_53 kiconst_0 ?_
        refine j_ior h dX11_can_54 ?_
        refine j_nm (fun v9 hv9 => ?_)
        refine j_istore_n h dX11_can_55 rfl rfl ?_
        refine j_iinc (v := (x3 + (1 : Int32))) h dX11_can_56 rfl (by rw [kiconst_1]) rfl ?_
        refine j_goto (tgt := 13) h dX11_can_59 (by decide) ?_
        refine j_wk (ls' := [some (.ref (G.2.2 0)), some (.int x1), some (.int v9), some (.int (x3 + (1 : Int32)))]) (And.intro rfl (And.intro rfl (And.intro rfl (And.intro rfl trivial)))) ?_
        exact ih x1 v9 (x3 + (1 : Int32)) m4
      · refine j_iconst (v := (1 : Int32)) h dX11_can_47 kiconst_1 ?_
        refine j_iload_n h dX11_can_48 rfl ?_
        refine j_ishl h dX11_can_49 ?_
        refine j_goto (tgt := 54) h dX11_can_50 (by decide) ?_
        refine j_ior h dX11_can_54 ?_
        refine j_nm (fun v10 hv10 => ?_)
        refine j_istore_n h dX11_can_55 rfl rfl ?_
        refine j_iinc (v := (x3 + (1 : Int32))) h dX11_can_56 rfl (by rw [kiconst_1]) rfl ?_
        refine j_goto (tgt := 13) h dX11_can_59 (by decide) ?_
        refine j_wk (ls' := [some (.ref (G.2.2 0)), some (.int x1), some (.int v10), some (.int (x3 + (1 : Int32)))]) (And.intro rfl (And.intro rfl (And.intro rfl (And.intro rfl trivial)))) ?_
        exact ih x1 v10 (x3 + (1 : Int32)) m4
set_option maxHeartbeats 4000000 in
set_option maxRecDepth 100000 in
theorem kX11_can (l : Launch) (G : Gt) (hD : ∀ m, va_D (inA G nC) (wC G m)) (m : Mem) (x1 : Int32) : ∀ a, fX11_can m x1 = some a → Ct l G wC nC yX11_can cX11_can 4 (some .int) 5 [.ref (G.2.2 0), .int x1] m (cvI a) := by
  refine ct_of (own := RX11) (ls0 := [some (.ref (G.2.2 0)), some (.int x1), none, none]) (by decide) rfl rfl rfl (Nat.le_of_ble_eq_true rfl) hD (fun X h => ?_) l
  unfold fX11_can
  refine j_iload_n h dX11_can_0 rfl ?_
  refine j_callSP h [.int x1] (kX11_isDate _ G h.2.2.2.2.2.2.2.2.2.2 m x1) okX11_isDate stX11_isDate ml11_173 rfl rfl (by decide) (by decide) (Nat.le_of_ble_eq_true rfl) rfl dX11_can_1 (fun r1 hr1 => ?_)
  refine j_if_ne (tgt := 9) h dX11_can_4 (by decide) (fun c3 => ?_) (fun c3 => ?_)
  · refine j_iconst (v := (0 : Int32)) h dX11_can_9 kiconst_0 ?_
    refine j_istore_n h dX11_can_10 rfl rfl ?_
    refine j_iconst (v := (0 : Int32)) h dX11_can_11 kiconst_0 ?_
    refine j_istore_n h dX11_can_12 rfl rfl ?_
    refine j_wk (ls' := [some (.ref (G.2.2 0)), some (.int x1), some (.int (0 : Int32)), some (.int (0 : Int32))]) (And.intro rfl (And.intro rfl (And.intro rfl (And.intro rfl trivial)))) ?_
    exact (wX11_can h 5000) x1 (0 : Int32) (0 : Int32) m
  · refine j_iconst (v := (-1 : Int32)) h dX11_can_7 kiconst_m1 ?_
    exact j_iret h rfl dX11_can_8
theorem dX11_never_0 : DD cX11_never 0 (.aload_n 0) 1 1 := ⟨by decide +kernel, rfl⟩
theorem dX11_never_1 : DD cX11_never 1 (.getfield 28) 3 4 := ⟨by decide +kernel, rfl⟩
theorem dX11_never_4 : DD cX11_never 4 (.iload_n 1) 1 5 := ⟨by decide +kernel, rfl⟩
theorem dX11_never_5 : DD cX11_never 5 (.invokevirtual 148) 3 8 := ⟨by decide +kernel, rfl⟩
theorem dX11_never_8 : DD cX11_never 8 (.ifCond .ne 5) 3 11 := ⟨by decide +kernel, rfl⟩
theorem dX11_never_11 : DD cX11_never 11 (.iconst (-1)) 1 12 := ⟨by decide +kernel, rfl⟩
theorem dX11_never_12 : DD cX11_never 12 (.ireturn) 1 13 := ⟨by decide +kernel, rfl⟩
theorem dX11_never_13 : DD cX11_never 13 (.iconst 0) 1 14 := ⟨by decide +kernel, rfl⟩
theorem dX11_never_14 : DD cX11_never 14 (.istore_n 2) 1 15 := ⟨by decide +kernel, rfl⟩
theorem dX11_never_15 : DD cX11_never 15 (.iload_n 2) 1 16 := ⟨by decide +kernel, rfl⟩
theorem dX11_never_16 : DD cX11_never 16 (.sipush 365) 3 19 := ⟨by decide +kernel, rfl⟩
theorem dX11_never_19 : DD cX11_never 19 (.if_icmp .ge 47) 3 22 := ⟨by decide +kernel, rfl⟩
theorem dX11_never_22 : DD cX11_never 22 (.aload_n 0) 1 23 := ⟨by decide +kernel, rfl⟩
theorem dX11_never_23 : DD cX11_never 23 (.getfield 28) 3 26 := ⟨by decide +kernel, rfl⟩
theorem dX11_never_26 : DD cX11_never 26 (.getfield 64) 3 29 := ⟨by decide +kernel, rfl⟩
theorem dX11_never_29 : DD cX11_never 29 (.getfield 226) 3 32 := ⟨by decide +kernel, rfl⟩
theorem dX11_never_32 : DD cX11_never 32 (.iload_n 2) 1 33 := ⟨by decide +kernel, rfl⟩
theorem dX11_never_33 : DD cX11_never 33 (.iadd) 1 34 := ⟨by decide +kernel, rfl⟩
theorem dX11_never_34 : DD cX11_never 34 (.sipush 365) 3 37 := ⟨by decide +kernel, rfl⟩
theorem dX11_never_37 : DD cX11_never 37 (.irem) 1 38 := ⟨by decide +kernel, rfl⟩
theorem dX11_never_38 : DD cX11_never 38 (.istore_n 3) 1 39 := ⟨by decide +kernel, rfl⟩
theorem dX11_never_39 : DD cX11_never 39 (.aload_n 0) 1 40 := ⟨by decide +kernel, rfl⟩
theorem dX11_never_40 : DD cX11_never 40 (.getfield 28) 3 43 := ⟨by decide +kernel, rfl⟩
theorem dX11_never_43 : DD cX11_never 43 (.iload_n 1) 1 44 := ⟨by decide +kernel, rfl⟩
theorem dX11_never_44 : DD cX11_never 44 (.aload_n 0) 1 45 := ⟨by decide +kernel, rfl⟩
theorem dX11_never_45 : DD cX11_never 45 (.getfield 28) 3 48 := ⟨by decide +kernel, rfl⟩
theorem dX11_never_48 : DD cX11_never 48 (.iload_n 3) 1 49 := ⟨by decide +kernel, rfl⟩
theorem dX11_never_49 : DD cX11_never 49 (.invokevirtual 176) 3 52 := ⟨by decide +kernel, rfl⟩
theorem dX11_never_52 : DD cX11_never 52 (.invokevirtual 169) 3 55 := ⟨by decide +kernel, rfl⟩
theorem dX11_never_55 : DD cX11_never 55 (.ifCond .ne 5) 3 58 := ⟨by decide +kernel, rfl⟩
theorem dX11_never_58 : DD cX11_never 58 (.iload_n 3) 1 59 := ⟨by decide +kernel, rfl⟩
theorem dX11_never_59 : DD cX11_never 59 (.ireturn) 1 60 := ⟨by decide +kernel, rfl⟩
theorem dX11_never_60 : DD cX11_never 60 (.iinc 2 1) 3 63 := ⟨by decide +kernel, rfl⟩
theorem dX11_never_63 : DD cX11_never 63 (.goto (-48)) 3 66 := ⟨by decide +kernel, rfl⟩
theorem dX11_never_66 : DD cX11_never 66 (.iconst (-1)) 1 67 := ⟨by decide +kernel, rfl⟩
theorem dX11_never_67 : DD cX11_never 67 (.ireturn) 1 68 := ⟨by decide +kernel, rfl⟩
def gX11_never : Nat → Int32 → Int32 → Mem → Option (Int32 × Mem)
  | 0, _, _, _ => none
  | f + 1, x1, x2, m => (if (365 : Int32) ≤ x2 then (some ((-1 : Int32), m)) else (nm (((m.1 27 6) + x2) - ((m.1 27 6) + x2) / (365 : Int32) * (365 : Int32)) fun v2 => (cR (fX9_dayOf m v2) fun r3 m4 => (gEq r3 53 (cP (fX9_canMeet m4 x1) fun r6 => (if r6 = 0 then (some (v2, m4)) else (gX11_never f x1 (x2 + (1 : Int32)) m4)))))))
def fX11_never (m : Mem) (x1 : Int32) : Option (Int32 × Mem) := (cP (fX9_hasMeet m x1) fun r1 => (if r1 = 0 then (some ((-1 : Int32), m)) else (gX11_never 5000 x1 (0 : Int32) m)))
set_option maxHeartbeats 4000000 in
set_option maxRecDepth 100000 in
theorem wX11_never {X : Cx} {G : Gt} (h : OkX (X, G, wC, nC) cX11_never RX11 4 (some .int) 5) : ∀ f : Nat, (∀ (x1 : Int32) (x2 : Int32) (m : Mem), JR (X, G, wC, nC) cvI m 15 [some (.ref (G.2.2 0)), some (.int x1), some (.int x2), none] [] (gX11_never f x1 x2 m)) := by
  intro f
  induction f with
  | zero => exact (fun _ _ _ => j_none)
  | succ f ih =>
    intro x1 x2 m
    rw [gX11_never]
    refine j_iload_n h dX11_never_15 rfl ?_
    refine j_sipush (v := (365 : Int32)) h dX11_never_16 ksipush_365 ?_
    refine j_icmp_ge (tgt := 66) h dX11_never_19 (by decide) (fun c1 => ?_) (fun c1 => ?_)
    · refine j_iconst (v := (-1 : Int32)) h dX11_never_66 kiconst_m1 ?_
      exact j_iret h rfl dX11_never_67
    · refine j_aload_n h dX11_never_22 rfl ?_
      refine gC11_28 h dX11_never_23 ?_
      refine gC11_64 h dX11_never_26 ?_
      refine gC11_226 h dX11_never_29 ?_
      refine j_iload_n h dX11_never_32 rfl ?_
      refine j_iadd h dX11_never_33 ?_
      refine j_sipush (v := (365 : Int32)) h dX11_never_34 ksipush_365 ?_
      refine j_iremB h dX11_never_37 (by decide) ?_
      refine j_nm (fun v2 hv2 => ?_)
      refine j_istore_n h dX11_never_38 rfl rfl ?_
      refine j_aload_n h dX11_never_39 rfl ?_
      refine gC11_28 h dX11_never_40 ?_
      refine j_iload_n h dX11_never_43 rfl ?_
      refine j_aload_n h dX11_never_44 rfl ?_
      refine gC11_28 h dX11_never_45 ?_
      refine j_iload_n h dX11_never_48 rfl ?_
      refine j_callVR (q0 := 26) (ci := 9) h [.int v2] (kX9_dayOf _ G h.2.2.2.2.2.2.2.2.2.2 m v2) okX9_dayOf inX9_dayOf ml11_176 rfl rfl rfl rfl (by decide) (by decide) (Nat.le_of_ble_eq_true rfl) rfl dX11_never_49 (fun r3 m4 hr3 => ?_)
      refine j_gEq (fun hg5 => ?_)
      subst hg5
      refine j_callVP (q0 := 26) (ci := 9) h [.int x1, .ref (G.2.2 53)] (kX9_canMeet _ G h.2.2.2.2.2.2.2.2.2.2 m4 x1) okX9_canMeet inX9_canMeet ml11_169 rfl rfl rfl rfl (by decide) (by decide) (Nat.le_of_ble_eq_true rfl) rfl dX11_never_52 (fun r6 hr6 => ?_)
      refine j_if_ne (tgt := 60) h dX11_never_55 (by decide) (fun c8 => ?_) (fun c8 => ?_)
      · refine j_iinc (v := (x2 + (1 : Int32))) h dX11_never_60 rfl (by rw [kiconst_1]) rfl ?_
        refine j_goto (tgt := 15) h dX11_never_63 (by decide) ?_
        refine j_wk (ls' := [some (.ref (G.2.2 0)), some (.int x1), some (.int (x2 + (1 : Int32))), none]) (And.intro rfl (And.intro rfl (And.intro rfl trivial))) ?_
        exact ih x1 (x2 + (1 : Int32)) m4
      · refine j_iload_n h dX11_never_58 rfl ?_
        exact j_iret h rfl dX11_never_59
set_option maxHeartbeats 4000000 in
set_option maxRecDepth 100000 in
theorem kX11_never (l : Launch) (G : Gt) (hD : ∀ m, va_D (inA G nC) (wC G m)) (m : Mem) (x1 : Int32) : ∀ a, fX11_never m x1 = some a → Ct l G wC nC yX11_never cX11_never 4 (some .int) 5 [.ref (G.2.2 0), .int x1] m (cvI a) := by
  refine ct_of (own := RX11) (ls0 := [some (.ref (G.2.2 0)), some (.int x1), none, none]) (by decide) rfl rfl rfl (Nat.le_of_ble_eq_true rfl) hD (fun X h => ?_) l
  unfold fX11_never
  refine j_aload_n h dX11_never_0 rfl ?_
  refine gC11_28 h dX11_never_1 ?_
  refine j_iload_n h dX11_never_4 rfl ?_
  refine j_callVP (q0 := 26) (ci := 9) h [.int x1] (kX9_hasMeet _ G h.2.2.2.2.2.2.2.2.2.2 m x1) okX9_hasMeet inX9_hasMeet ml11_148 rfl rfl rfl rfl (by decide) (by decide) (Nat.le_of_ble_eq_true rfl) rfl dX11_never_5 (fun r1 hr1 => ?_)
  refine j_if_ne (tgt := 13) h dX11_never_8 (by decide) (fun c3 => ?_) (fun c3 => ?_)
  · refine j_iconst (v := (0 : Int32)) h dX11_never_13 kiconst_0 ?_
    refine j_istore_n h dX11_never_14 rfl rfl ?_
    refine j_wk (ls' := [some (.ref (G.2.2 0)), some (.int x1), some (.int (0 : Int32)), none]) (And.intro rfl (And.intro rfl (And.intro rfl trivial))) ?_
    exact (wX11_never h 5000) x1 (0 : Int32) m
  · refine j_iconst (v := (-1 : Int32)) h dX11_never_11 kiconst_m1 ?_
    exact j_iret h rfl dX11_never_12
theorem dX11_dates_0 : DD cX11_dates 0 (.aload_n 0) 1 1 := ⟨by decide +kernel, rfl⟩
theorem dX11_dates_1 : DD cX11_dates 1 (.getfield 28) 3 4 := ⟨by decide +kernel, rfl⟩
theorem dX11_dates_4 : DD cX11_dates 4 (.iload_n 1) 1 5 := ⟨by decide +kernel, rfl⟩
theorem dX11_dates_5 : DD cX11_dates 5 (.invokevirtual 148) 3 8 := ⟨by decide +kernel, rfl⟩
theorem dX11_dates_8 : DD cX11_dates 8 (.ifCond .ne 5) 3 11 := ⟨by decide +kernel, rfl⟩
theorem dX11_dates_11 : DD cX11_dates 11 (.iconst (-1)) 1 12 := ⟨by decide +kernel, rfl⟩
theorem dX11_dates_12 : DD cX11_dates 12 (.ireturn) 1 13 := ⟨by decide +kernel, rfl⟩
theorem dX11_dates_13 : DD cX11_dates 13 (.iconst 0) 1 14 := ⟨by decide +kernel, rfl⟩
theorem dX11_dates_14 : DD cX11_dates 14 (.istore_n 2) 1 15 := ⟨by decide +kernel, rfl⟩
theorem dX11_dates_15 : DD cX11_dates 15 (.iconst 0) 1 16 := ⟨by decide +kernel, rfl⟩
theorem dX11_dates_16 : DD cX11_dates 16 (.istore_n 3) 1 17 := ⟨by decide +kernel, rfl⟩
theorem dX11_dates_17 : DD cX11_dates 17 (.iload_n 3) 1 18 := ⟨by decide +kernel, rfl⟩
theorem dX11_dates_18 : DD cX11_dates 18 (.sipush 365) 3 21 := ⟨by decide +kernel, rfl⟩
theorem dX11_dates_21 : DD cX11_dates 21 (.if_icmp .ge 36) 3 24 := ⟨by decide +kernel, rfl⟩
theorem dX11_dates_24 : DD cX11_dates 24 (.iload_n 2) 1 25 := ⟨by decide +kernel, rfl⟩
theorem dX11_dates_25 : DD cX11_dates 25 (.aload_n 0) 1 26 := ⟨by decide +kernel, rfl⟩
theorem dX11_dates_26 : DD cX11_dates 26 (.getfield 28) 3 29 := ⟨by decide +kernel, rfl⟩
theorem dX11_dates_29 : DD cX11_dates 29 (.iload_n 1) 1 30 := ⟨by decide +kernel, rfl⟩
theorem dX11_dates_30 : DD cX11_dates 30 (.aload_n 0) 1 31 := ⟨by decide +kernel, rfl⟩
theorem dX11_dates_31 : DD cX11_dates 31 (.getfield 28) 3 34 := ⟨by decide +kernel, rfl⟩
theorem dX11_dates_34 : DD cX11_dates 34 (.iload_n 3) 1 35 := ⟨by decide +kernel, rfl⟩
theorem dX11_dates_35 : DD cX11_dates 35 (.invokevirtual 176) 3 38 := ⟨by decide +kernel, rfl⟩
theorem dX11_dates_38 : DD cX11_dates 38 (.invokevirtual 169) 3 41 := ⟨by decide +kernel, rfl⟩
theorem dX11_dates_41 : DD cX11_dates 41 (.ifCond .eq 7) 3 44 := ⟨by decide +kernel, rfl⟩
theorem dX11_dates_44 : DD cX11_dates 44 (.iconst 1) 1 45 := ⟨by decide +kernel, rfl⟩
theorem dX11_dates_45 : DD cX11_dates 45 (.goto 4) 3 48 := ⟨by decide +kernel, rfl⟩
theorem dX11_dates_48 : DD cX11_dates 48 (.iconst 0) 1 49 := ⟨by decide +kernel, rfl⟩
theorem dX11_dates_49 : DD cX11_dates 49 (.iadd) 1 50 := ⟨by decide +kernel, rfl⟩
theorem dX11_dates_50 : DD cX11_dates 50 (.istore_n 2) 1 51 := ⟨by decide +kernel, rfl⟩
theorem dX11_dates_51 : DD cX11_dates 51 (.iinc 3 1) 3 54 := ⟨by decide +kernel, rfl⟩
theorem dX11_dates_54 : DD cX11_dates 54 (.goto (-37)) 3 57 := ⟨by decide +kernel, rfl⟩
theorem dX11_dates_57 : DD cX11_dates 57 (.iload_n 2) 1 58 := ⟨by decide +kernel, rfl⟩
theorem dX11_dates_58 : DD cX11_dates 58 (.ireturn) 1 59 := ⟨by decide +kernel, rfl⟩
def gX11_dates : Nat → Int32 → Int32 → Int32 → Mem → Option (Int32 × Mem)
  | 0, _, _, _, _ => none
  | f + 1, x1, x2, x3, m => (if (365 : Int32) ≤ x3 then (some (x2, m)) else (cR (fX9_dayOf m x3) fun r2 m3 => (gEq r2 53 (cP (fX9_canMeet m3 x1) fun r5 => (if r5 = 0 then (nm (x2 + (0 : Int32)) fun v8 => (gX11_dates f x1 v8 (x3 + (1 : Int32)) m3)) else (nm (x2 + (1 : Int32)) fun v9 => (gX11_dates f x1 v9 (x3 + (1 : Int32)) m3)))))))
def fX11_dates (m : Mem) (x1 : Int32) : Option (Int32 × Mem) := (cP (fX9_hasMeet m x1) fun r1 => (if r1 = 0 then (some ((-1 : Int32), m)) else (gX11_dates 5000 x1 (0 : Int32) (0 : Int32) m)))
set_option maxHeartbeats 4000000 in
set_option maxRecDepth 100000 in
theorem wX11_dates {X : Cx} {G : Gt} (h : OkX (X, G, wC, nC) cX11_dates RX11 4 (some .int) 5) : ∀ f : Nat, (∀ (x1 : Int32) (x2 : Int32) (x3 : Int32) (m : Mem), JR (X, G, wC, nC) cvI m 17 [some (.ref (G.2.2 0)), some (.int x1), some (.int x2), some (.int x3)] [] (gX11_dates f x1 x2 x3 m)) := by
  intro f
  induction f with
  | zero => exact (fun _ _ _ _ => j_none)
  | succ f ih =>
    intro x1 x2 x3 m
    rw [gX11_dates]
    refine j_iload_n h dX11_dates_17 rfl ?_
    refine j_sipush (v := (365 : Int32)) h dX11_dates_18 ksipush_365 ?_
    refine j_icmp_ge (tgt := 57) h dX11_dates_21 (by decide) (fun c1 => ?_) (fun c1 => ?_)
    · refine j_iload_n h dX11_dates_57 rfl ?_
      exact j_iret h rfl dX11_dates_58
    · refine j_iload_n h dX11_dates_24 rfl ?_
      refine j_aload_n h dX11_dates_25 rfl ?_
      refine gC11_28 h dX11_dates_26 ?_
      refine j_iload_n h dX11_dates_29 rfl ?_
      refine j_aload_n h dX11_dates_30 rfl ?_
      refine gC11_28 h dX11_dates_31 ?_
      refine j_iload_n h dX11_dates_34 rfl ?_
      refine j_callVR (q0 := 26) (ci := 9) h [.int x3] (kX9_dayOf _ G h.2.2.2.2.2.2.2.2.2.2 m x3) okX9_dayOf inX9_dayOf ml11_176 rfl rfl rfl rfl (by decide) (by decide) (Nat.le_of_ble_eq_true rfl) rfl dX11_dates_35 (fun r2 m3 hr2 => ?_)
      refine j_gEq (fun hg4 => ?_)
      subst hg4
      refine j_callVP (q0 := 26) (ci := 9) h [.int x1, .ref (G.2.2 53)] (kX9_canMeet _ G h.2.2.2.2.2.2.2.2.2.2 m3 x1) okX9_canMeet inX9_canMeet ml11_169 rfl rfl rfl rfl (by decide) (by decide) (Nat.le_of_ble_eq_true rfl) rfl dX11_dates_38 (fun r5 hr5 => ?_)
      refine j_if_eq (tgt := 48) h dX11_dates_41 (by decide) (fun c7 => ?_) (fun c7 => ?_)
      · refine j_iconst (v := (0 : Int32)) h dX11_dates_48 kiconst_0 ?_
        refine j_iadd h dX11_dates_49 ?_
        refine j_nm (fun v8 hv8 => ?_)
        refine j_istore_n h dX11_dates_50 rfl rfl ?_
        refine j_iinc (v := (x3 + (1 : Int32))) h dX11_dates_51 rfl (by rw [kiconst_1]) rfl ?_
        refine j_goto (tgt := 17) h dX11_dates_54 (by decide) ?_
        refine j_wk (ls' := [some (.ref (G.2.2 0)), some (.int x1), some (.int v8), some (.int (x3 + (1 : Int32)))]) (And.intro rfl (And.intro rfl (And.intro rfl (And.intro rfl trivial)))) ?_
        exact ih x1 v8 (x3 + (1 : Int32)) m3
      · refine j_iconst (v := (1 : Int32)) h dX11_dates_44 kiconst_1 ?_
        refine j_goto (tgt := 49) h dX11_dates_45 (by decide) ?_
        refine j_iadd h dX11_dates_49 ?_
        refine j_nm (fun v9 hv9 => ?_)
        refine j_istore_n h dX11_dates_50 rfl rfl ?_
        refine j_iinc (v := (x3 + (1 : Int32))) h dX11_dates_51 rfl (by rw [kiconst_1]) rfl ?_
        refine j_goto (tgt := 17) h dX11_dates_54 (by decide) ?_
        refine j_wk (ls' := [some (.ref (G.2.2 0)), some (.int x1), some (.int v9), some (.int (x3 + (1 : Int32)))]) (And.intro rfl (And.intro rfl (And.intro rfl (And.intro rfl trivial)))) ?_
        exact ih x1 v9 (x3 + (1 : Int32)) m3
set_option maxHeartbeats 4000000 in
set_option maxRecDepth 100000 in
theorem kX11_dates (l : Launch) (G : Gt) (hD : ∀ m, va_D (inA G nC) (wC G m)) (m : Mem) (x1 : Int32) : ∀ a, fX11_dates m x1 = some a → Ct l G wC nC yX11_dates cX11_dates 4 (some .int) 5 [.ref (G.2.2 0), .int x1] m (cvI a) := by
  refine ct_of (own := RX11) (ls0 := [some (.ref (G.2.2 0)), some (.int x1), none, none]) (by decide) rfl rfl rfl (Nat.le_of_ble_eq_true rfl) hD (fun X h => ?_) l
  unfold fX11_dates
  refine j_aload_n h dX11_dates_0 rfl ?_
  refine gC11_28 h dX11_dates_1 ?_
  refine j_iload_n h dX11_dates_4 rfl ?_
  refine j_callVP (q0 := 26) (ci := 9) h [.int x1] (kX9_hasMeet _ G h.2.2.2.2.2.2.2.2.2.2 m x1) okX9_hasMeet inX9_hasMeet ml11_148 rfl rfl rfl rfl (by decide) (by decide) (Nat.le_of_ble_eq_true rfl) rfl dX11_dates_5 (fun r1 hr1 => ?_)
  refine j_if_ne (tgt := 13) h dX11_dates_8 (by decide) (fun c3 => ?_) (fun c3 => ?_)
  · refine j_iconst (v := (0 : Int32)) h dX11_dates_13 kiconst_0 ?_
    refine j_istore_n h dX11_dates_14 rfl rfl ?_
    refine j_iconst (v := (0 : Int32)) h dX11_dates_15 kiconst_0 ?_
    refine j_istore_n h dX11_dates_16 rfl rfl ?_
    refine j_wk (ls' := [some (.ref (G.2.2 0)), some (.int x1), some (.int (0 : Int32)), some (.int (0 : Int32))]) (And.intro rfl (And.intro rfl (And.intro rfl (And.intro rfl trivial)))) ?_
    exact (wX11_dates h 5000) x1 (0 : Int32) (0 : Int32) m
  · refine j_iconst (v := (-1 : Int32)) h dX11_dates_11 kiconst_m1 ?_
    exact j_iret h rfl dX11_dates_12
theorem dX11_harmed_0 : DD cX11_harmed 0 (.aload_n 0) 1 1 := ⟨by decide +kernel, rfl⟩
theorem dX11_harmed_1 : DD cX11_harmed 1 (.getfield 28) 3 4 := ⟨by decide +kernel, rfl⟩
theorem dX11_harmed_4 : DD cX11_harmed 4 (.iload_n 1) 1 5 := ⟨by decide +kernel, rfl⟩
theorem dX11_harmed_5 : DD cX11_harmed 5 (.invokevirtual 113) 3 8 := ⟨by decide +kernel, rfl⟩
theorem dX11_harmed_8 : DD cX11_harmed 8 (.ifCond .eq 14) 3 11 := ⟨by decide +kernel, rfl⟩
theorem dX11_harmed_11 : DD cX11_harmed 11 (.iload_n 2) 1 12 := ⟨by decide +kernel, rfl⟩
theorem dX11_harmed_12 : DD cX11_harmed 12 (.invokestatic 173) 3 15 := ⟨by decide +kernel, rfl⟩
theorem dX11_harmed_15 : DD cX11_harmed 15 (.ifCond .eq 7) 3 18 := ⟨by decide +kernel, rfl⟩
theorem dX11_harmed_18 : DD cX11_harmed 18 (.iconst 1) 1 19 := ⟨by decide +kernel, rfl⟩
theorem dX11_harmed_19 : DD cX11_harmed 19 (.goto 4) 3 22 := ⟨by decide +kernel, rfl⟩
theorem dX11_harmed_22 : DD cX11_harmed 22 (.iconst 0) 1 23 := ⟨by decide +kernel, rfl⟩
theorem dX11_harmed_23 : DD cX11_harmed 23 (.istore_n 3) 1 24 := ⟨by decide +kernel, rfl⟩
theorem dX11_harmed_24 : DD cX11_harmed 24 (.iload_n 3) 1 25 := ⟨by decide +kernel, rfl⟩
theorem dX11_harmed_25 : DD cX11_harmed 25 (.ifCond .eq 22) 3 28 := ⟨by decide +kernel, rfl⟩
theorem dX11_harmed_28 : DD cX11_harmed 28 (.aload_n 0) 1 29 := ⟨by decide +kernel, rfl⟩
theorem dX11_harmed_29 : DD cX11_harmed 29 (.getfield 28) 3 32 := ⟨by decide +kernel, rfl⟩
theorem dX11_harmed_32 : DD cX11_harmed 32 (.iload_n 1) 1 33 := ⟨by decide +kernel, rfl⟩
theorem dX11_harmed_33 : DD cX11_harmed 33 (.aload_n 0) 1 34 := ⟨by decide +kernel, rfl⟩
theorem dX11_harmed_34 : DD cX11_harmed 34 (.getfield 28) 3 37 := ⟨by decide +kernel, rfl⟩
theorem dX11_harmed_37 : DD cX11_harmed 37 (.iload_n 2) 1 38 := ⟨by decide +kernel, rfl⟩
theorem dX11_harmed_38 : DD cX11_harmed 38 (.invokevirtual 176) 3 41 := ⟨by decide +kernel, rfl⟩
theorem dX11_harmed_41 : DD cX11_harmed 41 (.invokevirtual 229) 3 44 := ⟨by decide +kernel, rfl⟩
theorem dX11_harmed_44 : DD cX11_harmed 44 (.goto 4) 3 47 := ⟨by decide +kernel, rfl⟩
theorem dX11_harmed_47 : DD cX11_harmed 47 (.iconst (-1)) 1 48 := ⟨by decide +kernel, rfl⟩
theorem dX11_harmed_48 : DD cX11_harmed 48 (.ireturn) 1 49 := ⟨by decide +kernel, rfl⟩
def fX11_harmed (m : Mem) (x1 : Int32) (x2 : Int32) : Option (Int32 × Mem) := (cP (fX9_hasPerson m x1) fun r1 => (if r1 = 0 then (some ((-1 : Int32), m)) else (cP (fX11_isDate x2) fun r4 => (if r4 = 0 then (some ((-1 : Int32), m)) else (cR (fX9_dayOf m x2) fun r7 m8 => (gEq r7 53 (cI (fX9_harmOn m8 x1) fun r10 m11 => (some (r10, m11)))))))))
set_option maxHeartbeats 4000000 in
set_option maxRecDepth 100000 in
theorem kX11_harmed (l : Launch) (G : Gt) (hD : ∀ m, va_D (inA G nC) (wC G m)) (m : Mem) (x1 : Int32) (x2 : Int32) : ∀ a, fX11_harmed m x1 x2 = some a → Ct l G wC nC yX11_harmed cX11_harmed 4 (some .int) 6 [.ref (G.2.2 0), .int x1, .int x2] m (cvI a) := by
  refine ct_of (own := RX11) (ls0 := [some (.ref (G.2.2 0)), some (.int x1), some (.int x2), none]) (by decide) rfl rfl rfl (Nat.le_of_ble_eq_true rfl) hD (fun X h => ?_) l
  unfold fX11_harmed
  refine j_aload_n h dX11_harmed_0 rfl ?_
  refine gC11_28 h dX11_harmed_1 ?_
  refine j_iload_n h dX11_harmed_4 rfl ?_
  refine j_callVP (q0 := 26) (ci := 9) h [.int x1] (kX9_hasPerson _ G h.2.2.2.2.2.2.2.2.2.2 m x1) okX9_hasPerson inX9_hasPerson ml11_113 rfl rfl rfl rfl (by decide) (by decide) (Nat.le_of_ble_eq_true rfl) rfl dX11_harmed_5 (fun r1 hr1 => ?_)
  refine j_if_eq (tgt := 22) h dX11_harmed_8 (by decide) (fun c3 => ?_) (fun c3 => ?_)
  · refine j_iconst (v := (0 : Int32)) h dX11_harmed_22 kiconst_0 ?_
    refine j_istore_n h dX11_harmed_23 rfl rfl ?_
    refine j_iload_n h dX11_harmed_24 rfl ?_
    refine j_if_eqB (tgt := 47) h dX11_harmed_25 (by decide) (fun _ => ?_) (fun cc => absurd (by decide) cc)
    refine j_iconst (v := (-1 : Int32)) h dX11_harmed_47 kiconst_m1 ?_
    exact j_iret h rfl dX11_harmed_48
  · refine j_iload_n h dX11_harmed_11 rfl ?_
    refine j_callSP h [.int x2] (kX11_isDate _ G h.2.2.2.2.2.2.2.2.2.2 m x2) okX11_isDate stX11_isDate ml11_173 rfl rfl (by decide) (by decide) (Nat.le_of_ble_eq_true rfl) rfl dX11_harmed_12 (fun r4 hr4 => ?_)
    refine j_if_eq (tgt := 22) h dX11_harmed_15 (by decide) (fun c6 => ?_) (fun c6 => ?_)
    · refine j_iconst (v := (0 : Int32)) h dX11_harmed_22 kiconst_0 ?_
      refine j_istore_n h dX11_harmed_23 rfl rfl ?_
      refine j_iload_n h dX11_harmed_24 rfl ?_
      refine j_if_eqB (tgt := 47) h dX11_harmed_25 (by decide) (fun _ => ?_) (fun cc => absurd (by decide) cc)
      refine j_iconst (v := (-1 : Int32)) h dX11_harmed_47 kiconst_m1 ?_
      exact j_iret h rfl dX11_harmed_48
    · refine j_iconst (v := (1 : Int32)) h dX11_harmed_18 kiconst_1 ?_
      refine j_goto (tgt := 23) h dX11_harmed_19 (by decide) ?_
      refine j_istore_n h dX11_harmed_23 rfl rfl ?_
      refine j_iload_n h dX11_harmed_24 rfl ?_
      refine j_if_eqB (tgt := 47) h dX11_harmed_25 (by decide) (fun cc => absurd cc (by decide)) (fun _ => ?_)
      refine j_aload_n h dX11_harmed_28 rfl ?_
      refine gC11_28 h dX11_harmed_29 ?_
      refine j_iload_n h dX11_harmed_32 rfl ?_
      refine j_aload_n h dX11_harmed_33 rfl ?_
      refine gC11_28 h dX11_harmed_34 ?_
      refine j_iload_n h dX11_harmed_37 rfl ?_
      refine j_callVR (q0 := 26) (ci := 9) h [.int x2] (kX9_dayOf _ G h.2.2.2.2.2.2.2.2.2.2 m x2) okX9_dayOf inX9_dayOf ml11_176 rfl rfl rfl rfl (by decide) (by decide) (Nat.le_of_ble_eq_true rfl) rfl dX11_harmed_38 (fun r7 m8 hr7 => ?_)
      refine j_gEq (fun hg9 => ?_)
      subst hg9
      refine j_callVI (q0 := 26) (ci := 9) h [.int x1, .ref (G.2.2 53)] (kX9_harmOn _ G h.2.2.2.2.2.2.2.2.2.2 m8 x1) okX9_harmOn inX9_harmOn ml11_229 rfl rfl rfl rfl (by decide) (by decide) (Nat.le_of_ble_eq_true rfl) rfl dX11_harmed_41 (fun r10 m11 hr10 => ?_)
      refine j_goto (tgt := 48) h dX11_harmed_44 (by decide) ?_
      exact j_iret h rfl dX11_harmed_48
theorem dX11_bliss_0 : DD cX11_bliss 0 (.iload_n 1) 1 1 := ⟨by decide +kernel, rfl⟩
theorem dX11_bliss_1 : DD cX11_bliss 1 (.invokestatic 173) 3 4 := ⟨by decide +kernel, rfl⟩
theorem dX11_bliss_4 : DD cX11_bliss 4 (.ifCond .eq 21) 3 7 := ⟨by decide +kernel, rfl⟩
theorem dX11_bliss_7 : DD cX11_bliss 7 (.aload_n 0) 1 8 := ⟨by decide +kernel, rfl⟩
theorem dX11_bliss_8 : DD cX11_bliss 8 (.getfield 28) 3 11 := ⟨by decide +kernel, rfl⟩
theorem dX11_bliss_11 : DD cX11_bliss 11 (.aload_n 0) 1 12 := ⟨by decide +kernel, rfl⟩
theorem dX11_bliss_12 : DD cX11_bliss 12 (.getfield 28) 3 15 := ⟨by decide +kernel, rfl⟩
theorem dX11_bliss_15 : DD cX11_bliss 15 (.iload_n 1) 1 16 := ⟨by decide +kernel, rfl⟩
theorem dX11_bliss_16 : DD cX11_bliss 16 (.invokevirtual 176) 3 19 := ⟨by decide +kernel, rfl⟩
theorem dX11_bliss_19 : DD cX11_bliss 19 (.invokevirtual 233) 3 22 := ⟨by decide +kernel, rfl⟩
theorem dX11_bliss_22 : DD cX11_bliss 22 (.goto 5) 3 25 := ⟨by decide +kernel, rfl⟩
theorem dX11_bliss_25 : DD cX11_bliss 25 (.ldc 237) 2 27 := ⟨by decide +kernel, rfl⟩
theorem dX11_bliss_27 : DD cX11_bliss 27 (.ireturn) 1 28 := ⟨by decide +kernel, rfl⟩
def fX11_bliss (m : Mem) (x1 : Int32) : Option (Int32 × Mem) := (cP (fX11_isDate x1) fun r1 => (if r1 = 0 then (some ((-1000000 : Int32), m)) else (cR (fX9_dayOf m x1) fun r4 m5 => (gEq r4 53 (cI (fX9_blissOf m5) fun r7 m8 => (some (r7, m8)))))))
set_option maxHeartbeats 4000000 in
set_option maxRecDepth 100000 in
theorem kX11_bliss (l : Launch) (G : Gt) (hD : ∀ m, va_D (inA G nC) (wC G m)) (m : Mem) (x1 : Int32) : ∀ a, fX11_bliss m x1 = some a → Ct l G wC nC yX11_bliss cX11_bliss 2 (some .int) 7 [.ref (G.2.2 0), .int x1] m (cvI a) := by
  refine ct_of (own := RX11) (ls0 := [some (.ref (G.2.2 0)), some (.int x1)]) (by decide) rfl rfl rfl (Nat.le_of_ble_eq_true rfl) hD (fun X h => ?_) l
  unfold fX11_bliss
  refine j_iload_n h dX11_bliss_0 rfl ?_
  refine j_callSP h [.int x1] (kX11_isDate _ G h.2.2.2.2.2.2.2.2.2.2 m x1) okX11_isDate stX11_isDate ml11_173 rfl rfl (by decide) (by decide) (Nat.le_of_ble_eq_true rfl) rfl dX11_bliss_1 (fun r1 hr1 => ?_)
  refine j_if_eq (tgt := 25) h dX11_bliss_4 (by decide) (fun c3 => ?_) (fun c3 => ?_)
  · refine j_ldc (v := (-1000000 : Int32)) h dX11_bliss_25 cn11_237 ?_
    exact j_iret h rfl dX11_bliss_27
  · refine j_aload_n h dX11_bliss_7 rfl ?_
    refine gC11_28 h dX11_bliss_8 ?_
    refine j_aload_n h dX11_bliss_11 rfl ?_
    refine gC11_28 h dX11_bliss_12 ?_
    refine j_iload_n h dX11_bliss_15 rfl ?_
    refine j_callVR (q0 := 26) (ci := 9) h [.int x1] (kX9_dayOf _ G h.2.2.2.2.2.2.2.2.2.2 m x1) okX9_dayOf inX9_dayOf ml11_176 rfl rfl rfl rfl (by decide) (by decide) (Nat.le_of_ble_eq_true rfl) rfl dX11_bliss_16 (fun r4 m5 hr4 => ?_)
    refine j_gEq (fun hg6 => ?_)
    subst hg6
    refine j_callVI (q0 := 26) (ci := 9) h [.ref (G.2.2 53)] (kX9_blissOf _ G h.2.2.2.2.2.2.2.2.2.2 m5) okX9_blissOf inX9_blissOf ml11_233 rfl rfl rfl rfl (by decide) (by decide) (Nat.le_of_ble_eq_true rfl) rfl dX11_bliss_19 (fun r7 m8 hr7 => ?_)
    refine j_goto (tgt := 27) h dX11_bliss_22 (by decide) ?_
    exact j_iret h rfl dX11_bliss_27
theorem dX11_cut_0 : DD cX11_cut 0 (.aload_n 0) 1 1 := ⟨by decide +kernel, rfl⟩
theorem dX11_cut_1 : DD cX11_cut 1 (.getfield 42) 3 4 := ⟨by decide +kernel, rfl⟩
theorem dX11_cut_4 : DD cX11_cut 4 (.aload_n 0) 1 5 := ⟨by decide +kernel, rfl⟩
theorem dX11_cut_5 : DD cX11_cut 5 (.getfield 28) 3 8 := ⟨by decide +kernel, rfl⟩
theorem dX11_cut_8 : DD cX11_cut 8 (.invokevirtual 238) 3 11 := ⟨by decide +kernel, rfl⟩
theorem dX11_cut_11 : DD cX11_cut 11 (.aload_n 0) 1 12 := ⟨by decide +kernel, rfl⟩
theorem dX11_cut_12 : DD cX11_cut 12 (.getfield 42) 3 15 := ⟨by decide +kernel, rfl⟩
theorem dX11_cut_15 : DD cX11_cut 15 (.aload_n 0) 1 16 := ⟨by decide +kernel, rfl⟩
theorem dX11_cut_16 : DD cX11_cut 16 (.getfield 61) 3 19 := ⟨by decide +kernel, rfl⟩
theorem dX11_cut_19 : DD cX11_cut 19 (.invokevirtual 242) 3 22 := ⟨by decide +kernel, rfl⟩
theorem dX11_cut_22 : DD cX11_cut 22 (.istore_n 1) 1 23 := ⟨by decide +kernel, rfl⟩
theorem dX11_cut_23 : DD cX11_cut 23 (.aload_n 0) 1 24 := ⟨by decide +kernel, rfl⟩
theorem dX11_cut_24 : DD cX11_cut 24 (.aload_n 0) 1 25 := ⟨by decide +kernel, rfl⟩
theorem dX11_cut_25 : DD cX11_cut 25 (.getfield 28) 3 28 := ⟨by decide +kernel, rfl⟩
theorem dX11_cut_28 : DD cX11_cut 28 (.getfield 84) 3 31 := ⟨by decide +kernel, rfl⟩
theorem dX11_cut_31 : DD cX11_cut 31 (.getfield 104) 3 34 := ⟨by decide +kernel, rfl⟩
theorem dX11_cut_34 : DD cX11_cut 34 (.putfield 98) 3 37 := ⟨by decide +kernel, rfl⟩
theorem dX11_cut_37 : DD cX11_cut 37 (.iload_n 1) 1 38 := ⟨by decide +kernel, rfl⟩
theorem dX11_cut_38 : DD cX11_cut 38 (.ireturn) 1 39 := ⟨by decide +kernel, rfl⟩
def fX11_cut (m : Mem) : Option (Int32 × Mem) := (cV (fX1_weigh m) fun m2 => (cI (fX1_bestForAll m2) fun r3 m4 => (gPl (m4.2.2 26 1) (pt (sI m4 0 9 (m4.1 (m4.2.2 26 1) 0)) fun m6 => (some (r3, m6))))))
set_option maxHeartbeats 4000000 in
set_option maxRecDepth 100000 in
theorem kX11_cut (l : Launch) (G : Gt) (hD : ∀ m, va_D (inA G nC) (wC G m)) (m : Mem) : ∀ a, fX11_cut m = some a → Ct l G wC nC yX11_cut cX11_cut 2 (some .int) 7 [.ref (G.2.2 0)] m (cvI a) := by
  refine ct_of (own := RX11) (ls0 := [some (.ref (G.2.2 0)), none]) (by decide) rfl rfl rfl (Nat.le_of_ble_eq_true rfl) hD (fun X h => ?_) l
  unfold fX11_cut
  refine j_aload_n h dX11_cut_0 rfl ?_
  refine gC11_42 h dX11_cut_1 ?_
  refine j_aload_n h dX11_cut_4 rfl ?_
  refine gC11_28 h dX11_cut_5 ?_
  refine j_callVV (q0 := 58) (ci := 1) h [.ref (G.2.2 26)] (kX1_weigh _ G h.2.2.2.2.2.2.2.2.2.2 m) okX1_weigh inX1_weigh ml11_238 rfl rfl rfl rfl (by decide) (by decide) (Nat.le_of_ble_eq_true rfl) rfl dX11_cut_8 (fun m2 hm2 => ?_)
  refine j_aload_n h dX11_cut_11 rfl ?_
  refine gC11_42 h dX11_cut_12 ?_
  refine j_aload_n h dX11_cut_15 rfl ?_
  refine gC11_61 h dX11_cut_16 ?_
  refine j_callVI (q0 := 58) (ci := 1) h [.ref (G.2.2 73)] (kX1_bestForAll _ G h.2.2.2.2.2.2.2.2.2.2 m2) okX1_bestForAll inX1_bestForAll ml11_242 rfl rfl rfl rfl (by decide) (by decide) (Nat.le_of_ble_eq_true rfl) rfl dX11_cut_19 (fun r3 m4 hr3 => ?_)
  refine j_istore_n h dX11_cut_22 rfl rfl ?_
  refine j_aload_n h dX11_cut_23 rfl ?_
  refine j_aload_n h dX11_cut_24 rfl ?_
  refine gC11_28 h dX11_cut_25 ?_
  refine gC11_84 h dX11_cut_28 ?_
  refine j_gPl (fun hg5 => ?_)
  refine gC11_104 h hg5 dX11_cut_31 ?_
  refine pC11_98 h dX11_cut_34 (fun m6 hm6 => ?_)
  refine j_iload_n h dX11_cut_37 rfl ?_
  exact j_iret h rfl dX11_cut_38
theorem dX11_joy_0 : DD cX11_joy 0 (.aload_n 0) 1 1 := ⟨by decide +kernel, rfl⟩
theorem dX11_joy_1 : DD cX11_joy 1 (.getfield 28) 3 4 := ⟨by decide +kernel, rfl⟩
theorem dX11_joy_4 : DD cX11_joy 4 (.iload_n 1) 1 5 := ⟨by decide +kernel, rfl⟩
theorem dX11_joy_5 : DD cX11_joy 5 (.invokevirtual 113) 3 8 := ⟨by decide +kernel, rfl⟩
theorem dX11_joy_8 : DD cX11_joy 8 (.ifCond .eq 14) 3 11 := ⟨by decide +kernel, rfl⟩
theorem dX11_joy_11 : DD cX11_joy 11 (.iload_n 2) 1 12 := ⟨by decide +kernel, rfl⟩
theorem dX11_joy_12 : DD cX11_joy 12 (.invokestatic 173) 3 15 := ⟨by decide +kernel, rfl⟩
theorem dX11_joy_15 : DD cX11_joy 15 (.ifCond .eq 7) 3 18 := ⟨by decide +kernel, rfl⟩
theorem dX11_joy_18 : DD cX11_joy 18 (.iconst 1) 1 19 := ⟨by decide +kernel, rfl⟩
theorem dX11_joy_19 : DD cX11_joy 19 (.goto 4) 3 22 := ⟨by decide +kernel, rfl⟩
theorem dX11_joy_22 : DD cX11_joy 22 (.iconst 0) 1 23 := ⟨by decide +kernel, rfl⟩
theorem dX11_joy_23 : DD cX11_joy 23 (.istore_n 3) 1 24 := ⟨by decide +kernel, rfl⟩
theorem dX11_joy_24 : DD cX11_joy 24 (.iload_n 3) 1 25 := ⟨by decide +kernel, rfl⟩
theorem dX11_joy_25 : DD cX11_joy 25 (.ifCond .eq 22) 3 28 := ⟨by decide +kernel, rfl⟩
theorem dX11_joy_28 : DD cX11_joy 28 (.aload_n 0) 1 29 := ⟨by decide +kernel, rfl⟩
theorem dX11_joy_29 : DD cX11_joy 29 (.getfield 28) 3 32 := ⟨by decide +kernel, rfl⟩
theorem dX11_joy_32 : DD cX11_joy 32 (.iload_n 1) 1 33 := ⟨by decide +kernel, rfl⟩
theorem dX11_joy_33 : DD cX11_joy 33 (.aload_n 0) 1 34 := ⟨by decide +kernel, rfl⟩
theorem dX11_joy_34 : DD cX11_joy 34 (.getfield 28) 3 37 := ⟨by decide +kernel, rfl⟩
theorem dX11_joy_37 : DD cX11_joy 37 (.iload_n 2) 1 38 := ⟨by decide +kernel, rfl⟩
theorem dX11_joy_38 : DD cX11_joy 38 (.invokevirtual 176) 3 41 := ⟨by decide +kernel, rfl⟩
theorem dX11_joy_41 : DD cX11_joy 41 (.invokevirtual 246) 3 44 := ⟨by decide +kernel, rfl⟩
theorem dX11_joy_44 : DD cX11_joy 44 (.goto 5) 3 47 := ⟨by decide +kernel, rfl⟩
theorem dX11_joy_47 : DD cX11_joy 47 (.ldc 237) 2 49 := ⟨by decide +kernel, rfl⟩
theorem dX11_joy_49 : DD cX11_joy 49 (.ireturn) 1 50 := ⟨by decide +kernel, rfl⟩
def fX11_joy (m : Mem) (x1 : Int32) (x2 : Int32) : Option (Int32 × Mem) := (cP (fX9_hasPerson m x1) fun r1 => (if r1 = 0 then (some ((-1000000 : Int32), m)) else (cP (fX11_isDate x2) fun r4 => (if r4 = 0 then (some ((-1000000 : Int32), m)) else (cR (fX9_dayOf m x2) fun r7 m8 => (gEq r7 53 (cI (fX9_joyOf m8 x1) fun r10 m11 => (some (r10, m11)))))))))
set_option maxHeartbeats 4000000 in
set_option maxRecDepth 100000 in
theorem kX11_joy (l : Launch) (G : Gt) (hD : ∀ m, va_D (inA G nC) (wC G m)) (m : Mem) (x1 : Int32) (x2 : Int32) : ∀ a, fX11_joy m x1 x2 = some a → Ct l G wC nC yX11_joy cX11_joy 4 (some .int) 7 [.ref (G.2.2 0), .int x1, .int x2] m (cvI a) := by
  refine ct_of (own := RX11) (ls0 := [some (.ref (G.2.2 0)), some (.int x1), some (.int x2), none]) (by decide) rfl rfl rfl (Nat.le_of_ble_eq_true rfl) hD (fun X h => ?_) l
  unfold fX11_joy
  refine j_aload_n h dX11_joy_0 rfl ?_
  refine gC11_28 h dX11_joy_1 ?_
  refine j_iload_n h dX11_joy_4 rfl ?_
  refine j_callVP (q0 := 26) (ci := 9) h [.int x1] (kX9_hasPerson _ G h.2.2.2.2.2.2.2.2.2.2 m x1) okX9_hasPerson inX9_hasPerson ml11_113 rfl rfl rfl rfl (by decide) (by decide) (Nat.le_of_ble_eq_true rfl) rfl dX11_joy_5 (fun r1 hr1 => ?_)
  refine j_if_eq (tgt := 22) h dX11_joy_8 (by decide) (fun c3 => ?_) (fun c3 => ?_)
  · refine j_iconst (v := (0 : Int32)) h dX11_joy_22 kiconst_0 ?_
    refine j_istore_n h dX11_joy_23 rfl rfl ?_
    refine j_iload_n h dX11_joy_24 rfl ?_
    refine j_if_eqB (tgt := 47) h dX11_joy_25 (by decide) (fun _ => ?_) (fun cc => absurd (by decide) cc)
    refine j_ldc (v := (-1000000 : Int32)) h dX11_joy_47 cn11_237 ?_
    exact j_iret h rfl dX11_joy_49
  · refine j_iload_n h dX11_joy_11 rfl ?_
    refine j_callSP h [.int x2] (kX11_isDate _ G h.2.2.2.2.2.2.2.2.2.2 m x2) okX11_isDate stX11_isDate ml11_173 rfl rfl (by decide) (by decide) (Nat.le_of_ble_eq_true rfl) rfl dX11_joy_12 (fun r4 hr4 => ?_)
    refine j_if_eq (tgt := 22) h dX11_joy_15 (by decide) (fun c6 => ?_) (fun c6 => ?_)
    · refine j_iconst (v := (0 : Int32)) h dX11_joy_22 kiconst_0 ?_
      refine j_istore_n h dX11_joy_23 rfl rfl ?_
      refine j_iload_n h dX11_joy_24 rfl ?_
      refine j_if_eqB (tgt := 47) h dX11_joy_25 (by decide) (fun _ => ?_) (fun cc => absurd (by decide) cc)
      refine j_ldc (v := (-1000000 : Int32)) h dX11_joy_47 cn11_237 ?_
      exact j_iret h rfl dX11_joy_49
    · refine j_iconst (v := (1 : Int32)) h dX11_joy_18 kiconst_1 ?_
      refine j_goto (tgt := 23) h dX11_joy_19 (by decide) ?_
      refine j_istore_n h dX11_joy_23 rfl rfl ?_
      refine j_iload_n h dX11_joy_24 rfl ?_
      refine j_if_eqB (tgt := 47) h dX11_joy_25 (by decide) (fun cc => absurd cc (by decide)) (fun _ => ?_)
      refine j_aload_n h dX11_joy_28 rfl ?_
      refine gC11_28 h dX11_joy_29 ?_
      refine j_iload_n h dX11_joy_32 rfl ?_
      refine j_aload_n h dX11_joy_33 rfl ?_
      refine gC11_28 h dX11_joy_34 ?_
      refine j_iload_n h dX11_joy_37 rfl ?_
      refine j_callVR (q0 := 26) (ci := 9) h [.int x2] (kX9_dayOf _ G h.2.2.2.2.2.2.2.2.2.2 m x2) okX9_dayOf inX9_dayOf ml11_176 rfl rfl rfl rfl (by decide) (by decide) (Nat.le_of_ble_eq_true rfl) rfl dX11_joy_38 (fun r7 m8 hr7 => ?_)
      refine j_gEq (fun hg9 => ?_)
      subst hg9
      refine j_callVI (q0 := 26) (ci := 9) h [.int x1, .ref (G.2.2 53)] (kX9_joyOf _ G h.2.2.2.2.2.2.2.2.2.2 m8 x1) okX9_joyOf inX9_joyOf ml11_246 rfl rfl rfl rfl (by decide) (by decide) (Nat.le_of_ble_eq_true rfl) rfl dX11_joy_41 (fun r10 m11 hr10 => ?_)
      refine j_goto (tgt := 49) h dX11_joy_44 (by decide) ?_
      exact j_iret h rfl dX11_joy_49
theorem dX11_lonely_0 : DD cX11_lonely 0 (.iload_n 1) 1 1 := ⟨by decide +kernel, rfl⟩
theorem dX11_lonely_1 : DD cX11_lonely 1 (.invokestatic 173) 3 4 := ⟨by decide +kernel, rfl⟩
theorem dX11_lonely_4 : DD cX11_lonely 4 (.ifCond .ne 5) 3 7 := ⟨by decide +kernel, rfl⟩
theorem dX11_lonely_7 : DD cX11_lonely 7 (.iconst (-1)) 1 8 := ⟨by decide +kernel, rfl⟩
theorem dX11_lonely_8 : DD cX11_lonely 8 (.ireturn) 1 9 := ⟨by decide +kernel, rfl⟩
theorem dX11_lonely_9 : DD cX11_lonely 9 (.aload_n 0) 1 10 := ⟨by decide +kernel, rfl⟩
theorem dX11_lonely_10 : DD cX11_lonely 10 (.getfield 28) 3 13 := ⟨by decide +kernel, rfl⟩
theorem dX11_lonely_13 : DD cX11_lonely 13 (.invokevirtual 249) 3 16 := ⟨by decide +kernel, rfl⟩
theorem dX11_lonely_16 : DD cX11_lonely 16 (.istore_n 2) 1 17 := ⟨by decide +kernel, rfl⟩
theorem dX11_lonely_17 : DD cX11_lonely 17 (.iconst 0) 1 18 := ⟨by decide +kernel, rfl⟩
theorem dX11_lonely_18 : DD cX11_lonely 18 (.istore_n 3) 1 19 := ⟨by decide +kernel, rfl⟩
theorem dX11_lonely_19 : DD cX11_lonely 19 (.iload_n 3) 1 20 := ⟨by decide +kernel, rfl⟩
theorem dX11_lonely_20 : DD cX11_lonely 20 (.aload_n 0) 1 21 := ⟨by decide +kernel, rfl⟩
theorem dX11_lonely_21 : DD cX11_lonely 21 (.getfield 28) 3 24 := ⟨by decide +kernel, rfl⟩
theorem dX11_lonely_24 : DD cX11_lonely 24 (.getfield 84) 3 27 := ⟨by decide +kernel, rfl⟩
theorem dX11_lonely_27 : DD cX11_lonely 27 (.getfield 223) 3 30 := ⟨by decide +kernel, rfl⟩
theorem dX11_lonely_30 : DD cX11_lonely 30 (.if_icmp .ge 44) 3 33 := ⟨by decide +kernel, rfl⟩
theorem dX11_lonely_33 : DD cX11_lonely 33 (.aload_n 0) 1 34 := ⟨by decide +kernel, rfl⟩
theorem dX11_lonely_34 : DD cX11_lonely 34 (.getfield 28) 3 37 := ⟨by decide +kernel, rfl⟩
theorem dX11_lonely_37 : DD cX11_lonely 37 (.iload_n 3) 1 38 := ⟨by decide +kernel, rfl⟩
theorem dX11_lonely_38 : DD cX11_lonely 38 (.aload_n 0) 1 39 := ⟨by decide +kernel, rfl⟩
theorem dX11_lonely_39 : DD cX11_lonely 39 (.getfield 28) 3 42 := ⟨by decide +kernel, rfl⟩
theorem dX11_lonely_42 : DD cX11_lonely 42 (.iload_n 1) 1 43 := ⟨by decide +kernel, rfl⟩
theorem dX11_lonely_43 : DD cX11_lonely 43 (.invokevirtual 176) 3 46 := ⟨by decide +kernel, rfl⟩
theorem dX11_lonely_46 : DD cX11_lonely 46 (.invokevirtual 169) 3 49 := ⟨by decide +kernel, rfl⟩
theorem dX11_lonely_49 : DD cX11_lonely 49 (.ifCond .eq 19) 3 52 := ⟨by decide +kernel, rfl⟩
theorem dX11_lonely_52 : DD cX11_lonely 52 (.iload_n 2) 1 53 := ⟨by decide +kernel, rfl⟩
theorem dX11_lonely_53 : DD cX11_lonely 53 (.aload_n 0) 1 54 := ⟨by decide +kernel, rfl⟩
theorem dX11_lonely_54 : DD cX11_lonely 54 (.getfield 28) 3 57 := ⟨by decide +kernel, rfl⟩
theorem dX11_lonely_57 : DD cX11_lonely 57 (.getfield 84) 3 60 := ⟨by decide +kernel, rfl⟩
theorem dX11_lonely_60 : DD cX11_lonely 60 (.iload_n 3) 1 61 := ⟨by decide +kernel, rfl⟩
theorem dX11_lonely_61 : DD cX11_lonely 61 (.invokevirtual 252) 3 64 := ⟨by decide +kernel, rfl⟩
theorem dX11_lonely_64 : DD cX11_lonely 64 (.iconst (-1)) 1 65 := ⟨by decide +kernel, rfl⟩
theorem dX11_lonely_65 : DD cX11_lonely 65 (.ixor) 1 66 := ⟨by decide +kernel, rfl⟩
theorem dX11_lonely_66 : DD cX11_lonely 66 (.iand) 1 67 := ⟨by decide +kernel, rfl⟩
theorem dX11_lonely_67 : DD cX11_lonely 67 (.istore_n 2) 1 68 := ⟨by decide +kernel, rfl⟩
theorem dX11_lonely_68 : DD cX11_lonely 68 (.iinc 3 1) 3 71 := ⟨by decide +kernel, rfl⟩
theorem dX11_lonely_71 : DD cX11_lonely 71 (.goto (-52)) 3 74 := ⟨by decide +kernel, rfl⟩
theorem dX11_lonely_74 : DD cX11_lonely 74 (.iload_n 2) 1 75 := ⟨by decide +kernel, rfl⟩
theorem dX11_lonely_75 : DD cX11_lonely 75 (.ireturn) 1 76 := ⟨by decide +kernel, rfl⟩
def gX11_lonely : Nat → Int32 → Int32 → Int32 → Mem → Option (Int32 × Mem)
  | 0, _, _, _, _ => none
  | f + 1, x1, x2, x3, m => (gPl (m.2.2 26 1) (if (m.1 (m.2.2 26 1) 5) ≤ x3 then (some (x2, m)) else (cR (fX9_dayOf m x1) fun r3 m4 => (gEq r3 53 (cP (fX9_canMeet m4 x3) fun r6 => (if r6 = 0 then (gX11_lonely f x1 x2 (x3 + (1 : Int32)) m4) else (gPl (m4.2.2 26 1) (cP (fX6_bothOf m4 (m4.2.2 26 1) x3) fun r10 => (nm (x2 &&& (r10 ^^^ (-1 : Int32))) fun v12 => (gX11_lonely f x1 v12 (x3 + (1 : Int32)) m4))))))))))
def fX11_lonely (m : Mem) (x1 : Int32) : Option (Int32 × Mem) := (cP (fX11_isDate x1) fun r1 => (if r1 = 0 then (some ((-1 : Int32), m)) else (cP (fX9_everybody m) fun r4 => (gX11_lonely 5000 x1 r4 (0 : Int32) m))))
set_option maxHeartbeats 4000000 in
set_option maxRecDepth 100000 in
theorem wX11_lonely {X : Cx} {G : Gt} (h : OkX (X, G, wC, nC) cX11_lonely RX11 4 (some .int) 5) : ∀ f : Nat, (∀ (x1 : Int32) (x2 : Int32) (x3 : Int32) (m : Mem), JR (X, G, wC, nC) cvI m 19 [some (.ref (G.2.2 0)), some (.int x1), some (.int x2), some (.int x3)] [] (gX11_lonely f x1 x2 x3 m)) := by
  intro f
  induction f with
  | zero => exact (fun _ _ _ _ => j_none)
  | succ f ih =>
    intro x1 x2 x3 m
    rw [gX11_lonely]
    refine j_iload_n h dX11_lonely_19 rfl ?_
    refine j_aload_n h dX11_lonely_20 rfl ?_
    refine gC11_28 h dX11_lonely_21 ?_
    refine gC11_84 h dX11_lonely_24 ?_
    refine j_gPl (fun hg1 => ?_)
    refine gC11_223 h hg1 dX11_lonely_27 ?_
    refine j_icmp_ge (tgt := 74) h dX11_lonely_30 (by decide) (fun c2 => ?_) (fun c2 => ?_)
    · refine j_iload_n h dX11_lonely_74 rfl ?_
      exact j_iret h rfl dX11_lonely_75
    · refine j_aload_n h dX11_lonely_33 rfl ?_
      refine gC11_28 h dX11_lonely_34 ?_
      refine j_iload_n h dX11_lonely_37 rfl ?_
      refine j_aload_n h dX11_lonely_38 rfl ?_
      refine gC11_28 h dX11_lonely_39 ?_
      refine j_iload_n h dX11_lonely_42 rfl ?_
      refine j_callVR (q0 := 26) (ci := 9) h [.int x1] (kX9_dayOf _ G h.2.2.2.2.2.2.2.2.2.2 m x1) okX9_dayOf inX9_dayOf ml11_176 rfl rfl rfl rfl (by decide) (by decide) (Nat.le_of_ble_eq_true rfl) rfl dX11_lonely_43 (fun r3 m4 hr3 => ?_)
      refine j_gEq (fun hg5 => ?_)
      subst hg5
      refine j_callVP (q0 := 26) (ci := 9) h [.int x3, .ref (G.2.2 53)] (kX9_canMeet _ G h.2.2.2.2.2.2.2.2.2.2 m4 x3) okX9_canMeet inX9_canMeet ml11_169 rfl rfl rfl rfl (by decide) (by decide) (Nat.le_of_ble_eq_true rfl) rfl dX11_lonely_46 (fun r6 hr6 => ?_)
      refine j_if_eq (tgt := 68) h dX11_lonely_49 (by decide) (fun c8 => ?_) (fun c8 => ?_)
      · refine j_iinc (v := (x3 + (1 : Int32))) h dX11_lonely_68 rfl (by rw [kiconst_1]) rfl ?_
        refine j_goto (tgt := 19) h dX11_lonely_71 (by decide) ?_
        refine j_wk (ls' := [some (.ref (G.2.2 0)), some (.int x1), some (.int x2), some (.int (x3 + (1 : Int32)))]) (And.intro rfl (And.intro rfl (And.intro rfl (And.intro rfl trivial)))) ?_
        exact ih x1 x2 (x3 + (1 : Int32)) m4
      · refine j_iload_n h dX11_lonely_52 rfl ?_
        refine j_aload_n h dX11_lonely_53 rfl ?_
        refine gC11_28 h dX11_lonely_54 ?_
        refine gC11_84 h dX11_lonely_57 ?_
        refine j_iload_n h dX11_lonely_60 rfl ?_
        refine j_gPl (fun hg9 => ?_)
        refine j_callVP (q0 := (m4.2.2 26 1)) (ci := 6) h [.int x3] (kX6_bothOf _ G h.2.2.2.2.2.2.2.2.2.2 m4 (m4.2.2 26 1) x3) okX6_bothOf inX6_bothOf ml11_252 rfl (at_Pl hg9) rfl rfl (by decide) (by decide) (Nat.le_of_ble_eq_true rfl) rfl dX11_lonely_61 (fun r10 hr10 => ?_)
        refine j_iconst (v := (-1 : Int32)) h dX11_lonely_64 kiconst_m1 ?_
        refine j_ixor h dX11_lonely_65 ?_
        refine j_iand h dX11_lonely_66 ?_
        refine j_nm (fun v12 hv12 => ?_)
        refine j_istore_n h dX11_lonely_67 rfl rfl ?_
        refine j_iinc (v := (x3 + (1 : Int32))) h dX11_lonely_68 rfl (by rw [kiconst_1]) rfl ?_
        refine j_goto (tgt := 19) h dX11_lonely_71 (by decide) ?_
        refine j_wk (ls' := [some (.ref (G.2.2 0)), some (.int x1), some (.int v12), some (.int (x3 + (1 : Int32)))]) (And.intro rfl (And.intro rfl (And.intro rfl (And.intro rfl trivial)))) ?_
        exact ih x1 v12 (x3 + (1 : Int32)) m4
set_option maxHeartbeats 4000000 in
set_option maxRecDepth 100000 in
theorem kX11_lonely (l : Launch) (G : Gt) (hD : ∀ m, va_D (inA G nC) (wC G m)) (m : Mem) (x1 : Int32) : ∀ a, fX11_lonely m x1 = some a → Ct l G wC nC yX11_lonely cX11_lonely 4 (some .int) 5 [.ref (G.2.2 0), .int x1] m (cvI a) := by
  refine ct_of (own := RX11) (ls0 := [some (.ref (G.2.2 0)), some (.int x1), none, none]) (by decide) rfl rfl rfl (Nat.le_of_ble_eq_true rfl) hD (fun X h => ?_) l
  unfold fX11_lonely
  refine j_iload_n h dX11_lonely_0 rfl ?_
  refine j_callSP h [.int x1] (kX11_isDate _ G h.2.2.2.2.2.2.2.2.2.2 m x1) okX11_isDate stX11_isDate ml11_173 rfl rfl (by decide) (by decide) (Nat.le_of_ble_eq_true rfl) rfl dX11_lonely_1 (fun r1 hr1 => ?_)
  refine j_if_ne (tgt := 9) h dX11_lonely_4 (by decide) (fun c3 => ?_) (fun c3 => ?_)
  · refine j_aload_n h dX11_lonely_9 rfl ?_
    refine gC11_28 h dX11_lonely_10 ?_
    refine j_callVP (q0 := 26) (ci := 9) h [] (kX9_everybody _ G h.2.2.2.2.2.2.2.2.2.2 m) okX9_everybody inX9_everybody ml11_249 rfl rfl rfl rfl (by decide) (by decide) (Nat.le_of_ble_eq_true rfl) rfl dX11_lonely_13 (fun r4 hr4 => ?_)
    refine j_istore_n h dX11_lonely_16 rfl rfl ?_
    refine j_iconst (v := (0 : Int32)) h dX11_lonely_17 kiconst_0 ?_
    refine j_istore_n h dX11_lonely_18 rfl rfl ?_
    refine j_wk (ls' := [some (.ref (G.2.2 0)), some (.int x1), some (.int r4), some (.int (0 : Int32))]) (And.intro rfl (And.intro rfl (And.intro rfl (And.intro rfl trivial)))) ?_
    exact (wX11_lonely h 5000) x1 r4 (0 : Int32) m
  · refine j_iconst (v := (-1 : Int32)) h dX11_lonely_7 kiconst_m1 ?_
    exact j_iret h rfl dX11_lonely_8
theorem dX11_hinges_0 : DD cX11_hinges 0 (.iload_n 1) 1 1 := ⟨by decide +kernel, rfl⟩
theorem dX11_hinges_1 : DD cX11_hinges 1 (.invokestatic 173) 3 4 := ⟨by decide +kernel, rfl⟩
theorem dX11_hinges_4 : DD cX11_hinges 4 (.ifCond .ne 5) 3 7 := ⟨by decide +kernel, rfl⟩
theorem dX11_hinges_7 : DD cX11_hinges 7 (.iconst (-1)) 1 8 := ⟨by decide +kernel, rfl⟩
theorem dX11_hinges_8 : DD cX11_hinges 8 (.ireturn) 1 9 := ⟨by decide +kernel, rfl⟩
theorem dX11_hinges_9 : DD cX11_hinges 9 (.ldc 255) 2 11 := ⟨by decide +kernel, rfl⟩
theorem dX11_hinges_11 : DD cX11_hinges 11 (.istore_n 2) 1 12 := ⟨by decide +kernel, rfl⟩
theorem dX11_hinges_12 : DD cX11_hinges 12 (.iconst 0) 1 13 := ⟨by decide +kernel, rfl⟩
theorem dX11_hinges_13 : DD cX11_hinges 13 (.istore_n 3) 1 14 := ⟨by decide +kernel, rfl⟩
theorem dX11_hinges_14 : DD cX11_hinges 14 (.iload_n 3) 1 15 := ⟨by decide +kernel, rfl⟩
theorem dX11_hinges_15 : DD cX11_hinges 15 (.aload_n 0) 1 16 := ⟨by decide +kernel, rfl⟩
theorem dX11_hinges_16 : DD cX11_hinges 16 (.getfield 28) 3 19 := ⟨by decide +kernel, rfl⟩
theorem dX11_hinges_19 : DD cX11_hinges 19 (.getfield 84) 3 22 := ⟨by decide +kernel, rfl⟩
theorem dX11_hinges_22 : DD cX11_hinges 22 (.getfield 104) 3 25 := ⟨by decide +kernel, rfl⟩
theorem dX11_hinges_25 : DD cX11_hinges 25 (.if_icmp .ge 28) 3 28 := ⟨by decide +kernel, rfl⟩
theorem dX11_hinges_28 : DD cX11_hinges 28 (.iload_n 2) 1 29 := ⟨by decide +kernel, rfl⟩
theorem dX11_hinges_29 : DD cX11_hinges 29 (.aload_n 0) 1 30 := ⟨by decide +kernel, rfl⟩
theorem dX11_hinges_30 : DD cX11_hinges 30 (.getfield 28) 3 33 := ⟨by decide +kernel, rfl⟩
theorem dX11_hinges_33 : DD cX11_hinges 33 (.iload_n 3) 1 34 := ⟨by decide +kernel, rfl⟩
theorem dX11_hinges_34 : DD cX11_hinges 34 (.aload_n 0) 1 35 := ⟨by decide +kernel, rfl⟩
theorem dX11_hinges_35 : DD cX11_hinges 35 (.getfield 28) 3 38 := ⟨by decide +kernel, rfl⟩
theorem dX11_hinges_38 : DD cX11_hinges 38 (.iload_n 1) 1 39 := ⟨by decide +kernel, rfl⟩
theorem dX11_hinges_39 : DD cX11_hinges 39 (.invokevirtual 176) 3 42 := ⟨by decide +kernel, rfl⟩
theorem dX11_hinges_42 : DD cX11_hinges 42 (.invokevirtual 256) 3 45 := ⟨by decide +kernel, rfl⟩
theorem dX11_hinges_45 : DD cX11_hinges 45 (.iand) 1 46 := ⟨by decide +kernel, rfl⟩
theorem dX11_hinges_46 : DD cX11_hinges 46 (.istore_n 2) 1 47 := ⟨by decide +kernel, rfl⟩
theorem dX11_hinges_47 : DD cX11_hinges 47 (.iinc 3 1) 3 50 := ⟨by decide +kernel, rfl⟩
theorem dX11_hinges_50 : DD cX11_hinges 50 (.goto (-36)) 3 53 := ⟨by decide +kernel, rfl⟩
theorem dX11_hinges_53 : DD cX11_hinges 53 (.iload_n 2) 1 54 := ⟨by decide +kernel, rfl⟩
theorem dX11_hinges_54 : DD cX11_hinges 54 (.ireturn) 1 55 := ⟨by decide +kernel, rfl⟩
def gX11_hinges : Nat → Int32 → Int32 → Int32 → Mem → Option (Int32 × Mem)
  | 0, _, _, _, _ => none
  | f + 1, x1, x2, x3, m => (gPl (m.2.2 26 1) (if (m.1 (m.2.2 26 1) 0) ≤ x3 then (some (x2, m)) else (cR (fX9_dayOf m x1) fun r3 m4 => (gEq r3 53 (cP (fX9_hoursAwake m4 x3) fun r6 => (nm (x2 &&& r6) fun v8 => (gX11_hinges f x1 v8 (x3 + (1 : Int32)) m4)))))))
def fX11_hinges (m : Mem) (x1 : Int32) : Option (Int32 × Mem) := (cP (fX11_isDate x1) fun r1 => (if r1 = 0 then (some ((-1 : Int32), m)) else (gX11_hinges 5000 x1 (16777215 : Int32) (0 : Int32) m)))
set_option maxHeartbeats 4000000 in
set_option maxRecDepth 100000 in
theorem wX11_hinges {X : Cx} {G : Gt} (h : OkX (X, G, wC, nC) cX11_hinges RX11 4 (some .int) 5) : ∀ f : Nat, (∀ (x1 : Int32) (x2 : Int32) (x3 : Int32) (m : Mem), JR (X, G, wC, nC) cvI m 14 [some (.ref (G.2.2 0)), some (.int x1), some (.int x2), some (.int x3)] [] (gX11_hinges f x1 x2 x3 m)) := by
  intro f
  induction f with
  | zero => exact (fun _ _ _ _ => j_none)
  | succ f ih =>
    intro x1 x2 x3 m
    rw [gX11_hinges]
    refine j_iload_n h dX11_hinges_14 rfl ?_
    refine j_aload_n h dX11_hinges_15 rfl ?_
    refine gC11_28 h dX11_hinges_16 ?_
    refine gC11_84 h dX11_hinges_19 ?_
    refine j_gPl (fun hg1 => ?_)
    refine gC11_104 h hg1 dX11_hinges_22 ?_
    refine j_icmp_ge (tgt := 53) h dX11_hinges_25 (by decide) (fun c2 => ?_) (fun c2 => ?_)
    · refine j_iload_n h dX11_hinges_53 rfl ?_
      exact j_iret h rfl dX11_hinges_54
    · refine j_iload_n h dX11_hinges_28 rfl ?_
      refine j_aload_n h dX11_hinges_29 rfl ?_
      refine gC11_28 h dX11_hinges_30 ?_
      refine j_iload_n h dX11_hinges_33 rfl ?_
      refine j_aload_n h dX11_hinges_34 rfl ?_
      refine gC11_28 h dX11_hinges_35 ?_
      refine j_iload_n h dX11_hinges_38 rfl ?_
      refine j_callVR (q0 := 26) (ci := 9) h [.int x1] (kX9_dayOf _ G h.2.2.2.2.2.2.2.2.2.2 m x1) okX9_dayOf inX9_dayOf ml11_176 rfl rfl rfl rfl (by decide) (by decide) (Nat.le_of_ble_eq_true rfl) rfl dX11_hinges_39 (fun r3 m4 hr3 => ?_)
      refine j_gEq (fun hg5 => ?_)
      subst hg5
      refine j_callVP (q0 := 26) (ci := 9) h [.int x3, .ref (G.2.2 53)] (kX9_hoursAwake _ G h.2.2.2.2.2.2.2.2.2.2 m4 x3) okX9_hoursAwake inX9_hoursAwake ml11_256 rfl rfl rfl rfl (by decide) (by decide) (Nat.le_of_ble_eq_true rfl) rfl dX11_hinges_42 (fun r6 hr6 => ?_)
      refine j_iand h dX11_hinges_45 ?_
      refine j_nm (fun v8 hv8 => ?_)
      refine j_istore_n h dX11_hinges_46 rfl rfl ?_
      refine j_iinc (v := (x3 + (1 : Int32))) h dX11_hinges_47 rfl (by rw [kiconst_1]) rfl ?_
      refine j_goto (tgt := 14) h dX11_hinges_50 (by decide) ?_
      refine j_wk (ls' := [some (.ref (G.2.2 0)), some (.int x1), some (.int v8), some (.int (x3 + (1 : Int32)))]) (And.intro rfl (And.intro rfl (And.intro rfl (And.intro rfl trivial)))) ?_
      exact ih x1 v8 (x3 + (1 : Int32)) m4
set_option maxHeartbeats 4000000 in
set_option maxRecDepth 100000 in
theorem kX11_hinges (l : Launch) (G : Gt) (hD : ∀ m, va_D (inA G nC) (wC G m)) (m : Mem) (x1 : Int32) : ∀ a, fX11_hinges m x1 = some a → Ct l G wC nC yX11_hinges cX11_hinges 4 (some .int) 5 [.ref (G.2.2 0), .int x1] m (cvI a) := by
  refine ct_of (own := RX11) (ls0 := [some (.ref (G.2.2 0)), some (.int x1), none, none]) (by decide) rfl rfl rfl (Nat.le_of_ble_eq_true rfl) hD (fun X h => ?_) l
  unfold fX11_hinges
  refine j_iload_n h dX11_hinges_0 rfl ?_
  refine j_callSP h [.int x1] (kX11_isDate _ G h.2.2.2.2.2.2.2.2.2.2 m x1) okX11_isDate stX11_isDate ml11_173 rfl rfl (by decide) (by decide) (Nat.le_of_ble_eq_true rfl) rfl dX11_hinges_1 (fun r1 hr1 => ?_)
  refine j_if_ne (tgt := 9) h dX11_hinges_4 (by decide) (fun c3 => ?_) (fun c3 => ?_)
  · refine j_ldc (v := (16777215 : Int32)) h dX11_hinges_9 cn11_255 ?_
    refine j_istore_n h dX11_hinges_11 rfl rfl ?_
    refine j_iconst (v := (0 : Int32)) h dX11_hinges_12 kiconst_0 ?_
    refine j_istore_n h dX11_hinges_13 rfl rfl ?_
    refine j_wk (ls' := [some (.ref (G.2.2 0)), some (.int x1), some (.int (16777215 : Int32)), some (.int (0 : Int32))]) (And.intro rfl (And.intro rfl (And.intro rfl (And.intro rfl trivial)))) ?_
    exact (wX11_hinges h 5000) x1 (16777215 : Int32) (0 : Int32) m
  · refine j_iconst (v := (-1 : Int32)) h dX11_hinges_7 kiconst_m1 ?_
    exact j_iret h rfl dX11_hinges_8
theorem dX11_loudest_0 : DD cX11_loudest 0 (.iload_n 1) 1 1 := ⟨by decide +kernel, rfl⟩
theorem dX11_loudest_1 : DD cX11_loudest 1 (.invokestatic 173) 3 4 := ⟨by decide +kernel, rfl⟩
theorem dX11_loudest_4 : DD cX11_loudest 4 (.ifCond .eq 12) 3 7 := ⟨by decide +kernel, rfl⟩
theorem dX11_loudest_7 : DD cX11_loudest 7 (.iload_n 2) 1 8 := ⟨by decide +kernel, rfl⟩
theorem dX11_loudest_8 : DD cX11_loudest 8 (.ifCond .lt 8) 3 11 := ⟨by decide +kernel, rfl⟩
theorem dX11_loudest_11 : DD cX11_loudest 11 (.iload_n 2) 1 12 := ⟨by decide +kernel, rfl⟩
theorem dX11_loudest_12 : DD cX11_loudest 12 (.iconst 1) 1 13 := ⟨by decide +kernel, rfl⟩
theorem dX11_loudest_13 : DD cX11_loudest 13 (.if_icmp .le 5) 3 16 := ⟨by decide +kernel, rfl⟩
theorem dX11_loudest_16 : DD cX11_loudest 16 (.iconst (-1)) 1 17 := ⟨by decide +kernel, rfl⟩
theorem dX11_loudest_17 : DD cX11_loudest 17 (.ireturn) 1 18 := ⟨by decide +kernel, rfl⟩
theorem dX11_loudest_18 : DD cX11_loudest 18 (.iconst (-1)) 1 19 := ⟨by decide +kernel, rfl⟩
theorem dX11_loudest_19 : DD cX11_loudest 19 (.istore_n 3) 1 20 := ⟨by decide +kernel, rfl⟩
theorem dX11_loudest_20 : DD cX11_loudest 20 (.iconst (-1)) 1 21 := ⟨by decide +kernel, rfl⟩
theorem dX11_loudest_21 : DD cX11_loudest 21 (.istore 4) 2 23 := ⟨by decide +kernel, rfl⟩
theorem dX11_loudest_23 : DD cX11_loudest 23 (.iconst 0) 1 24 := ⟨by decide +kernel, rfl⟩
theorem dX11_loudest_24 : DD cX11_loudest 24 (.istore 5) 2 26 := ⟨by decide +kernel, rfl⟩
theorem dX11_loudest_26 : DD cX11_loudest 26 (.iload 5) 2 28 := ⟨by decide +kernel, rfl⟩
theorem dX11_loudest_28 : DD cX11_loudest 28 (.aload_n 0) 1 29 := ⟨by decide +kernel, rfl⟩
theorem dX11_loudest_29 : DD cX11_loudest 29 (.getfield 28) 3 32 := ⟨by decide +kernel, rfl⟩
theorem dX11_loudest_32 : DD cX11_loudest 32 (.getfield 84) 3 35 := ⟨by decide +kernel, rfl⟩
theorem dX11_loudest_35 : DD cX11_loudest 35 (.getfield 104) 3 38 := ⟨by decide +kernel, rfl⟩
theorem dX11_loudest_38 : DD cX11_loudest 38 (.if_icmp .ge 58) 3 41 := ⟨by decide +kernel, rfl⟩
theorem dX11_loudest_41 : DD cX11_loudest 41 (.aload_n 0) 1 42 := ⟨by decide +kernel, rfl⟩
theorem dX11_loudest_42 : DD cX11_loudest 42 (.getfield 28) 3 45 := ⟨by decide +kernel, rfl⟩
theorem dX11_loudest_45 : DD cX11_loudest 45 (.iload 5) 2 47 := ⟨by decide +kernel, rfl⟩
theorem dX11_loudest_47 : DD cX11_loudest 47 (.invokevirtual 123) 3 50 := ⟨by decide +kernel, rfl⟩
theorem dX11_loudest_50 : DD cX11_loudest 50 (.ifCond .eq 7) 3 53 := ⟨by decide +kernel, rfl⟩
theorem dX11_loudest_53 : DD cX11_loudest 53 (.iconst (-1)) 1 54 := ⟨by decide +kernel, rfl⟩
theorem dX11_loudest_54 : DD cX11_loudest 54 (.goto 20) 3 57 := ⟨by decide +kernel, rfl⟩
theorem dX11_loudest_57 : DD cX11_loudest 57 (.aload_n 0) 1 58 := ⟨by decide +kernel, rfl⟩
theorem dX11_loudest_58 : DD cX11_loudest 58 (.getfield 28) 3 61 := ⟨by decide +kernel, rfl⟩
theorem dX11_loudest_61 : DD cX11_loudest 61 (.iload 5) 2 63 := ⟨by decide +kernel, rfl⟩
theorem dX11_loudest_63 : DD cX11_loudest 63 (.aload_n 0) 1 64 := ⟨by decide +kernel, rfl⟩
theorem dX11_loudest_64 : DD cX11_loudest 64 (.getfield 28) 3 67 := ⟨by decide +kernel, rfl⟩
theorem dX11_loudest_67 : DD cX11_loudest 67 (.iload_n 1) 1 68 := ⟨by decide +kernel, rfl⟩
theorem dX11_loudest_68 : DD cX11_loudest 68 (.invokevirtual 176) 3 71 := ⟨by decide +kernel, rfl⟩
theorem dX11_loudest_71 : DD cX11_loudest 71 (.invokevirtual 259) 3 74 := ⟨by decide +kernel, rfl⟩
theorem dX11_loudest_74 : DD cX11_loudest 74 (.istore 6) 2 76 := ⟨by decide +kernel, rfl⟩
theorem dX11_loudest_76 : DD cX11_loudest 76 (.iload 6) 2 78 := ⟨by decide +kernel, rfl⟩
theorem dX11_loudest_78 : DD cX11_loudest 78 (.iload 4) 2 80 := ⟨by decide +kernel, rfl⟩
theorem dX11_loudest_80 : DD cX11_loudest 80 (.if_icmp .le 10) 3 83 := ⟨by decide +kernel, rfl⟩
theorem dX11_loudest_83 : DD cX11_loudest 83 (.iload 5) 2 85 := ⟨by decide +kernel, rfl⟩
theorem dX11_loudest_85 : DD cX11_loudest 85 (.istore_n 3) 1 86 := ⟨by decide +kernel, rfl⟩
theorem dX11_loudest_86 : DD cX11_loudest 86 (.iload 6) 2 88 := ⟨by decide +kernel, rfl⟩
theorem dX11_loudest_88 : DD cX11_loudest 88 (.istore 4) 2 90 := ⟨by decide +kernel, rfl⟩
theorem dX11_loudest_90 : DD cX11_loudest 90 (.iinc 5 1) 3 93 := ⟨by decide +kernel, rfl⟩
theorem dX11_loudest_93 : DD cX11_loudest 93 (.goto (-67)) 3 96 := ⟨by decide +kernel, rfl⟩
theorem dX11_loudest_96 : DD cX11_loudest 96 (.iload_n 2) 1 97 := ⟨by decide +kernel, rfl⟩
theorem dX11_loudest_97 : DD cX11_loudest 97 (.ifCond .ne 7) 3 100 := ⟨by decide +kernel, rfl⟩
theorem dX11_loudest_100 : DD cX11_loudest 100 (.iload_n 3) 1 101 := ⟨by decide +kernel, rfl⟩
theorem dX11_loudest_101 : DD cX11_loudest 101 (.goto 5) 3 104 := ⟨by decide +kernel, rfl⟩
theorem dX11_loudest_104 : DD cX11_loudest 104 (.iload 4) 2 106 := ⟨by decide +kernel, rfl⟩
theorem dX11_loudest_106 : DD cX11_loudest 106 (.ireturn) 1 107 := ⟨by decide +kernel, rfl⟩
def gX11_loudest : Nat → Int32 → Int32 → Int32 → Int32 → Int32 → Mem → Option (Int32 × Mem)
  | 0, _, _, _, _, _, _ => none
  | f + 1, x1, x2, x3, x4, x5, m => (gPl (m.2.2 26 1) (if (m.1 (m.2.2 26 1) 0) ≤ x5 then (if x2 = 0 then (some (x3, m)) else (some (x4, m))) else (cP (fX9_isQuiet m x5) fun r4 => (if r4 = 0 then (cR (fX9_dayOf m x1) fun r7 m8 => (gEq r7 53 (cI (fX9_harmBy m8 x5) fun r10 m11 => (if r10 ≤ x4 then (gX11_loudest f x1 x2 x3 x4 (x5 + (1 : Int32)) m11) else (gX11_loudest f x1 x2 x5 r10 (x5 + (1 : Int32)) m11))))) else (if (-1 : Int32) ≤ x4 then (gX11_loudest f x1 x2 x3 x4 (x5 + (1 : Int32)) m) else (gX11_loudest f x1 x2 x5 (-1 : Int32) (x5 + (1 : Int32)) m))))))
def fX11_loudest (m : Mem) (x1 : Int32) (x2 : Int32) : Option (Int32 × Mem) := (cP (fX11_isDate x1) fun r1 => (if r1 = 0 then (some ((-1 : Int32), m)) else (if x2 < 0 then (some ((-1 : Int32), m)) else (if x2 ≤ (1 : Int32) then (gX11_loudest 5000 x1 x2 (-1 : Int32) (-1 : Int32) (0 : Int32) m) else (some ((-1 : Int32), m))))))
set_option maxHeartbeats 4000000 in
set_option maxRecDepth 100000 in
theorem wX11_loudest {X : Cx} {G : Gt} (h : OkX (X, G, wC, nC) cX11_loudest RX11 7 (some .int) 6) : ∀ f : Nat, (∀ (x1 : Int32) (x2 : Int32) (x3 : Int32) (x4 : Int32) (x5 : Int32) (m : Mem), JR (X, G, wC, nC) cvI m 26 [some (.ref (G.2.2 0)), some (.int x1), some (.int x2), some (.int x3), some (.int x4), some (.int x5), none] [] (gX11_loudest f x1 x2 x3 x4 x5 m)) := by
  intro f
  induction f with
  | zero => exact (fun _ _ _ _ _ _ => j_none)
  | succ f ih =>
    intro x1 x2 x3 x4 x5 m
    rw [gX11_loudest]
    refine j_iload h dX11_loudest_26 rfl ?_
    refine j_aload_n h dX11_loudest_28 rfl ?_
    refine gC11_28 h dX11_loudest_29 ?_
    refine gC11_84 h dX11_loudest_32 ?_
    refine j_gPl (fun hg1 => ?_)
    refine gC11_104 h hg1 dX11_loudest_35 ?_
    refine j_icmp_ge (tgt := 96) h dX11_loudest_38 (by decide) (fun c2 => ?_) (fun c2 => ?_)
    · refine j_iload_n h dX11_loudest_96 rfl ?_
      refine j_if_ne (tgt := 104) h dX11_loudest_97 (by decide) (fun c3 => ?_) (fun c3 => ?_)
      · refine j_iload h dX11_loudest_104 rfl ?_
        exact j_iret h rfl dX11_loudest_106
      · refine j_iload_n h dX11_loudest_100 rfl ?_
        refine j_goto (tgt := 106) h dX11_loudest_101 (by decide) ?_
        exact j_iret h rfl dX11_loudest_106
    · refine j_aload_n h dX11_loudest_41 rfl ?_
      refine gC11_28 h dX11_loudest_42 ?_
      refine j_iload h dX11_loudest_45 rfl ?_
      refine j_callVP (q0 := 26) (ci := 9) h [.int x5] (kX9_isQuiet _ G h.2.2.2.2.2.2.2.2.2.2 m x5) okX9_isQuiet inX9_isQuiet ml11_123 rfl rfl rfl rfl (by decide) (by decide) (Nat.le_of_ble_eq_true rfl) rfl dX11_loudest_47 (fun r4 hr4 => ?_)
      refine j_if_eq (tgt := 57) h dX11_loudest_50 (by decide) (fun c6 => ?_) (fun c6 => ?_)
      · refine j_aload_n h dX11_loudest_57 rfl ?_
        refine gC11_28 h dX11_loudest_58 ?_
        refine j_iload h dX11_loudest_61 rfl ?_
        refine j_aload_n h dX11_loudest_63 rfl ?_
        refine gC11_28 h dX11_loudest_64 ?_
        refine j_iload_n h dX11_loudest_67 rfl ?_
        refine j_callVR (q0 := 26) (ci := 9) h [.int x1] (kX9_dayOf _ G h.2.2.2.2.2.2.2.2.2.2 m x1) okX9_dayOf inX9_dayOf ml11_176 rfl rfl rfl rfl (by decide) (by decide) (Nat.le_of_ble_eq_true rfl) rfl dX11_loudest_68 (fun r7 m8 hr7 => ?_)
        refine j_gEq (fun hg9 => ?_)
        subst hg9
        refine j_callVI (q0 := 26) (ci := 9) h [.int x5, .ref (G.2.2 53)] (kX9_harmBy _ G h.2.2.2.2.2.2.2.2.2.2 m8 x5) okX9_harmBy inX9_harmBy ml11_259 rfl rfl rfl rfl (by decide) (by decide) (Nat.le_of_ble_eq_true rfl) rfl dX11_loudest_71 (fun r10 m11 hr10 => ?_)
        refine j_istore h dX11_loudest_74 rfl rfl ?_
        refine j_iload h dX11_loudest_76 rfl ?_
        refine j_iload h dX11_loudest_78 rfl ?_
        refine j_icmp_le (tgt := 90) h dX11_loudest_80 (by decide) (fun c12 => ?_) (fun c12 => ?_)
        · refine j_iinc (v := (x5 + (1 : Int32))) h dX11_loudest_90 rfl (by rw [kiconst_1]) rfl ?_
          refine j_goto (tgt := 26) h dX11_loudest_93 (by decide) ?_
          refine j_wk (ls' := [some (.ref (G.2.2 0)), some (.int x1), some (.int x2), some (.int x3), some (.int x4), some (.int (x5 + (1 : Int32))), none]) (And.intro rfl (And.intro rfl (And.intro rfl (And.intro rfl (And.intro rfl (And.intro rfl trivial)))))) ?_
          exact ih x1 x2 x3 x4 (x5 + (1 : Int32)) m11
        · refine j_iload h dX11_loudest_83 rfl ?_
          refine j_istore_n h dX11_loudest_85 rfl rfl ?_
          refine j_iload h dX11_loudest_86 rfl ?_
          refine j_istore h dX11_loudest_88 rfl rfl ?_
          refine j_iinc (v := (x5 + (1 : Int32))) h dX11_loudest_90 rfl (by rw [kiconst_1]) rfl ?_
          refine j_goto (tgt := 26) h dX11_loudest_93 (by decide) ?_
          refine j_wk (ls' := [some (.ref (G.2.2 0)), some (.int x1), some (.int x2), some (.int x5), some (.int r10), some (.int (x5 + (1 : Int32))), none]) (And.intro rfl (And.intro rfl (And.intro rfl (And.intro rfl (And.intro rfl (And.intro rfl trivial)))))) ?_
          exact ih x1 x2 x5 r10 (x5 + (1 : Int32)) m11
      · refine j_iconst (v := (-1 : Int32)) h dX11_loudest_53 kiconst_m1 ?_
        refine j_goto (tgt := 74) h dX11_loudest_54 (by decide) ?_
        refine j_istore h dX11_loudest_74 rfl rfl ?_
        refine j_iload h dX11_loudest_76 rfl ?_
        refine j_iload h dX11_loudest_78 rfl ?_
        refine j_icmp_le (tgt := 90) h dX11_loudest_80 (by decide) (fun c13 => ?_) (fun c13 => ?_)
        · refine j_iinc (v := (x5 + (1 : Int32))) h dX11_loudest_90 rfl (by rw [kiconst_1]) rfl ?_
          refine j_goto (tgt := 26) h dX11_loudest_93 (by decide) ?_
          refine j_wk (ls' := [some (.ref (G.2.2 0)), some (.int x1), some (.int x2), some (.int x3), some (.int x4), some (.int (x5 + (1 : Int32))), none]) (And.intro rfl (And.intro rfl (And.intro rfl (And.intro rfl (And.intro rfl (And.intro rfl trivial)))))) ?_
          exact ih x1 x2 x3 x4 (x5 + (1 : Int32)) m
        · refine j_iload h dX11_loudest_83 rfl ?_
          refine j_istore_n h dX11_loudest_85 rfl rfl ?_
          refine j_iload h dX11_loudest_86 rfl ?_
          refine j_istore h dX11_loudest_88 rfl rfl ?_
          refine j_iinc (v := (x5 + (1 : Int32))) h dX11_loudest_90 rfl (by rw [kiconst_1]) rfl ?_
          refine j_goto (tgt := 26) h dX11_loudest_93 (by decide) ?_
          refine j_wk (ls' := [some (.ref (G.2.2 0)), some (.int x1), some (.int x2), some (.int x5), some (.int (-1 : Int32)), some (.int (x5 + (1 : Int32))), none]) (And.intro rfl (And.intro rfl (And.intro rfl (And.intro rfl (And.intro rfl (And.intro rfl trivial)))))) ?_
          exact ih x1 x2 x5 (-1 : Int32) (x5 + (1 : Int32)) m
set_option maxHeartbeats 4000000 in
set_option maxRecDepth 100000 in
theorem kX11_loudest (l : Launch) (G : Gt) (hD : ∀ m, va_D (inA G nC) (wC G m)) (m : Mem) (x1 : Int32) (x2 : Int32) : ∀ a, fX11_loudest m x1 x2 = some a → Ct l G wC nC yX11_loudest cX11_loudest 7 (some .int) 6 [.ref (G.2.2 0), .int x1, .int x2] m (cvI a) := by
  refine ct_of (own := RX11) (ls0 := [some (.ref (G.2.2 0)), some (.int x1), some (.int x2), none, none, none, none]) (by decide) rfl rfl rfl (Nat.le_of_ble_eq_true rfl) hD (fun X h => ?_) l
  unfold fX11_loudest
  refine j_iload_n h dX11_loudest_0 rfl ?_
  refine j_callSP h [.int x1] (kX11_isDate _ G h.2.2.2.2.2.2.2.2.2.2 m x1) okX11_isDate stX11_isDate ml11_173 rfl rfl (by decide) (by decide) (Nat.le_of_ble_eq_true rfl) rfl dX11_loudest_1 (fun r1 hr1 => ?_)
  refine j_if_eq (tgt := 16) h dX11_loudest_4 (by decide) (fun c3 => ?_) (fun c3 => ?_)
  · refine j_iconst (v := (-1 : Int32)) h dX11_loudest_16 kiconst_m1 ?_
    exact j_iret h rfl dX11_loudest_17
  · refine j_iload_n h dX11_loudest_7 rfl ?_
    refine j_if_lt (tgt := 16) h dX11_loudest_8 (by decide) (fun c4 => ?_) (fun c4 => ?_)
    · refine j_iconst (v := (-1 : Int32)) h dX11_loudest_16 kiconst_m1 ?_
      exact j_iret h rfl dX11_loudest_17
    · refine j_iload_n h dX11_loudest_11 rfl ?_
      refine j_iconst (v := (1 : Int32)) h dX11_loudest_12 kiconst_1 ?_
      refine j_icmp_le (tgt := 18) h dX11_loudest_13 (by decide) (fun c5 => ?_) (fun c5 => ?_)
      · refine j_iconst (v := (-1 : Int32)) h dX11_loudest_18 kiconst_m1 ?_
        refine j_istore_n h dX11_loudest_19 rfl rfl ?_
        refine j_iconst (v := (-1 : Int32)) h dX11_loudest_20 kiconst_m1 ?_
        refine j_istore h dX11_loudest_21 rfl rfl ?_
        refine j_iconst (v := (0 : Int32)) h dX11_loudest_23 kiconst_0 ?_
        refine j_istore h dX11_loudest_24 rfl rfl ?_
        refine j_wk (ls' := [some (.ref (G.2.2 0)), some (.int x1), some (.int x2), some (.int (-1 : Int32)), some (.int (-1 : Int32)), some (.int (0 : Int32)), none]) (And.intro rfl (And.intro rfl (And.intro rfl (And.intro rfl (And.intro rfl (And.intro rfl trivial)))))) ?_
        exact (wX11_loudest h 5000) x1 x2 (-1 : Int32) (-1 : Int32) (0 : Int32) m
      · refine j_iconst (v := (-1 : Int32)) h dX11_loudest_16 kiconst_m1 ?_
        exact j_iret h rfl dX11_loudest_17
theorem dX11_rest_0 : DD cX11_rest 0 (.aload_n 0) 1 1 := ⟨by decide +kernel, rfl⟩
theorem dX11_rest_1 : DD cX11_rest 1 (.getfield 42) 3 4 := ⟨by decide +kernel, rfl⟩
theorem dX11_rest_4 : DD cX11_rest 4 (.aload_n 0) 1 5 := ⟨by decide +kernel, rfl⟩
theorem dX11_rest_5 : DD cX11_rest 5 (.getfield 28) 3 8 := ⟨by decide +kernel, rfl⟩
theorem dX11_rest_8 : DD cX11_rest 8 (.invokevirtual 238) 3 11 := ⟨by decide +kernel, rfl⟩
theorem dX11_rest_11 : DD cX11_rest 11 (.aload_n 0) 1 12 := ⟨by decide +kernel, rfl⟩
theorem dX11_rest_12 : DD cX11_rest 12 (.getfield 42) 3 15 := ⟨by decide +kernel, rfl⟩
theorem dX11_rest_15 : DD cX11_rest 15 (.aload_n 0) 1 16 := ⟨by decide +kernel, rfl⟩
theorem dX11_rest_16 : DD cX11_rest 16 (.getfield 61) 3 19 := ⟨by decide +kernel, rfl⟩
theorem dX11_rest_19 : DD cX11_rest 19 (.invokevirtual 262) 3 22 := ⟨by decide +kernel, rfl⟩
theorem dX11_rest_22 : DD cX11_rest 22 (.istore_n 1) 1 23 := ⟨by decide +kernel, rfl⟩
theorem dX11_rest_23 : DD cX11_rest 23 (.aload_n 0) 1 24 := ⟨by decide +kernel, rfl⟩
theorem dX11_rest_24 : DD cX11_rest 24 (.iload_n 1) 1 25 := ⟨by decide +kernel, rfl⟩
theorem dX11_rest_25 : DD cX11_rest 25 (.iconst (-1)) 1 26 := ⟨by decide +kernel, rfl⟩
theorem dX11_rest_26 : DD cX11_rest 26 (.if_icmp .ne 7) 3 29 := ⟨by decide +kernel, rfl⟩
theorem dX11_rest_29 : DD cX11_rest 29 (.iconst 0) 1 30 := ⟨by decide +kernel, rfl⟩
theorem dX11_rest_30 : DD cX11_rest 30 (.goto 13) 3 33 := ⟨by decide +kernel, rfl⟩
theorem dX11_rest_33 : DD cX11_rest 33 (.aload_n 0) 1 34 := ⟨by decide +kernel, rfl⟩
theorem dX11_rest_34 : DD cX11_rest 34 (.getfield 28) 3 37 := ⟨by decide +kernel, rfl⟩
theorem dX11_rest_37 : DD cX11_rest 37 (.getfield 84) 3 40 := ⟨by decide +kernel, rfl⟩
theorem dX11_rest_40 : DD cX11_rest 40 (.getfield 104) 3 43 := ⟨by decide +kernel, rfl⟩
theorem dX11_rest_43 : DD cX11_rest 43 (.putfield 98) 3 46 := ⟨by decide +kernel, rfl⟩
theorem dX11_rest_46 : DD cX11_rest 46 (.iload_n 1) 1 47 := ⟨by decide +kernel, rfl⟩
theorem dX11_rest_47 : DD cX11_rest 47 (.ireturn) 1 48 := ⟨by decide +kernel, rfl⟩
def fX11_rest (m : Mem) : Option (Int32 × Mem) := (cV (fX1_weigh m) fun m2 => (cI (fX1_comeToRest m2) fun r3 m4 => (if r3 = (-1 : Int32) then (pt (sI m4 0 9 (0 : Int32)) fun m8 => (some (r3, m8))) else (gPl (m4.2.2 26 1) (pt (sI m4 0 9 (m4.1 (m4.2.2 26 1) 0)) fun m7 => (some (r3, m7)))))))
set_option maxHeartbeats 4000000 in
set_option maxRecDepth 100000 in
theorem kX11_rest (l : Launch) (G : Gt) (hD : ∀ m, va_D (inA G nC) (wC G m)) (m : Mem) : ∀ a, fX11_rest m = some a → Ct l G wC nC yX11_rest cX11_rest 2 (some .int) 7 [.ref (G.2.2 0)] m (cvI a) := by
  refine ct_of (own := RX11) (ls0 := [some (.ref (G.2.2 0)), none]) (by decide) rfl rfl rfl (Nat.le_of_ble_eq_true rfl) hD (fun X h => ?_) l
  unfold fX11_rest
  refine j_aload_n h dX11_rest_0 rfl ?_
  refine gC11_42 h dX11_rest_1 ?_
  refine j_aload_n h dX11_rest_4 rfl ?_
  refine gC11_28 h dX11_rest_5 ?_
  refine j_callVV (q0 := 58) (ci := 1) h [.ref (G.2.2 26)] (kX1_weigh _ G h.2.2.2.2.2.2.2.2.2.2 m) okX1_weigh inX1_weigh ml11_238 rfl rfl rfl rfl (by decide) (by decide) (Nat.le_of_ble_eq_true rfl) rfl dX11_rest_8 (fun m2 hm2 => ?_)
  refine j_aload_n h dX11_rest_11 rfl ?_
  refine gC11_42 h dX11_rest_12 ?_
  refine j_aload_n h dX11_rest_15 rfl ?_
  refine gC11_61 h dX11_rest_16 ?_
  refine j_callVI (q0 := 58) (ci := 1) h [.ref (G.2.2 73)] (kX1_comeToRest _ G h.2.2.2.2.2.2.2.2.2.2 m2) okX1_comeToRest inX1_comeToRest ml11_262 rfl rfl rfl rfl (by decide) (by decide) (Nat.le_of_ble_eq_true rfl) rfl dX11_rest_19 (fun r3 m4 hr3 => ?_)
  refine j_istore_n h dX11_rest_22 rfl rfl ?_
  refine j_aload_n h dX11_rest_23 rfl ?_
  refine j_iload_n h dX11_rest_24 rfl ?_
  refine j_iconst (v := (-1 : Int32)) h dX11_rest_25 kiconst_m1 ?_
  refine j_icmp_ne (tgt := 33) h dX11_rest_26 (by decide) (fun c5 => ?_) (fun c5 => ?_)
  · refine j_aload_n h dX11_rest_33 rfl ?_
    refine gC11_28 h dX11_rest_34 ?_
    refine gC11_84 h dX11_rest_37 ?_
    refine j_gPl (fun hg6 => ?_)
    refine gC11_104 h hg6 dX11_rest_40 ?_
    refine pC11_98 h dX11_rest_43 (fun m7 hm7 => ?_)
    refine j_iload_n h dX11_rest_46 rfl ?_
    exact j_iret h rfl dX11_rest_47
  · refine j_iconst (v := (0 : Int32)) h dX11_rest_29 kiconst_0 ?_
    refine j_goto (tgt := 43) h dX11_rest_30 (by decide) ?_
    refine pC11_98 h dX11_rest_43 (fun m8 hm8 => ?_)
    refine j_iload_n h dX11_rest_46 rfl ?_
    exact j_iret h rfl dX11_rest_47
theorem dX11_shop_0 : DD cX11_shop 0 (.iload_n 1) 1 1 := ⟨by decide +kernel, rfl⟩
theorem dX11_shop_1 : DD cX11_shop 1 (.ifCond .lt 21) 3 4 := ⟨by decide +kernel, rfl⟩
theorem dX11_shop_4 : DD cX11_shop 4 (.iload_n 1) 1 5 := ⟨by decide +kernel, rfl⟩
theorem dX11_shop_5 : DD cX11_shop 5 (.iconst 1) 1 6 := ⟨by decide +kernel, rfl⟩
theorem dX11_shop_6 : DD cX11_shop 6 (.if_icmp .gt 16) 3 9 := ⟨by decide +kernel, rfl⟩
theorem dX11_shop_9 : DD cX11_shop 9 (.aload_n 0) 1 10 := ⟨by decide +kernel, rfl⟩
theorem dX11_shop_10 : DD cX11_shop 10 (.getfield 28) 3 13 := ⟨by decide +kernel, rfl⟩
theorem dX11_shop_13 : DD cX11_shop 13 (.getfield 84) 3 16 := ⟨by decide +kernel, rfl⟩
theorem dX11_shop_16 : DD cX11_shop 16 (.getfield 104) 3 19 := ⟨by decide +kernel, rfl⟩
theorem dX11_shop_19 : DD cX11_shop 19 (.ifCond .ne 5) 3 22 := ⟨by decide +kernel, rfl⟩
theorem dX11_shop_22 : DD cX11_shop 22 (.iconst (-1)) 1 23 := ⟨by decide +kernel, rfl⟩
theorem dX11_shop_23 : DD cX11_shop 23 (.ireturn) 1 24 := ⟨by decide +kernel, rfl⟩
theorem dX11_shop_24 : DD cX11_shop 24 (.iconst 1) 1 25 := ⟨by decide +kernel, rfl⟩
theorem dX11_shop_25 : DD cX11_shop 25 (.istore_n 2) 1 26 := ⟨by decide +kernel, rfl⟩
theorem dX11_shop_26 : DD cX11_shop 26 (.iload_n 2) 1 27 := ⟨by decide +kernel, rfl⟩
theorem dX11_shop_27 : DD cX11_shop 27 (.bipush 24) 2 29 := ⟨by decide +kernel, rfl⟩
theorem dX11_shop_29 : DD cX11_shop 29 (.if_icmp .gt 47) 3 32 := ⟨by decide +kernel, rfl⟩
theorem dX11_shop_32 : DD cX11_shop 32 (.iconst 0) 1 33 := ⟨by decide +kernel, rfl⟩
theorem dX11_shop_33 : DD cX11_shop 33 (.istore_n 3) 1 34 := ⟨by decide +kernel, rfl⟩
theorem dX11_shop_34 : DD cX11_shop 34 (.iload_n 3) 1 35 := ⟨by decide +kernel, rfl⟩
theorem dX11_shop_35 : DD cX11_shop 35 (.iload_n 2) 1 36 := ⟨by decide +kernel, rfl⟩
theorem dX11_shop_36 : DD cX11_shop 36 (.iadd) 1 37 := ⟨by decide +kernel, rfl⟩
theorem dX11_shop_37 : DD cX11_shop 37 (.bipush 24) 2 39 := ⟨by decide +kernel, rfl⟩
theorem dX11_shop_39 : DD cX11_shop 39 (.if_icmp .gt 31) 3 42 := ⟨by decide +kernel, rfl⟩
theorem dX11_shop_42 : DD cX11_shop 42 (.aload_n 0) 1 43 := ⟨by decide +kernel, rfl⟩
theorem dX11_shop_43 : DD cX11_shop 43 (.getfield 28) 3 46 := ⟨by decide +kernel, rfl⟩
theorem dX11_shop_46 : DD cX11_shop 46 (.iload_n 3) 1 47 := ⟨by decide +kernel, rfl⟩
theorem dX11_shop_47 : DD cX11_shop 47 (.iload_n 2) 1 48 := ⟨by decide +kernel, rfl⟩
theorem dX11_shop_48 : DD cX11_shop 48 (.invokevirtual 265) 3 51 := ⟨by decide +kernel, rfl⟩
theorem dX11_shop_51 : DD cX11_shop 51 (.ifCond .eq 13) 3 54 := ⟨by decide +kernel, rfl⟩
theorem dX11_shop_54 : DD cX11_shop 54 (.iload_n 1) 1 55 := ⟨by decide +kernel, rfl⟩
theorem dX11_shop_55 : DD cX11_shop 55 (.ifCond .ne 7) 3 58 := ⟨by decide +kernel, rfl⟩
theorem dX11_shop_58 : DD cX11_shop 58 (.iload_n 3) 1 59 := ⟨by decide +kernel, rfl⟩
theorem dX11_shop_59 : DD cX11_shop 59 (.goto 4) 3 62 := ⟨by decide +kernel, rfl⟩
theorem dX11_shop_62 : DD cX11_shop 62 (.iload_n 2) 1 63 := ⟨by decide +kernel, rfl⟩
theorem dX11_shop_63 : DD cX11_shop 63 (.ireturn) 1 64 := ⟨by decide +kernel, rfl⟩
theorem dX11_shop_64 : DD cX11_shop 64 (.iinc 3 1) 3 67 := ⟨by decide +kernel, rfl⟩
theorem dX11_shop_67 : DD cX11_shop 67 (.goto (-33)) 3 70 := ⟨by decide +kernel, rfl⟩
theorem dX11_shop_70 : DD cX11_shop 70 (.iinc 2 1) 3 73 := ⟨by decide +kernel, rfl⟩
theorem dX11_shop_73 : DD cX11_shop 73 (.goto (-47)) 3 76 := ⟨by decide +kernel, rfl⟩
theorem dX11_shop_76 : DD cX11_shop 76 (.iconst (-1)) 1 77 := ⟨by decide +kernel, rfl⟩
theorem dX11_shop_77 : DD cX11_shop 77 (.ireturn) 1 78 := ⟨by decide +kernel, rfl⟩
def gX11_shop : Nat → Nat → Int32 → Int32 → Int32 → Mem → Option (Int32 × Mem)
  | 0, _, _, _, _, _ => none
  | f + 1, 0, x1, x2, x3, m => (if (24 : Int32) < x2 then (some ((-1 : Int32), m)) else (gX11_shop f 1 x1 x2 (0 : Int32) m))
  | f + 1, 1, x1, x2, x3, m => (if (24 : Int32) < (x3 + x2) then (gX11_shop f 0 x1 (x2 + (1 : Int32)) 0 m) else (cI (fX9_allServed m x3 x2) fun r2 m3 => (if r2 = 0 then (gX11_shop f 1 x1 x2 (x3 + (1 : Int32)) m3) else (if x1 = 0 then (some (x3, m3)) else (some (x2, m3))))))
  | _ + 1, _ + 2, _, _, _, _ => none
def fX11_shop (m : Mem) (x1 : Int32) : Option (Int32 × Mem) := (if x1 < 0 then (some ((-1 : Int32), m)) else (if (1 : Int32) < x1 then (some ((-1 : Int32), m)) else (gPl (m.2.2 26 1) (if (m.1 (m.2.2 26 1) 0) = 0 then (some ((-1 : Int32), m)) else (gX11_shop 5000 0 x1 (1 : Int32) 0 m)))))
set_option maxHeartbeats 4000000 in
set_option maxRecDepth 100000 in
theorem wX11_shop {X : Cx} {G : Gt} (h : OkX (X, G, wC, nC) cX11_shop RX11 4 (some .int) 7) : ∀ f : Nat, (∀ (x1 : Int32) (x2 : Int32) (x3 : Int32) (m : Mem), JR (X, G, wC, nC) cvI m 26 [some (.ref (G.2.2 0)), some (.int x1), some (.int x2), none] [] (gX11_shop f 0 x1 x2 x3 m)) ∧ (∀ (x1 : Int32) (x2 : Int32) (x3 : Int32) (m : Mem), JR (X, G, wC, nC) cvI m 34 [some (.ref (G.2.2 0)), some (.int x1), some (.int x2), some (.int x3)] [] (gX11_shop f 1 x1 x2 x3 m)) := by
  intro f
  induction f with
  | zero => exact ⟨(fun _ _ _ _ => j_none), (fun _ _ _ _ => j_none)⟩
  | succ f ih =>
    refine ⟨?_, ?_⟩
    · intro x1 x2 x3 m
      rw [gX11_shop]
      refine j_iload_n h dX11_shop_26 rfl ?_
      refine j_bipush (v := (24 : Int32)) h dX11_shop_27 kbipush_24 ?_
      refine j_icmp_gt (tgt := 76) h dX11_shop_29 (by decide) (fun c1 => ?_) (fun c1 => ?_)
      · refine j_iconst (v := (-1 : Int32)) h dX11_shop_76 kiconst_m1 ?_
        exact j_iret h rfl dX11_shop_77
      · refine j_iconst (v := (0 : Int32)) h dX11_shop_32 kiconst_0 ?_
        refine j_istore_n h dX11_shop_33 rfl rfl ?_
        refine j_wk (ls' := [some (.ref (G.2.2 0)), some (.int x1), some (.int x2), some (.int (0 : Int32))]) (And.intro rfl (And.intro rfl (And.intro rfl (And.intro rfl trivial)))) ?_
        exact ih.2 x1 x2 (0 : Int32) m
    · intro x1 x2 x3 m
      rw [gX11_shop]
      refine j_iload_n h dX11_shop_34 rfl ?_
      refine j_iload_n h dX11_shop_35 rfl ?_
      refine j_iadd h dX11_shop_36 ?_
      refine j_bipush (v := (24 : Int32)) h dX11_shop_37 kbipush_24 ?_
      refine j_icmp_gt (tgt := 70) h dX11_shop_39 (by decide) (fun c1 => ?_) (fun c1 => ?_)
      · refine j_iinc (v := (x2 + (1 : Int32))) h dX11_shop_70 rfl (by rw [kiconst_1]) rfl ?_
        refine j_goto (tgt := 26) h dX11_shop_73 (by decide) ?_
        refine j_wk (ls' := [some (.ref (G.2.2 0)), some (.int x1), some (.int (x2 + (1 : Int32))), none]) (And.intro rfl (And.intro rfl (And.intro rfl trivial))) ?_
        exact ih.1 x1 (x2 + (1 : Int32)) 0 m
      · refine j_aload_n h dX11_shop_42 rfl ?_
        refine gC11_28 h dX11_shop_43 ?_
        refine j_iload_n h dX11_shop_46 rfl ?_
        refine j_iload_n h dX11_shop_47 rfl ?_
        refine j_callVI (q0 := 26) (ci := 9) h [.int x3, .int x2] (kX9_allServed _ G h.2.2.2.2.2.2.2.2.2.2 m x3 x2) okX9_allServed inX9_allServed ml11_265 rfl rfl rfl rfl (by decide) (by decide) (Nat.le_of_ble_eq_true rfl) rfl dX11_shop_48 (fun r2 m3 hr2 => ?_)
        refine j_if_eq (tgt := 64) h dX11_shop_51 (by decide) (fun c4 => ?_) (fun c4 => ?_)
        · refine j_iinc (v := (x3 + (1 : Int32))) h dX11_shop_64 rfl (by rw [kiconst_1]) rfl ?_
          refine j_goto (tgt := 34) h dX11_shop_67 (by decide) ?_
          refine j_wk (ls' := [some (.ref (G.2.2 0)), some (.int x1), some (.int x2), some (.int (x3 + (1 : Int32)))]) (And.intro rfl (And.intro rfl (And.intro rfl (And.intro rfl trivial)))) ?_
          exact ih.2 x1 x2 (x3 + (1 : Int32)) m3
        · refine j_iload_n h dX11_shop_54 rfl ?_
          refine j_if_ne (tgt := 62) h dX11_shop_55 (by decide) (fun c5 => ?_) (fun c5 => ?_)
          · refine j_iload_n h dX11_shop_62 rfl ?_
            exact j_iret h rfl dX11_shop_63
          · refine j_iload_n h dX11_shop_58 rfl ?_
            refine j_goto (tgt := 63) h dX11_shop_59 (by decide) ?_
            exact j_iret h rfl dX11_shop_63
set_option maxHeartbeats 4000000 in
set_option maxRecDepth 100000 in
theorem kX11_shop (l : Launch) (G : Gt) (hD : ∀ m, va_D (inA G nC) (wC G m)) (m : Mem) (x1 : Int32) : ∀ a, fX11_shop m x1 = some a → Ct l G wC nC yX11_shop cX11_shop 4 (some .int) 7 [.ref (G.2.2 0), .int x1] m (cvI a) := by
  refine ct_of (own := RX11) (ls0 := [some (.ref (G.2.2 0)), some (.int x1), none, none]) (by decide) rfl rfl rfl (Nat.le_of_ble_eq_true rfl) hD (fun X h => ?_) l
  unfold fX11_shop
  refine j_iload_n h dX11_shop_0 rfl ?_
  refine j_if_lt (tgt := 22) h dX11_shop_1 (by decide) (fun c1 => ?_) (fun c1 => ?_)
  · refine j_iconst (v := (-1 : Int32)) h dX11_shop_22 kiconst_m1 ?_
    exact j_iret h rfl dX11_shop_23
  · refine j_iload_n h dX11_shop_4 rfl ?_
    refine j_iconst (v := (1 : Int32)) h dX11_shop_5 kiconst_1 ?_
    refine j_icmp_gt (tgt := 22) h dX11_shop_6 (by decide) (fun c2 => ?_) (fun c2 => ?_)
    · refine j_iconst (v := (-1 : Int32)) h dX11_shop_22 kiconst_m1 ?_
      exact j_iret h rfl dX11_shop_23
    · refine j_aload_n h dX11_shop_9 rfl ?_
      refine gC11_28 h dX11_shop_10 ?_
      refine gC11_84 h dX11_shop_13 ?_
      refine j_gPl (fun hg3 => ?_)
      refine gC11_104 h hg3 dX11_shop_16 ?_
      refine j_if_ne (tgt := 24) h dX11_shop_19 (by decide) (fun c4 => ?_) (fun c4 => ?_)
      · refine j_iconst (v := (1 : Int32)) h dX11_shop_24 kiconst_1 ?_
        refine j_istore_n h dX11_shop_25 rfl rfl ?_
        refine j_wk (ls' := [some (.ref (G.2.2 0)), some (.int x1), some (.int (1 : Int32)), none]) (And.intro rfl (And.intro rfl (And.intro rfl trivial))) ?_
        exact (wX11_shop h 5000).1 x1 (1 : Int32) 0 m
      · refine j_iconst (v := (-1 : Int32)) h dX11_shop_22 kiconst_m1 ?_
        exact j_iret h rfl dX11_shop_23
theorem dX11_post_0 : DD cX11_post 0 (.aload_n 0) 1 1 := ⟨by decide +kernel, rfl⟩
theorem dX11_post_1 : DD cX11_post 1 (.getfield 28) 3 4 := ⟨by decide +kernel, rfl⟩
theorem dX11_post_4 : DD cX11_post 4 (.iload_n 1) 1 5 := ⟨by decide +kernel, rfl⟩
theorem dX11_post_5 : DD cX11_post 5 (.invokevirtual 113) 3 8 := ⟨by decide +kernel, rfl⟩
theorem dX11_post_8 : DD cX11_post 8 (.ifCond .eq 18) 3 11 := ⟨by decide +kernel, rfl⟩
theorem dX11_post_11 : DD cX11_post 11 (.aload_n 0) 1 12 := ⟨by decide +kernel, rfl⟩
theorem dX11_post_12 : DD cX11_post 12 (.getfield 28) 3 15 := ⟨by decide +kernel, rfl⟩
theorem dX11_post_15 : DD cX11_post 15 (.iload_n 2) 1 16 := ⟨by decide +kernel, rfl⟩
theorem dX11_post_16 : DD cX11_post 16 (.invokevirtual 113) 3 19 := ⟨by decide +kernel, rfl⟩
theorem dX11_post_19 : DD cX11_post 19 (.ifCond .eq 7) 3 22 := ⟨by decide +kernel, rfl⟩
theorem dX11_post_22 : DD cX11_post 22 (.iconst 1) 1 23 := ⟨by decide +kernel, rfl⟩
theorem dX11_post_23 : DD cX11_post 23 (.goto 4) 3 26 := ⟨by decide +kernel, rfl⟩
theorem dX11_post_26 : DD cX11_post 26 (.iconst 0) 1 27 := ⟨by decide +kernel, rfl⟩
theorem dX11_post_27 : DD cX11_post 27 (.istore_n 3) 1 28 := ⟨by decide +kernel, rfl⟩
theorem dX11_post_28 : DD cX11_post 28 (.iload_n 3) 1 29 := ⟨by decide +kernel, rfl⟩
theorem dX11_post_29 : DD cX11_post 29 (.ifCond .eq 15) 3 32 := ⟨by decide +kernel, rfl⟩
theorem dX11_post_32 : DD cX11_post 32 (.aload_n 0) 1 33 := ⟨by decide +kernel, rfl⟩
theorem dX11_post_33 : DD cX11_post 33 (.getfield 28) 3 36 := ⟨by decide +kernel, rfl⟩
theorem dX11_post_36 : DD cX11_post 36 (.iload_n 1) 1 37 := ⟨by decide +kernel, rfl⟩
theorem dX11_post_37 : DD cX11_post 37 (.iload_n 2) 1 38 := ⟨by decide +kernel, rfl⟩
theorem dX11_post_38 : DD cX11_post 38 (.invokestatic 269) 3 41 := ⟨by decide +kernel, rfl⟩
theorem dX11_post_41 : DD cX11_post 41 (.goto 4) 3 44 := ⟨by decide +kernel, rfl⟩
theorem dX11_post_44 : DD cX11_post 44 (.iconst (-1)) 1 45 := ⟨by decide +kernel, rfl⟩
theorem dX11_post_45 : DD cX11_post 45 (.ireturn) 1 46 := ⟨by decide +kernel, rfl⟩
def fX11_post (m : Mem) (x1 : Int32) (x2 : Int32) : Option (Int32 × Mem) := (cP (fX9_hasPerson m x1) fun r1 => (if r1 = 0 then (some ((-1 : Int32), m)) else (cP (fX9_hasPerson m x2) fun r4 => (if r4 = 0 then (some ((-1 : Int32), m)) else (cI (fX4_hoursTo m x1 x2) fun r7 m8 => (some (r7, m8)))))))
set_option maxHeartbeats 4000000 in
set_option maxRecDepth 100000 in
theorem kX11_post (l : Launch) (G : Gt) (hD : ∀ m, va_D (inA G nC) (wC G m)) (m : Mem) (x1 : Int32) (x2 : Int32) : ∀ a, fX11_post m x1 x2 = some a → Ct l G wC nC yX11_post cX11_post 4 (some .int) 7 [.ref (G.2.2 0), .int x1, .int x2] m (cvI a) := by
  refine ct_of (own := RX11) (ls0 := [some (.ref (G.2.2 0)), some (.int x1), some (.int x2), none]) (by decide) rfl rfl rfl (Nat.le_of_ble_eq_true rfl) hD (fun X h => ?_) l
  unfold fX11_post
  refine j_aload_n h dX11_post_0 rfl ?_
  refine gC11_28 h dX11_post_1 ?_
  refine j_iload_n h dX11_post_4 rfl ?_
  refine j_callVP (q0 := 26) (ci := 9) h [.int x1] (kX9_hasPerson _ G h.2.2.2.2.2.2.2.2.2.2 m x1) okX9_hasPerson inX9_hasPerson ml11_113 rfl rfl rfl rfl (by decide) (by decide) (Nat.le_of_ble_eq_true rfl) rfl dX11_post_5 (fun r1 hr1 => ?_)
  refine j_if_eq (tgt := 26) h dX11_post_8 (by decide) (fun c3 => ?_) (fun c3 => ?_)
  · refine j_iconst (v := (0 : Int32)) h dX11_post_26 kiconst_0 ?_
    refine j_istore_n h dX11_post_27 rfl rfl ?_
    refine j_iload_n h dX11_post_28 rfl ?_
    refine j_if_eqB (tgt := 44) h dX11_post_29 (by decide) (fun _ => ?_) (fun cc => absurd (by decide) cc)
    refine j_iconst (v := (-1 : Int32)) h dX11_post_44 kiconst_m1 ?_
    exact j_iret h rfl dX11_post_45
  · refine j_aload_n h dX11_post_11 rfl ?_
    refine gC11_28 h dX11_post_12 ?_
    refine j_iload_n h dX11_post_15 rfl ?_
    refine j_callVP (q0 := 26) (ci := 9) h [.int x2] (kX9_hasPerson _ G h.2.2.2.2.2.2.2.2.2.2 m x2) okX9_hasPerson inX9_hasPerson ml11_113 rfl rfl rfl rfl (by decide) (by decide) (Nat.le_of_ble_eq_true rfl) rfl dX11_post_16 (fun r4 hr4 => ?_)
    refine j_if_eq (tgt := 26) h dX11_post_19 (by decide) (fun c6 => ?_) (fun c6 => ?_)
    · refine j_iconst (v := (0 : Int32)) h dX11_post_26 kiconst_0 ?_
      refine j_istore_n h dX11_post_27 rfl rfl ?_
      refine j_iload_n h dX11_post_28 rfl ?_
      refine j_if_eqB (tgt := 44) h dX11_post_29 (by decide) (fun _ => ?_) (fun cc => absurd (by decide) cc)
      refine j_iconst (v := (-1 : Int32)) h dX11_post_44 kiconst_m1 ?_
      exact j_iret h rfl dX11_post_45
    · refine j_iconst (v := (1 : Int32)) h dX11_post_22 kiconst_1 ?_
      refine j_goto (tgt := 27) h dX11_post_23 (by decide) ?_
      refine j_istore_n h dX11_post_27 rfl rfl ?_
      refine j_iload_n h dX11_post_28 rfl ?_
      refine j_if_eqB (tgt := 44) h dX11_post_29 (by decide) (fun cc => absurd cc (by decide)) (fun _ => ?_)
      refine j_aload_n h dX11_post_32 rfl ?_
      refine gC11_28 h dX11_post_33 ?_
      refine j_iload_n h dX11_post_36 rfl ?_
      refine j_iload_n h dX11_post_37 rfl ?_
      refine j_callSI h [.ref (G.2.2 26), .int x1, .int x2] (kX4_hoursTo _ G h.2.2.2.2.2.2.2.2.2.2 m x1 x2) okX4_hoursTo stX4_hoursTo ml11_269 rfl rfl (by decide) (by decide) (Nat.le_of_ble_eq_true rfl) rfl dX11_post_38 (fun r7 m8 hr7 => ?_)
      refine j_goto (tgt := 45) h dX11_post_41 (by decide) ?_
      exact j_iret h rfl dX11_post_45
theorem dX11_spread_0 : DD cX11_spread 0 (.aload_n 0) 1 1 := ⟨by decide +kernel, rfl⟩
theorem dX11_spread_1 : DD cX11_spread 1 (.getfield 28) 3 4 := ⟨by decide +kernel, rfl⟩
theorem dX11_spread_4 : DD cX11_spread 4 (.iload_n 1) 1 5 := ⟨by decide +kernel, rfl⟩
theorem dX11_spread_5 : DD cX11_spread 5 (.invokevirtual 113) 3 8 := ⟨by decide +kernel, rfl⟩
theorem dX11_spread_8 : DD cX11_spread 8 (.ifCond .eq 18) 3 11 := ⟨by decide +kernel, rfl⟩
theorem dX11_spread_11 : DD cX11_spread 11 (.iload_n 2) 1 12 := ⟨by decide +kernel, rfl⟩
theorem dX11_spread_12 : DD cX11_spread 12 (.ifCond .lt 14) 3 15 := ⟨by decide +kernel, rfl⟩
theorem dX11_spread_15 : DD cX11_spread 15 (.iload_n 2) 1 16 := ⟨by decide +kernel, rfl⟩
theorem dX11_spread_16 : DD cX11_spread 16 (.sipush 240) 3 19 := ⟨by decide +kernel, rfl⟩
theorem dX11_spread_19 : DD cX11_spread 19 (.if_icmp .gt 7) 3 22 := ⟨by decide +kernel, rfl⟩
theorem dX11_spread_22 : DD cX11_spread 22 (.iconst 1) 1 23 := ⟨by decide +kernel, rfl⟩
theorem dX11_spread_23 : DD cX11_spread 23 (.goto 4) 3 26 := ⟨by decide +kernel, rfl⟩
theorem dX11_spread_26 : DD cX11_spread 26 (.iconst 0) 1 27 := ⟨by decide +kernel, rfl⟩
theorem dX11_spread_27 : DD cX11_spread 27 (.istore_n 3) 1 28 := ⟨by decide +kernel, rfl⟩
theorem dX11_spread_28 : DD cX11_spread 28 (.iload_n 3) 1 29 := ⟨by decide +kernel, rfl⟩
theorem dX11_spread_29 : DD cX11_spread 29 (.ifCond .eq 15) 3 32 := ⟨by decide +kernel, rfl⟩
theorem dX11_spread_32 : DD cX11_spread 32 (.aload_n 0) 1 33 := ⟨by decide +kernel, rfl⟩
theorem dX11_spread_33 : DD cX11_spread 33 (.getfield 28) 3 36 := ⟨by decide +kernel, rfl⟩
theorem dX11_spread_36 : DD cX11_spread 36 (.iload_n 1) 1 37 := ⟨by decide +kernel, rfl⟩
theorem dX11_spread_37 : DD cX11_spread 37 (.iload_n 2) 1 38 := ⟨by decide +kernel, rfl⟩
theorem dX11_spread_38 : DD cX11_spread 38 (.invokestatic 275) 3 41 := ⟨by decide +kernel, rfl⟩
theorem dX11_spread_41 : DD cX11_spread 41 (.goto 4) 3 44 := ⟨by decide +kernel, rfl⟩
theorem dX11_spread_44 : DD cX11_spread 44 (.iconst (-1)) 1 45 := ⟨by decide +kernel, rfl⟩
theorem dX11_spread_45 : DD cX11_spread 45 (.ireturn) 1 46 := ⟨by decide +kernel, rfl⟩
def fX11_spread (m : Mem) (x1 : Int32) (x2 : Int32) : Option (Int32 × Mem) := (cP (fX9_hasPerson m x1) fun r1 => (if r1 = 0 then (some ((-1 : Int32), m)) else (if x2 < 0 then (some ((-1 : Int32), m)) else (if (240 : Int32) < x2 then (some ((-1 : Int32), m)) else (cI (fX4_whoHasIt m x1 x2) fun r6 m7 => (some (r6, m7)))))))
set_option maxHeartbeats 4000000 in
set_option maxRecDepth 100000 in
theorem kX11_spread (l : Launch) (G : Gt) (hD : ∀ m, va_D (inA G nC) (wC G m)) (m : Mem) (x1 : Int32) (x2 : Int32) : ∀ a, fX11_spread m x1 x2 = some a → Ct l G wC nC yX11_spread cX11_spread 4 (some .int) 7 [.ref (G.2.2 0), .int x1, .int x2] m (cvI a) := by
  refine ct_of (own := RX11) (ls0 := [some (.ref (G.2.2 0)), some (.int x1), some (.int x2), none]) (by decide) rfl rfl rfl (Nat.le_of_ble_eq_true rfl) hD (fun X h => ?_) l
  unfold fX11_spread
  refine j_aload_n h dX11_spread_0 rfl ?_
  refine gC11_28 h dX11_spread_1 ?_
  refine j_iload_n h dX11_spread_4 rfl ?_
  refine j_callVP (q0 := 26) (ci := 9) h [.int x1] (kX9_hasPerson _ G h.2.2.2.2.2.2.2.2.2.2 m x1) okX9_hasPerson inX9_hasPerson ml11_113 rfl rfl rfl rfl (by decide) (by decide) (Nat.le_of_ble_eq_true rfl) rfl dX11_spread_5 (fun r1 hr1 => ?_)
  refine j_if_eq (tgt := 26) h dX11_spread_8 (by decide) (fun c3 => ?_) (fun c3 => ?_)
  · refine j_iconst (v := (0 : Int32)) h dX11_spread_26 kiconst_0 ?_
    refine j_istore_n h dX11_spread_27 rfl rfl ?_
    refine j_iload_n h dX11_spread_28 rfl ?_
    refine j_if_eqB (tgt := 44) h dX11_spread_29 (by decide) (fun _ => ?_) (fun cc => absurd (by decide) cc)
    refine j_iconst (v := (-1 : Int32)) h dX11_spread_44 kiconst_m1 ?_
    exact j_iret h rfl dX11_spread_45
  · refine j_iload_n h dX11_spread_11 rfl ?_
    refine j_if_lt (tgt := 26) h dX11_spread_12 (by decide) (fun c4 => ?_) (fun c4 => ?_)
    · refine j_iconst (v := (0 : Int32)) h dX11_spread_26 kiconst_0 ?_
      refine j_istore_n h dX11_spread_27 rfl rfl ?_
      refine j_iload_n h dX11_spread_28 rfl ?_
      refine j_if_eqB (tgt := 44) h dX11_spread_29 (by decide) (fun _ => ?_) (fun cc => absurd (by decide) cc)
      refine j_iconst (v := (-1 : Int32)) h dX11_spread_44 kiconst_m1 ?_
      exact j_iret h rfl dX11_spread_45
    · refine j_iload_n h dX11_spread_15 rfl ?_
      refine j_sipush (v := (240 : Int32)) h dX11_spread_16 ksipush_240 ?_
      refine j_icmp_gt (tgt := 26) h dX11_spread_19 (by decide) (fun c5 => ?_) (fun c5 => ?_)
      · refine j_iconst (v := (0 : Int32)) h dX11_spread_26 kiconst_0 ?_
        refine j_istore_n h dX11_spread_27 rfl rfl ?_
        refine j_iload_n h dX11_spread_28 rfl ?_
        refine j_if_eqB (tgt := 44) h dX11_spread_29 (by decide) (fun _ => ?_) (fun cc => absurd (by decide) cc)
        refine j_iconst (v := (-1 : Int32)) h dX11_spread_44 kiconst_m1 ?_
        exact j_iret h rfl dX11_spread_45
      · refine j_iconst (v := (1 : Int32)) h dX11_spread_22 kiconst_1 ?_
        refine j_goto (tgt := 27) h dX11_spread_23 (by decide) ?_
        refine j_istore_n h dX11_spread_27 rfl rfl ?_
        refine j_iload_n h dX11_spread_28 rfl ?_
        refine j_if_eqB (tgt := 44) h dX11_spread_29 (by decide) (fun cc => absurd cc (by decide)) (fun _ => ?_)
        refine j_aload_n h dX11_spread_32 rfl ?_
        refine gC11_28 h dX11_spread_33 ?_
        refine j_iload_n h dX11_spread_36 rfl ?_
        refine j_iload_n h dX11_spread_37 rfl ?_
        refine j_callSI h [.ref (G.2.2 26), .int x1, .int x2] (kX4_whoHasIt _ G h.2.2.2.2.2.2.2.2.2.2 m x1 x2) okX4_whoHasIt stX4_whoHasIt ml11_275 rfl rfl (by decide) (by decide) (Nat.le_of_ble_eq_true rfl) rfl dX11_spread_38 (fun r6 m7 hr6 => ?_)
        refine j_goto (tgt := 45) h dX11_spread_41 (by decide) ?_
        exact j_iret h rfl dX11_spread_45
theorem dX11_wake_0 : DD cX11_wake 0 (.aload_n 0) 1 1 := ⟨by decide +kernel, rfl⟩
theorem dX11_wake_1 : DD cX11_wake 1 (.getfield 28) 3 4 := ⟨by decide +kernel, rfl⟩
theorem dX11_wake_4 : DD cX11_wake 4 (.iload_n 1) 1 5 := ⟨by decide +kernel, rfl⟩
theorem dX11_wake_5 : DD cX11_wake 5 (.invokevirtual 113) 3 8 := ⟨by decide +kernel, rfl⟩
theorem dX11_wake_8 : DD cX11_wake 8 (.ifCond .eq 19) 3 11 := ⟨by decide +kernel, rfl⟩
theorem dX11_wake_11 : DD cX11_wake 11 (.aload_n 0) 1 12 := ⟨by decide +kernel, rfl⟩
theorem dX11_wake_12 : DD cX11_wake 12 (.getfield 28) 3 15 := ⟨by decide +kernel, rfl⟩
theorem dX11_wake_15 : DD cX11_wake 15 (.iload_n 2) 1 16 := ⟨by decide +kernel, rfl⟩
theorem dX11_wake_16 : DD cX11_wake 16 (.invokevirtual 113) 3 19 := ⟨by decide +kernel, rfl⟩
theorem dX11_wake_19 : DD cX11_wake 19 (.ifCond .eq 8) 3 22 := ⟨by decide +kernel, rfl⟩
theorem dX11_wake_22 : DD cX11_wake 22 (.iload_n 1) 1 23 := ⟨by decide +kernel, rfl⟩
theorem dX11_wake_23 : DD cX11_wake 23 (.iload_n 2) 1 24 := ⟨by decide +kernel, rfl⟩
theorem dX11_wake_24 : DD cX11_wake 24 (.if_icmp .ne 5) 3 27 := ⟨by decide +kernel, rfl⟩
theorem dX11_wake_27 : DD cX11_wake 27 (.iconst (-1)) 1 28 := ⟨by decide +kernel, rfl⟩
theorem dX11_wake_28 : DD cX11_wake 28 (.ireturn) 1 29 := ⟨by decide +kernel, rfl⟩
theorem dX11_wake_29 : DD cX11_wake 29 (.iload_n 3) 1 30 := ⟨by decide +kernel, rfl⟩
theorem dX11_wake_30 : DD cX11_wake 30 (.ifCond .lt 8) 3 33 := ⟨by decide +kernel, rfl⟩
theorem dX11_wake_33 : DD cX11_wake 33 (.iload_n 3) 1 34 := ⟨by decide +kernel, rfl⟩
theorem dX11_wake_34 : DD cX11_wake 34 (.iconst 1) 1 35 := ⟨by decide +kernel, rfl⟩
theorem dX11_wake_35 : DD cX11_wake 35 (.if_icmp .le 5) 3 38 := ⟨by decide +kernel, rfl⟩
theorem dX11_wake_38 : DD cX11_wake 38 (.iconst (-1)) 1 39 := ⟨by decide +kernel, rfl⟩
theorem dX11_wake_39 : DD cX11_wake 39 (.ireturn) 1 40 := ⟨by decide +kernel, rfl⟩
theorem dX11_wake_40 : DD cX11_wake 40 (.aload_n 0) 1 41 := ⟨by decide +kernel, rfl⟩
theorem dX11_wake_41 : DD cX11_wake 41 (.getfield 28) 3 44 := ⟨by decide +kernel, rfl⟩
theorem dX11_wake_44 : DD cX11_wake 44 (.iload_n 1) 1 45 := ⟨by decide +kernel, rfl⟩
theorem dX11_wake_45 : DD cX11_wake 45 (.iload_n 2) 1 46 := ⟨by decide +kernel, rfl⟩
theorem dX11_wake_46 : DD cX11_wake 46 (.invokestatic 278) 3 49 := ⟨by decide +kernel, rfl⟩
theorem dX11_wake_49 : DD cX11_wake 49 (.istore 4) 2 51 := ⟨by decide +kernel, rfl⟩
theorem dX11_wake_51 : DD cX11_wake 51 (.iload 4) 2 53 := ⟨by decide +kernel, rfl⟩
theorem dX11_wake_53 : DD cX11_wake 53 (.iconst (-1)) 1 54 := ⟨by decide +kernel, rfl⟩
theorem dX11_wake_54 : DD cX11_wake 54 (.if_icmp .eq 8) 3 57 := ⟨by decide +kernel, rfl⟩
theorem dX11_wake_57 : DD cX11_wake 57 (.iload_n 3) 1 58 := ⟨by decide +kernel, rfl⟩
theorem dX11_wake_58 : DD cX11_wake 58 (.iconst 1) 1 59 := ⟨by decide +kernel, rfl⟩
theorem dX11_wake_59 : DD cX11_wake 59 (.if_icmp .ne 8) 3 62 := ⟨by decide +kernel, rfl⟩
theorem dX11_wake_62 : DD cX11_wake 62 (.iload 4) 2 64 := ⟨by decide +kernel, rfl⟩
theorem dX11_wake_64 : DD cX11_wake 64 (.goto 8) 3 67 := ⟨by decide +kernel, rfl⟩
theorem dX11_wake_67 : DD cX11_wake 67 (.iload 4) 2 69 := ⟨by decide +kernel, rfl⟩
theorem dX11_wake_69 : DD cX11_wake 69 (.invokestatic 281) 3 72 := ⟨by decide +kernel, rfl⟩
theorem dX11_wake_72 : DD cX11_wake 72 (.ireturn) 1 73 := ⟨by decide +kernel, rfl⟩
def fX11_wake (m : Mem) (x1 : Int32) (x2 : Int32) (x3 : Int32) : Option (Int32 × Mem) := (cP (fX9_hasPerson m x1) fun r1 => (if r1 = 0 then (some ((-1 : Int32), m)) else (cP (fX9_hasPerson m x2) fun r4 => (if r4 = 0 then (some ((-1 : Int32), m)) else (if x1 = x2 then (some ((-1 : Int32), m)) else (if x3 < 0 then (some ((-1 : Int32), m)) else (if x3 ≤ (1 : Int32) then (cI (fX4_fewestWoken m x1 x2) fun r10 m11 => (if r10 = (-1 : Int32) then (some (r10, m11)) else (if x3 = (1 : Int32) then (some (r10, m11)) else (cP (fJ6_bitCount_0f7a4 r10) fun r14 => (some (r14, m11)))))) else (some ((-1 : Int32), m)))))))))
set_option maxHeartbeats 4000000 in
set_option maxRecDepth 100000 in
theorem kX11_wake (l : Launch) (G : Gt) (hD : ∀ m, va_D (inA G nC) (wC G m)) (m : Mem) (x1 : Int32) (x2 : Int32) (x3 : Int32) : ∀ a, fX11_wake m x1 x2 x3 = some a → Ct l G wC nC yX11_wake cX11_wake 5 (some .int) 7 [.ref (G.2.2 0), .int x1, .int x2, .int x3] m (cvI a) := by
  refine ct_of (own := RX11) (ls0 := [some (.ref (G.2.2 0)), some (.int x1), some (.int x2), some (.int x3), none]) (by decide) rfl rfl rfl (Nat.le_of_ble_eq_true rfl) hD (fun X h => ?_) l
  unfold fX11_wake
  refine j_aload_n h dX11_wake_0 rfl ?_
  refine gC11_28 h dX11_wake_1 ?_
  refine j_iload_n h dX11_wake_4 rfl ?_
  refine j_callVP (q0 := 26) (ci := 9) h [.int x1] (kX9_hasPerson _ G h.2.2.2.2.2.2.2.2.2.2 m x1) okX9_hasPerson inX9_hasPerson ml11_113 rfl rfl rfl rfl (by decide) (by decide) (Nat.le_of_ble_eq_true rfl) rfl dX11_wake_5 (fun r1 hr1 => ?_)
  refine j_if_eq (tgt := 27) h dX11_wake_8 (by decide) (fun c3 => ?_) (fun c3 => ?_)
  · refine j_iconst (v := (-1 : Int32)) h dX11_wake_27 kiconst_m1 ?_
    exact j_iret h rfl dX11_wake_28
  · refine j_aload_n h dX11_wake_11 rfl ?_
    refine gC11_28 h dX11_wake_12 ?_
    refine j_iload_n h dX11_wake_15 rfl ?_
    refine j_callVP (q0 := 26) (ci := 9) h [.int x2] (kX9_hasPerson _ G h.2.2.2.2.2.2.2.2.2.2 m x2) okX9_hasPerson inX9_hasPerson ml11_113 rfl rfl rfl rfl (by decide) (by decide) (Nat.le_of_ble_eq_true rfl) rfl dX11_wake_16 (fun r4 hr4 => ?_)
    refine j_if_eq (tgt := 27) h dX11_wake_19 (by decide) (fun c6 => ?_) (fun c6 => ?_)
    · refine j_iconst (v := (-1 : Int32)) h dX11_wake_27 kiconst_m1 ?_
      exact j_iret h rfl dX11_wake_28
    · refine j_iload_n h dX11_wake_22 rfl ?_
      refine j_iload_n h dX11_wake_23 rfl ?_
      refine j_icmp_ne (tgt := 29) h dX11_wake_24 (by decide) (fun c7 => ?_) (fun c7 => ?_)
      · refine j_iload_n h dX11_wake_29 rfl ?_
        refine j_if_lt (tgt := 38) h dX11_wake_30 (by decide) (fun c8 => ?_) (fun c8 => ?_)
        · refine j_iconst (v := (-1 : Int32)) h dX11_wake_38 kiconst_m1 ?_
          exact j_iret h rfl dX11_wake_39
        · refine j_iload_n h dX11_wake_33 rfl ?_
          refine j_iconst (v := (1 : Int32)) h dX11_wake_34 kiconst_1 ?_
          refine j_icmp_le (tgt := 40) h dX11_wake_35 (by decide) (fun c9 => ?_) (fun c9 => ?_)
          · refine j_aload_n h dX11_wake_40 rfl ?_
            refine gC11_28 h dX11_wake_41 ?_
            refine j_iload_n h dX11_wake_44 rfl ?_
            refine j_iload_n h dX11_wake_45 rfl ?_
            refine j_callSI h [.ref (G.2.2 26), .int x1, .int x2] (kX4_fewestWoken _ G h.2.2.2.2.2.2.2.2.2.2 m x1 x2) okX4_fewestWoken stX4_fewestWoken ml11_278 rfl rfl (by decide) (by decide) (Nat.le_of_ble_eq_true rfl) rfl dX11_wake_46 (fun r10 m11 hr10 => ?_)
            refine j_istore h dX11_wake_49 rfl rfl ?_
            refine j_iload h dX11_wake_51 rfl ?_
            refine j_iconst (v := (-1 : Int32)) h dX11_wake_53 kiconst_m1 ?_
            refine j_icmp_eq (tgt := 62) h dX11_wake_54 (by decide) (fun c12 => ?_) (fun c12 => ?_)
            · refine j_iload h dX11_wake_62 rfl ?_
              refine j_goto (tgt := 72) h dX11_wake_64 (by decide) ?_
              exact j_iret h rfl dX11_wake_72
            · refine j_iload_n h dX11_wake_57 rfl ?_
              refine j_iconst (v := (1 : Int32)) h dX11_wake_58 kiconst_1 ?_
              refine j_icmp_ne (tgt := 67) h dX11_wake_59 (by decide) (fun c13 => ?_) (fun c13 => ?_)
              · refine j_iload h dX11_wake_67 rfl ?_
                refine j_callSP h [.int r10] (kJ6_bitCount_0f7a4 _ G h.2.2.2.2.2.2.2.2.2.2 m11 r10) okJ6_bitCount_0f7a4 stJ6_bitCount_0f7a4 ml11_281 rfl rfl (by decide) (by decide) (Nat.le_of_ble_eq_true rfl) rfl dX11_wake_69 (fun r14 hr14 => ?_)
                exact j_iret h rfl dX11_wake_72
              · refine j_iload h dX11_wake_62 rfl ?_
                refine j_goto (tgt := 72) h dX11_wake_64 (by decide) ?_
                exact j_iret h rfl dX11_wake_72
          · refine j_iconst (v := (-1 : Int32)) h dX11_wake_38 kiconst_m1 ?_
            exact j_iret h rfl dX11_wake_39
      · refine j_iconst (v := (-1 : Int32)) h dX11_wake_27 kiconst_m1 ?_
        exact j_iret h rfl dX11_wake_28
theorem dX11_greatestDivisor_0 : DD cX11_greatestDivisor 0 (.iload_n 0) 1 1 := ⟨by decide +kernel, rfl⟩
theorem dX11_greatestDivisor_1 : DD cX11_greatestDivisor 1 (.istore_n 2) 1 2 := ⟨by decide +kernel, rfl⟩
theorem dX11_greatestDivisor_2 : DD cX11_greatestDivisor 2 (.iload_n 1) 1 3 := ⟨by decide +kernel, rfl⟩
theorem dX11_greatestDivisor_3 : DD cX11_greatestDivisor 3 (.istore_n 3) 1 4 := ⟨by decide +kernel, rfl⟩
theorem dX11_greatestDivisor_4 : DD cX11_greatestDivisor 4 (.iconst 0) 1 5 := ⟨by decide +kernel, rfl⟩
theorem dX11_greatestDivisor_5 : DD cX11_greatestDivisor 5 (.istore 4) 2 7 := ⟨by decide +kernel, rfl⟩
theorem dX11_greatestDivisor_7 : DD cX11_greatestDivisor 7 (.iload 4) 2 9 := ⟨by decide +kernel, rfl⟩
theorem dX11_greatestDivisor_9 : DD cX11_greatestDivisor 9 (.bipush 64) 2 11 := ⟨by decide +kernel, rfl⟩
theorem dX11_greatestDivisor_11 : DD cX11_greatestDivisor 11 (.if_icmp .ge 23) 3 14 := ⟨by decide +kernel, rfl⟩
theorem dX11_greatestDivisor_14 : DD cX11_greatestDivisor 14 (.iload_n 3) 1 15 := ⟨by decide +kernel, rfl⟩
theorem dX11_greatestDivisor_15 : DD cX11_greatestDivisor 15 (.ifCond .eq 19) 3 18 := ⟨by decide +kernel, rfl⟩
theorem dX11_greatestDivisor_18 : DD cX11_greatestDivisor 18 (.iload_n 2) 1 19 := ⟨by decide +kernel, rfl⟩
theorem dX11_greatestDivisor_19 : DD cX11_greatestDivisor 19 (.iload_n 3) 1 20 := ⟨by decide +kernel, rfl⟩
theorem dX11_greatestDivisor_20 : DD cX11_greatestDivisor 20 (.irem) 1 21 := ⟨by decide +kernel, rfl⟩
theorem dX11_greatestDivisor_21 : DD cX11_greatestDivisor 21 (.istore 5) 2 23 := ⟨by decide +kernel, rfl⟩
theorem dX11_greatestDivisor_23 : DD cX11_greatestDivisor 23 (.iload_n 3) 1 24 := ⟨by decide +kernel, rfl⟩
theorem dX11_greatestDivisor_24 : DD cX11_greatestDivisor 24 (.istore_n 2) 1 25 := ⟨by decide +kernel, rfl⟩
theorem dX11_greatestDivisor_25 : DD cX11_greatestDivisor 25 (.iload 5) 2 27 := ⟨by decide +kernel, rfl⟩
theorem dX11_greatestDivisor_27 : DD cX11_greatestDivisor 27 (.istore_n 3) 1 28 := ⟨by decide +kernel, rfl⟩
theorem dX11_greatestDivisor_28 : DD cX11_greatestDivisor 28 (.iinc 4 1) 3 31 := ⟨by decide +kernel, rfl⟩
theorem dX11_greatestDivisor_31 : DD cX11_greatestDivisor 31 (.goto (-24)) 3 34 := ⟨by decide +kernel, rfl⟩
theorem dX11_greatestDivisor_34 : DD cX11_greatestDivisor 34 (.iload_n 2) 1 35 := ⟨by decide +kernel, rfl⟩
theorem dX11_greatestDivisor_35 : DD cX11_greatestDivisor 35 (.ireturn) 1 36 := ⟨by decide +kernel, rfl⟩
def gX11_greatestDivisor : Nat → Int32 → Int32 → Int32 → Option Int32
  | 0, _, _, _ => none
  | f + 1, x2, x3, x4 => (if (64 : Int32) ≤ x4 then (some x2) else (if x3 = 0 then (some x2) else (dv x3 (nm (x2 - x2 / x3 * x3) fun v3 => (gX11_greatestDivisor f x3 v3 (x4 + (1 : Int32)))))))
def fX11_greatestDivisor (x0 : Int32) (x1 : Int32) : Option Int32 := (gX11_greatestDivisor 5000 x0 x1 (0 : Int32))
set_option maxHeartbeats 4000000 in
set_option maxRecDepth 100000 in
theorem wX11_greatestDivisor {X : Cx} {G : Gt} (h : OkX (X, G, wC, nC) cX11_greatestDivisor RX11 6 (some .int) 1) (m : Mem) : ∀ f : Nat, (∀ (x2 : Int32) (x3 : Int32) (x4 : Int32), JR (X, G, wC, nC) (cvP m) m 7 [none, none, some (.int x2), some (.int x3), some (.int x4), none] [] (gX11_greatestDivisor f x2 x3 x4)) := by
  intro f
  induction f with
  | zero => exact (fun _ _ _ => j_none)
  | succ f ih =>
    intro x2 x3 x4
    rw [gX11_greatestDivisor]
    refine j_iload h dX11_greatestDivisor_7 rfl ?_
    refine j_bipush (v := (64 : Int32)) h dX11_greatestDivisor_9 kbipush_64 ?_
    refine j_icmp_ge (tgt := 34) h dX11_greatestDivisor_11 (by decide) (fun c1 => ?_) (fun c1 => ?_)
    · refine j_iload_n h dX11_greatestDivisor_34 rfl ?_
      exact j_iret h rfl dX11_greatestDivisor_35
    · refine j_iload_n h dX11_greatestDivisor_14 rfl ?_
      refine j_if_eq (tgt := 34) h dX11_greatestDivisor_15 (by decide) (fun c2 => ?_) (fun c2 => ?_)
      · refine j_iload_n h dX11_greatestDivisor_34 rfl ?_
        exact j_iret h rfl dX11_greatestDivisor_35
      · refine j_iload_n h dX11_greatestDivisor_18 rfl ?_
        refine j_iload_n h dX11_greatestDivisor_19 rfl ?_
        refine j_irem h dX11_greatestDivisor_20 ?_
        refine j_nm (fun v3 hv3 => ?_)
        refine j_istore h dX11_greatestDivisor_21 rfl rfl ?_
        refine j_iload_n h dX11_greatestDivisor_23 rfl ?_
        refine j_istore_n h dX11_greatestDivisor_24 rfl rfl ?_
        refine j_iload h dX11_greatestDivisor_25 rfl ?_
        refine j_istore_n h dX11_greatestDivisor_27 rfl rfl ?_
        refine j_iinc (v := (x4 + (1 : Int32))) h dX11_greatestDivisor_28 rfl (by rw [kiconst_1]) rfl ?_
        refine j_goto (tgt := 7) h dX11_greatestDivisor_31 (by decide) ?_
        refine j_wk (ls' := [none, none, some (.int x3), some (.int v3), some (.int (x4 + (1 : Int32))), none]) (And.intro rfl (And.intro rfl (And.intro rfl trivial))) ?_
        exact ih x3 v3 (x4 + (1 : Int32))
set_option maxHeartbeats 4000000 in
set_option maxRecDepth 100000 in
theorem kX11_greatestDivisor (l : Launch) (G : Gt) (hD : ∀ m, va_D (inA G nC) (wC G m)) (m : Mem) (x0 : Int32) (x1 : Int32) : ∀ a, fX11_greatestDivisor x0 x1 = some a → Ct l G wC nC yX11_greatestDivisor cX11_greatestDivisor 6 (some .int) 1 [.int x0, .int x1] m ((cvP m) a) := by
  refine ct_of (own := RX11) (ls0 := [some (.int x0), some (.int x1), none, none, none, none]) (by decide) rfl rfl rfl (Nat.le_of_ble_eq_true rfl) hD (fun X h => ?_) l
  unfold fX11_greatestDivisor
  refine j_iload_n h dX11_greatestDivisor_0 rfl ?_
  refine j_istore_n h dX11_greatestDivisor_1 rfl rfl ?_
  refine j_iload_n h dX11_greatestDivisor_2 rfl ?_
  refine j_istore_n h dX11_greatestDivisor_3 rfl rfl ?_
  refine j_iconst (v := (0 : Int32)) h dX11_greatestDivisor_4 kiconst_0 ?_
  refine j_istore h dX11_greatestDivisor_5 rfl rfl ?_
  refine j_wk (ls' := [none, none, some (.int x0), some (.int x1), some (.int (0 : Int32)), none]) (And.intro rfl (And.intro rfl (And.intro rfl trivial))) ?_
  exact (wX11_greatestDivisor h m 5000) x0 x1 (0 : Int32)
theorem dX11_odds_0 : DD cX11_odds 0 (.aload_n 0) 1 1 := ⟨by decide +kernel, rfl⟩
theorem dX11_odds_1 : DD cX11_odds 1 (.getfield 28) 3 4 := ⟨by decide +kernel, rfl⟩
theorem dX11_odds_4 : DD cX11_odds 4 (.iload_n 1) 1 5 := ⟨by decide +kernel, rfl⟩
theorem dX11_odds_5 : DD cX11_odds 5 (.invokevirtual 148) 3 8 := ⟨by decide +kernel, rfl⟩
theorem dX11_odds_8 : DD cX11_odds 8 (.ifCond .eq 19) 3 11 := ⟨by decide +kernel, rfl⟩
theorem dX11_odds_11 : DD cX11_odds 11 (.iload_n 2) 1 12 := ⟨by decide +kernel, rfl⟩
theorem dX11_odds_12 : DD cX11_odds 12 (.invokestatic 173) 3 15 := ⟨by decide +kernel, rfl⟩
theorem dX11_odds_15 : DD cX11_odds 15 (.ifCond .eq 12) 3 18 := ⟨by decide +kernel, rfl⟩
theorem dX11_odds_18 : DD cX11_odds 18 (.iload_n 3) 1 19 := ⟨by decide +kernel, rfl⟩
theorem dX11_odds_19 : DD cX11_odds 19 (.ifCond .lt 8) 3 22 := ⟨by decide +kernel, rfl⟩
theorem dX11_odds_22 : DD cX11_odds 22 (.iload_n 3) 1 23 := ⟨by decide +kernel, rfl⟩
theorem dX11_odds_23 : DD cX11_odds 23 (.iconst 1) 1 24 := ⟨by decide +kernel, rfl⟩
theorem dX11_odds_24 : DD cX11_odds 24 (.if_icmp .le 5) 3 27 := ⟨by decide +kernel, rfl⟩
theorem dX11_odds_27 : DD cX11_odds 27 (.iconst (-1)) 1 28 := ⟨by decide +kernel, rfl⟩
theorem dX11_odds_28 : DD cX11_odds 28 (.ireturn) 1 29 := ⟨by decide +kernel, rfl⟩
theorem dX11_odds_29 : DD cX11_odds 29 (.aload_n 0) 1 30 := ⟨by decide +kernel, rfl⟩
theorem dX11_odds_30 : DD cX11_odds 30 (.getfield 28) 3 33 := ⟨by decide +kernel, rfl⟩
theorem dX11_odds_33 : DD cX11_odds 33 (.iload_n 1) 1 34 := ⟨by decide +kernel, rfl⟩
theorem dX11_odds_34 : DD cX11_odds 34 (.aload_n 0) 1 35 := ⟨by decide +kernel, rfl⟩
theorem dX11_odds_35 : DD cX11_odds 35 (.getfield 28) 3 38 := ⟨by decide +kernel, rfl⟩
theorem dX11_odds_38 : DD cX11_odds 38 (.iload_n 2) 1 39 := ⟨by decide +kernel, rfl⟩
theorem dX11_odds_39 : DD cX11_odds 39 (.invokevirtual 176) 3 42 := ⟨by decide +kernel, rfl⟩
theorem dX11_odds_42 : DD cX11_odds 42 (.invokevirtual 286) 3 45 := ⟨by decide +kernel, rfl⟩
theorem dX11_odds_45 : DD cX11_odds 45 (.istore 4) 2 47 := ⟨by decide +kernel, rfl⟩
theorem dX11_odds_47 : DD cX11_odds 47 (.iload 4) 2 49 := ⟨by decide +kernel, rfl⟩
theorem dX11_odds_49 : DD cX11_odds 49 (.sipush 10000) 3 52 := ⟨by decide +kernel, rfl⟩
theorem dX11_odds_52 : DD cX11_odds 52 (.invokestatic 289) 3 55 := ⟨by decide +kernel, rfl⟩
theorem dX11_odds_55 : DD cX11_odds 55 (.istore 5) 2 57 := ⟨by decide +kernel, rfl⟩
theorem dX11_odds_57 : DD cX11_odds 57 (.iload 5) 2 59 := ⟨by decide +kernel, rfl⟩
theorem dX11_odds_59 : DD cX11_odds 59 (.ifCond .ne 5) 3 62 := ⟨by decide +kernel, rfl⟩
theorem dX11_odds_62 : DD cX11_odds 62 (.iconst (-1)) 1 63 := ⟨by decide +kernel, rfl⟩
theorem dX11_odds_63 : DD cX11_odds 63 (.ireturn) 1 64 := ⟨by decide +kernel, rfl⟩
theorem dX11_odds_64 : DD cX11_odds 64 (.iload_n 3) 1 65 := ⟨by decide +kernel, rfl⟩
theorem dX11_odds_65 : DD cX11_odds 65 (.ifCond .ne 8) 3 68 := ⟨by decide +kernel, rfl⟩
theorem dX11_odds_68 : DD cX11_odds 68 (.iload 4) 2 70 := ⟨by decide +kernel, rfl⟩
theorem dX11_odds_70 : DD cX11_odds 70 (.goto 6) 3 73 := ⟨by decide +kernel, rfl⟩
theorem dX11_odds_73 : DD cX11_odds 73 (.sipush 10000) 3 76 := ⟨by decide +kernel, rfl⟩
theorem dX11_odds_76 : DD cX11_odds 76 (.iload 5) 2 78 := ⟨by decide +kernel, rfl⟩
theorem dX11_odds_78 : DD cX11_odds 78 (.idiv) 1 79 := ⟨by decide +kernel, rfl⟩
theorem dX11_odds_79 : DD cX11_odds 79 (.ireturn) 1 80 := ⟨by decide +kernel, rfl⟩
def fX11_odds (m : Mem) (x1 : Int32) (x2 : Int32) (x3 : Int32) : Option (Int32 × Mem) := (cP (fX9_hasMeet m x1) fun r1 => (if r1 = 0 then (some ((-1 : Int32), m)) else (cP (fX11_isDate x2) fun r4 => (if r4 = 0 then (some ((-1 : Int32), m)) else (if x3 < 0 then (some ((-1 : Int32), m)) else (if x3 ≤ (1 : Int32) then (cR (fX9_dayOf m x2) fun r9 m10 => (gEq r9 53 (cP (fX9_chancesToMeet m10 x1) fun r12 => (cP (fX11_greatestDivisor r12 (10000 : Int32)) fun r14 => (if r14 = 0 then (some ((-1 : Int32), m10)) else (if x3 = 0 then (dv r14 (some ((r12 / r14), m10))) else (dv r14 (some (((10000 : Int32) / r14), m10))))))))) else (some ((-1 : Int32), m))))))))
set_option maxHeartbeats 4000000 in
set_option maxRecDepth 100000 in
theorem kX11_odds (l : Launch) (G : Gt) (hD : ∀ m, va_D (inA G nC) (wC G m)) (m : Mem) (x1 : Int32) (x2 : Int32) (x3 : Int32) : ∀ a, fX11_odds m x1 x2 x3 = some a → Ct l G wC nC yX11_odds cX11_odds 6 (some .int) 5 [.ref (G.2.2 0), .int x1, .int x2, .int x3] m (cvI a) := by
  refine ct_of (own := RX11) (ls0 := [some (.ref (G.2.2 0)), some (.int x1), some (.int x2), some (.int x3), none, none]) (by decide) rfl rfl rfl (Nat.le_of_ble_eq_true rfl) hD (fun X h => ?_) l
  unfold fX11_odds
  refine j_aload_n h dX11_odds_0 rfl ?_
  refine gC11_28 h dX11_odds_1 ?_
  refine j_iload_n h dX11_odds_4 rfl ?_
  refine j_callVP (q0 := 26) (ci := 9) h [.int x1] (kX9_hasMeet _ G h.2.2.2.2.2.2.2.2.2.2 m x1) okX9_hasMeet inX9_hasMeet ml11_148 rfl rfl rfl rfl (by decide) (by decide) (Nat.le_of_ble_eq_true rfl) rfl dX11_odds_5 (fun r1 hr1 => ?_)
  refine j_if_eq (tgt := 27) h dX11_odds_8 (by decide) (fun c3 => ?_) (fun c3 => ?_)
  · refine j_iconst (v := (-1 : Int32)) h dX11_odds_27 kiconst_m1 ?_
    exact j_iret h rfl dX11_odds_28
  · refine j_iload_n h dX11_odds_11 rfl ?_
    refine j_callSP h [.int x2] (kX11_isDate _ G h.2.2.2.2.2.2.2.2.2.2 m x2) okX11_isDate stX11_isDate ml11_173 rfl rfl (by decide) (by decide) (Nat.le_of_ble_eq_true rfl) rfl dX11_odds_12 (fun r4 hr4 => ?_)
    refine j_if_eq (tgt := 27) h dX11_odds_15 (by decide) (fun c6 => ?_) (fun c6 => ?_)
    · refine j_iconst (v := (-1 : Int32)) h dX11_odds_27 kiconst_m1 ?_
      exact j_iret h rfl dX11_odds_28
    · refine j_iload_n h dX11_odds_18 rfl ?_
      refine j_if_lt (tgt := 27) h dX11_odds_19 (by decide) (fun c7 => ?_) (fun c7 => ?_)
      · refine j_iconst (v := (-1 : Int32)) h dX11_odds_27 kiconst_m1 ?_
        exact j_iret h rfl dX11_odds_28
      · refine j_iload_n h dX11_odds_22 rfl ?_
        refine j_iconst (v := (1 : Int32)) h dX11_odds_23 kiconst_1 ?_
        refine j_icmp_le (tgt := 29) h dX11_odds_24 (by decide) (fun c8 => ?_) (fun c8 => ?_)
        · refine j_aload_n h dX11_odds_29 rfl ?_
          refine gC11_28 h dX11_odds_30 ?_
          refine j_iload_n h dX11_odds_33 rfl ?_
          refine j_aload_n h dX11_odds_34 rfl ?_
          refine gC11_28 h dX11_odds_35 ?_
          refine j_iload_n h dX11_odds_38 rfl ?_
          refine j_callVR (q0 := 26) (ci := 9) h [.int x2] (kX9_dayOf _ G h.2.2.2.2.2.2.2.2.2.2 m x2) okX9_dayOf inX9_dayOf ml11_176 rfl rfl rfl rfl (by decide) (by decide) (Nat.le_of_ble_eq_true rfl) rfl dX11_odds_39 (fun r9 m10 hr9 => ?_)
          refine j_gEq (fun hg11 => ?_)
          subst hg11
          refine j_callVP (q0 := 26) (ci := 9) h [.int x1, .ref (G.2.2 53)] (kX9_chancesToMeet _ G h.2.2.2.2.2.2.2.2.2.2 m10 x1) okX9_chancesToMeet inX9_chancesToMeet ml11_286 rfl rfl rfl rfl (by decide) (by decide) (Nat.le_of_ble_eq_true rfl) rfl dX11_odds_42 (fun r12 hr12 => ?_)
          refine j_istore h dX11_odds_45 rfl rfl ?_
          refine j_iload h dX11_odds_47 rfl ?_
          refine j_sipush (v := (10000 : Int32)) h dX11_odds_49 ksipush_10000 ?_
          refine j_callSP h [.int r12, .int (10000 : Int32)] (kX11_greatestDivisor _ G h.2.2.2.2.2.2.2.2.2.2 m10 r12 (10000 : Int32)) okX11_greatestDivisor stX11_greatestDivisor ml11_289 rfl rfl (by decide) (by decide) (Nat.le_of_ble_eq_true rfl) rfl dX11_odds_52 (fun r14 hr14 => ?_)
          refine j_istore h dX11_odds_55 rfl rfl ?_
          refine j_iload h dX11_odds_57 rfl ?_
          refine j_if_ne (tgt := 64) h dX11_odds_59 (by decide) (fun c16 => ?_) (fun c16 => ?_)
          · refine j_iload_n h dX11_odds_64 rfl ?_
            refine j_if_ne (tgt := 73) h dX11_odds_65 (by decide) (fun c17 => ?_) (fun c17 => ?_)
            · refine j_sipush (v := (10000 : Int32)) h dX11_odds_73 ksipush_10000 ?_
              refine j_iload h dX11_odds_76 rfl ?_
              refine j_idiv h dX11_odds_78 ?_
              exact j_iret h rfl dX11_odds_79
            · refine j_iload h dX11_odds_68 rfl ?_
              refine j_goto (tgt := 76) h dX11_odds_70 (by decide) ?_
              refine j_iload h dX11_odds_76 rfl ?_
              refine j_idiv h dX11_odds_78 ?_
              exact j_iret h rfl dX11_odds_79
          · refine j_iconst (v := (-1 : Int32)) h dX11_odds_62 kiconst_m1 ?_
            exact j_iret h rfl dX11_odds_63
        · refine j_iconst (v := (-1 : Int32)) h dX11_odds_27 kiconst_m1 ?_
          exact j_iret h rfl dX11_odds_28
