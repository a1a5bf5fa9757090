theorem dX11_lies_0 : DD cX11_lies 0 (.iload_n 1) 1 1 := ⟨by decide +kernel, rfl⟩
theorem dX11_lies_1 : DD cX11_lies 1 (.ifCond .lt 29) 3 4 := ⟨by decide +kernel, rfl⟩
theorem dX11_lies_4 : DD cX11_lies 4 (.iload_n 1) 1 5 := ⟨by decide +kernel, rfl⟩
theorem dX11_lies_5 : DD cX11_lies 5 (.aload_n 0) 1 6 := ⟨by decide +kernel, rfl⟩
theorem dX11_lies_6 : DD cX11_lies 6 (.getfield 98) 3 9 := ⟨by decide +kernel, rfl⟩
theorem dX11_lies_9 : DD cX11_lies 9 (.if_icmp .ge 21) 3 12 := ⟨by decide +kernel, rfl⟩
theorem dX11_lies_12 : DD cX11_lies 12 (.iload_n 1) 1 13 := ⟨by decide +kernel, rfl⟩
theorem dX11_lies_13 : DD cX11_lies 13 (.aload_n 0) 1 14 := ⟨by decide +kernel, rfl⟩
theorem dX11_lies_14 : DD cX11_lies 14 (.getfield 61) 3 17 := ⟨by decide +kernel, rfl⟩
theorem dX11_lies_17 : DD cX11_lies 17 (.arraylength) 1 18 := ⟨by decide +kernel, rfl⟩
theorem dX11_lies_18 : DD cX11_lies 18 (.if_icmp .ge 12) 3 21 := ⟨by decide +kernel, rfl⟩
theorem dX11_lies_21 : DD cX11_lies 21 (.aload_n 0) 1 22 := ⟨by decide +kernel, rfl⟩
theorem dX11_lies_22 : DD cX11_lies 22 (.getfield 61) 3 25 := ⟨by decide +kernel, rfl⟩
theorem dX11_lies_25 : DD cX11_lies 25 (.iload_n 1) 1 26 := ⟨by decide +kernel, rfl⟩
theorem dX11_lies_26 : DD cX11_lies 26 (.iaload) 1 27 := ⟨by decide +kernel, rfl⟩
theorem dX11_lies_27 : DD cX11_lies 27 (.goto 4) 3 30 := ⟨by decide +kernel, rfl⟩
theorem dX11_lies_30 : DD cX11_lies 30 (.iconst (-1)) 1 31 := ⟨by decide +kernel, rfl⟩
theorem dX11_lies_31 : DD cX11_lies 31 (.ireturn) 1 32 := ⟨by decide +kernel, rfl⟩
def fX11_lies (m : Mem) (x1 : Int32) : Option Int32 := (if x1 < 0 then (some (-1 : Int32)) else (if (m.1 0 9) ≤ x1 then (some (-1 : Int32)) else (if (7 : Int32) ≤ x1 then (some (-1 : Int32)) else (rd (m.1 73) 7 x1 fun v4 => (some v4)))))
set_option maxHeartbeats 4000000 in
set_option maxRecDepth 100000 in
theorem kX11_lies (l : Launch) (G : Gt) (hD : ∀ m, va_D (inA G nC) (wC G m)) (m : Mem) (x1 : Int32) : ∀ a, fX11_lies m x1 = some a → Ct l G wC nC yX11_lies cX11_lies 2 (some .int) 1 [.ref (G.2.2 0), .int x1] m ((cvP m) a) := by
  refine ct_of (own := RX11) (ls0 := [some (.ref (G.2.2 0)), some (.int x1)]) (by decide) rfl rfl rfl (Nat.le_of_ble_eq_true rfl) hD (fun X h => ?_) l
  unfold fX11_lies
  refine j_iload_n h dX11_lies_0 rfl ?_
  refine j_if_lt (tgt := 30) h dX11_lies_1 (by decide) (fun c1 => ?_) (fun c1 => ?_)
  · refine j_iconst (v := (-1 : Int32)) h dX11_lies_30 kiconst_m1 ?_
    exact j_iret h rfl dX11_lies_31
  · refine j_iload_n h dX11_lies_4 rfl ?_
    refine j_aload_n h dX11_lies_5 rfl ?_
    refine gC11_98 h dX11_lies_6 ?_
    refine j_icmp_ge (tgt := 30) h dX11_lies_9 (by decide) (fun c2 => ?_) (fun c2 => ?_)
    · refine j_iconst (v := (-1 : Int32)) h dX11_lies_30 kiconst_m1 ?_
      exact j_iret h rfl dX11_lies_31
    · refine j_iload_n h dX11_lies_12 rfl ?_
      refine j_aload_n h dX11_lies_13 rfl ?_
      refine gC11_61 h dX11_lies_14 ?_
      refine j_alen (q0 := 73) (v := (7 : Int32)) h rfl rfl dX11_lies_17 ?_
      refine j_icmp_ge (tgt := 30) h dX11_lies_18 (by decide) (fun c3 => ?_) (fun c3 => ?_)
      · refine j_iconst (v := (-1 : Int32)) h dX11_lies_30 kiconst_m1 ?_
        exact j_iret h rfl dX11_lies_31
      · refine j_aload_n h dX11_lies_21 rfl ?_
        refine gC11_61 h dX11_lies_22 ?_
        refine j_iload_n h dX11_lies_25 rfl ?_
        refine aC_73 h dX11_lies_26 (fun v4 hv4 => ?_)
        refine j_goto (tgt := 31) h dX11_lies_27 (by decide) ?_
        exact j_iret h rfl dX11_lies_31
theorem dX11_isHouse_0 : DD cX11_isHouse 0 (.iload_n 0) 1 1 := ⟨by decide +kernel, rfl⟩
theorem dX11_isHouse_1 : DD cX11_isHouse 1 (.ifCond .lt 13) 3 4 := ⟨by decide +kernel, rfl⟩
theorem dX11_isHouse_4 : DD cX11_isHouse 4 (.iload_n 0) 1 5 := ⟨by decide +kernel, rfl⟩
theorem dX11_isHouse_5 : DD cX11_isHouse 5 (.bipush 10) 2 7 := ⟨by decide +kernel, rfl⟩
theorem dX11_isHouse_7 : DD cX11_isHouse 7 (.if_icmp .ge 7) 3 10 := ⟨by decide +kernel, rfl⟩
theorem dX11_isHouse_10 : DD cX11_isHouse 10 (.iconst 1) 1 11 := ⟨by decide +kernel, rfl⟩
theorem dX11_isHouse_11 : DD cX11_isHouse 11 (.goto 4) 3 14 := ⟨by decide +kernel, rfl⟩
theorem dX11_isHouse_14 : DD cX11_isHouse 14 (.iconst 0) 1 15 := ⟨by decide +kernel, rfl⟩
theorem dX11_isHouse_15 : DD cX11_isHouse 15 (.ireturn) 1 16 := ⟨by decide +kernel, rfl⟩
def fX11_isHouse (x0 : Int32) : Option Int32 := (if x0 < 0 then (some (0 : Int32)) else (if (10 : Int32) ≤ x0 then (some (0 : Int32)) else (some (1 : Int32))))
set_option maxHeartbeats 4000000 in
set_option maxRecDepth 100000 in
theorem kX11_isHouse (l : Launch) (G : Gt) (hD : ∀ m, va_D (inA G nC) (wC G m)) (m : Mem) (x0 : Int32) : ∀ a, fX11_isHouse x0 = some a → Ct l G wC nC yX11_isHouse cX11_isHouse 1 (some .boolean) 1 [.int x0] m ((cvP m) a) := by
  refine ct_of (own := RX11) (ls0 := [some (.int x0)]) (by decide) rfl rfl rfl (Nat.le_of_ble_eq_true rfl) hD (fun X h => ?_) l
  unfold fX11_isHouse
  refine j_iload_n h dX11_isHouse_0 rfl ?_
  refine j_if_lt (tgt := 14) h dX11_isHouse_1 (by decide) (fun c1 => ?_) (fun c1 => ?_)
  · refine j_iconst (v := (0 : Int32)) h dX11_isHouse_14 kiconst_0 ?_
    exact j_zretB h rfl rfl dX11_isHouse_15
  · refine j_iload_n h dX11_isHouse_4 rfl ?_
    refine j_bipush (v := (10 : Int32)) h dX11_isHouse_5 kbipush_10 ?_
    refine j_icmp_ge (tgt := 14) h dX11_isHouse_7 (by decide) (fun c2 => ?_) (fun c2 => ?_)
    · refine j_iconst (v := (0 : Int32)) h dX11_isHouse_14 kiconst_0 ?_
      exact j_zretB h rfl rfl dX11_isHouse_15
    · refine j_iconst (v := (1 : Int32)) h dX11_isHouse_10 kiconst_1 ?_
      refine j_goto (tgt := 15) h dX11_isHouse_11 (by decide) ?_
      exact j_zretB h rfl rfl dX11_isHouse_15
theorem dX11_lit_0 : DD cX11_lit 0 (.iload_n 1) 1 1 := ⟨by decide +kernel, rfl⟩
theorem dX11_lit_1 : DD cX11_lit 1 (.invokestatic 292) 3 4 := ⟨by decide +kernel, rfl⟩
theorem dX11_lit_4 : DD cX11_lit 4 (.ifCond .eq 23) 3 7 := ⟨by decide +kernel, rfl⟩
theorem dX11_lit_7 : DD cX11_lit 7 (.iload_n 2) 1 8 := ⟨by decide +kernel, rfl⟩
theorem dX11_lit_8 : DD cX11_lit 8 (.invokestatic 188) 3 11 := ⟨by decide +kernel, rfl⟩
theorem dX11_lit_11 : DD cX11_lit 11 (.ifCond .eq 16) 3 14 := ⟨by decide +kernel, rfl⟩
theorem dX11_lit_14 : DD cX11_lit 14 (.aload_n 0) 1 15 := ⟨by decide +kernel, rfl⟩
theorem dX11_lit_15 : DD cX11_lit 15 (.getfield 49) 3 18 := ⟨by decide +kernel, rfl⟩
theorem dX11_lit_18 : DD cX11_lit 18 (.iload_n 1) 1 19 := ⟨by decide +kernel, rfl⟩
theorem dX11_lit_19 : DD cX11_lit 19 (.iload_n 2) 1 20 := ⟨by decide +kernel, rfl⟩
theorem dX11_lit_20 : DD cX11_lit 20 (.iload_n 3) 1 21 := ⟨by decide +kernel, rfl⟩
theorem dX11_lit_21 : DD cX11_lit 21 (.invokevirtual 295) 3 24 := ⟨by decide +kernel, rfl⟩
theorem dX11_lit_24 : DD cX11_lit 24 (.goto 4) 3 27 := ⟨by decide +kernel, rfl⟩
theorem dX11_lit_27 : DD cX11_lit 27 (.iconst (-1)) 1 28 := ⟨by decide +kernel, rfl⟩
theorem dX11_lit_28 : DD cX11_lit 28 (.ireturn) 1 29 := ⟨by decide +kernel, rfl⟩
def fX11_lit (m : Mem) (x1 : Int32) (x2 : Int32) (x3 : Int32) : Option (Int32 × Mem) := (cP (fX11_isHouse x1) fun r1 => (if r1 = 0 then (some ((-1 : Int32), m)) else (cP (fX11_isHour x2) fun r4 => (if r4 = 0 then (some ((-1 : Int32), m)) else (cI (fX5_tell m x1 x2 x3) fun r7 m8 => (some (r7, m8)))))))
set_option maxHeartbeats 4000000 in
set_option maxRecDepth 100000 in
theorem kX11_lit (l : Launch) (G : Gt) (hD : ∀ m, va_D (inA G nC) (wC G m)) (m : Mem) (x1 : Int32) (x2 : Int32) (x3 : Int32) : ∀ a, fX11_lit m x1 x2 x3 = some a → Ct l G wC nC yX11_lit cX11_lit 4 (some .int) 2 [.ref (G.2.2 0), .int x1, .int x2, .int x3] m (cvI a) := by
  refine ct_of (own := RX11) (ls0 := [some (.ref (G.2.2 0)), some (.int x1), some (.int x2), some (.int x3)]) (by decide) rfl rfl rfl (Nat.le_of_ble_eq_true rfl) hD (fun X h => ?_) l
  unfold fX11_lit
  refine j_iload_n h dX11_lit_0 rfl ?_
  refine j_callSP h [.int x1] (kX11_isHouse _ G h.2.2.2.2.2.2.2.2.2.2 m x1) okX11_isHouse stX11_isHouse ml11_292 rfl rfl (by decide) (by decide) (Nat.le_of_ble_eq_true rfl) rfl dX11_lit_1 (fun r1 hr1 => ?_)
  refine j_if_eq (tgt := 27) h dX11_lit_4 (by decide) (fun c3 => ?_) (fun c3 => ?_)
  · refine j_iconst (v := (-1 : Int32)) h dX11_lit_27 kiconst_m1 ?_
    exact j_iret h rfl dX11_lit_28
  · refine j_iload_n h dX11_lit_7 rfl ?_
    refine j_callSP h [.int x2] (kX11_isHour _ G h.2.2.2.2.2.2.2.2.2.2 m x2) okX11_isHour stX11_isHour ml11_188 rfl rfl (by decide) (by decide) (Nat.le_of_ble_eq_true rfl) rfl dX11_lit_8 (fun r4 hr4 => ?_)
    refine j_if_eq (tgt := 27) h dX11_lit_11 (by decide) (fun c6 => ?_) (fun c6 => ?_)
    · refine j_iconst (v := (-1 : Int32)) h dX11_lit_27 kiconst_m1 ?_
      exact j_iret h rfl dX11_lit_28
    · refine j_aload_n h dX11_lit_14 rfl ?_
      refine gC11_49 h dX11_lit_15 ?_
      refine j_iload_n h dX11_lit_18 rfl ?_
      refine j_iload_n h dX11_lit_19 rfl ?_
      refine j_iload_n h dX11_lit_20 rfl ?_
      refine j_callVI (q0 := 65) (ci := 5) h [.int x1, .int x2, .int x3] (kX5_tell _ G h.2.2.2.2.2.2.2.2.2.2 m x1 x2 x3) okX5_tell inX5_tell ml11_295 rfl rfl rfl rfl (by decide) (by decide) (Nat.le_of_ble_eq_true rfl) rfl dX11_lit_21 (fun r7 m8 hr7 => ?_)
      refine j_goto (tgt := 28) h dX11_lit_24 (by decide) ?_
      exact j_iret h rfl dX11_lit_28
theorem dX11_untell_0 : DD cX11_untell 0 (.aload_n 0) 1 1 := ⟨by decide +kernel, rfl⟩
theorem dX11_untell_1 : DD cX11_untell 1 (.getfield 49) 3 4 := ⟨by decide +kernel, rfl⟩
theorem dX11_untell_4 : DD cX11_untell 4 (.iload_n 1) 1 5 := ⟨by decide +kernel, rfl⟩
theorem dX11_untell_5 : DD cX11_untell 5 (.invokevirtual 299) 3 8 := ⟨by decide +kernel, rfl⟩
theorem dX11_untell_8 : DD cX11_untell 8 (.ireturn) 1 9 := ⟨by decide +kernel, rfl⟩
def fX11_untell (m : Mem) (x1 : Int32) : Option (Int32 × Mem) := (cI (fX5_takeBack m x1) fun r1 m2 => (tz r1 (some (r1, m2))))
set_option maxHeartbeats 4000000 in
set_option maxRecDepth 100000 in
theorem kX11_untell (l : Launch) (G : Gt) (hD : ∀ m, va_D (inA G nC) (wC G m)) (m : Mem) (x1 : Int32) : ∀ a, fX11_untell m x1 = some a → Ct l G wC nC yX11_untell cX11_untell 2 (some .boolean) 2 [.ref (G.2.2 0), .int x1] m (cvI a) := by
  refine ct_of (own := RX11) (ls0 := [some (.ref (G.2.2 0)), some (.int x1)]) (by decide) rfl rfl rfl (Nat.le_of_ble_eq_true rfl) hD (fun X h => ?_) l
  unfold fX11_untell
  refine j_aload_n h dX11_untell_0 rfl ?_
  refine gC11_49 h dX11_untell_1 ?_
  refine j_iload_n h dX11_untell_4 rfl ?_
  refine j_callVI (q0 := 65) (ci := 5) h [.int x1] (kX5_takeBack _ G h.2.2.2.2.2.2.2.2.2.2 m x1) okX5_takeBack inX5_takeBack ml11_299 rfl rfl rfl rfl (by decide) (by decide) (Nat.le_of_ble_eq_true rfl) rfl dX11_untell_5 (fun r1 m2 hr1 => ?_)
  exact j_zret h rfl dX11_untell_8
theorem dX11_later_0 : DD cX11_later 0 (.aload_n 0) 1 1 := ⟨by decide +kernel, rfl⟩
theorem dX11_later_1 : DD cX11_later 1 (.getfield 49) 3 4 := ⟨by decide +kernel, rfl⟩
theorem dX11_later_4 : DD cX11_later 4 (.iload_n 1) 1 5 := ⟨by decide +kernel, rfl⟩
theorem dX11_later_5 : DD cX11_later 5 (.invokevirtual 302) 3 8 := ⟨by decide +kernel, rfl⟩
theorem dX11_later_8 : DD cX11_later 8 (.ireturn) 1 9 := ⟨by decide +kernel, rfl⟩
def fX11_later (m : Mem) (x1 : Int32) : Option (Int32 × Mem) := (cI (fX5_goOn m x1) fun r1 m2 => (some (r1, m2)))
set_option maxHeartbeats 4000000 in
set_option maxRecDepth 100000 in
theorem kX11_later (l : Launch) (G : Gt) (hD : ∀ m, va_D (inA G nC) (wC G m)) (m : Mem) (x1 : Int32) : ∀ a, fX11_later m x1 = some a → Ct l G wC nC yX11_later cX11_later 2 (some .int) 2 [.ref (G.2.2 0), .int x1] m (cvI a) := by
  refine ct_of (own := RX11) (ls0 := [some (.ref (G.2.2 0)), some (.int x1)]) (by decide) rfl rfl rfl (Nat.le_of_ble_eq_true rfl) hD (fun X h => ?_) l
  unfold fX11_later
  refine j_aload_n h dX11_later_0 rfl ?_
  refine gC11_49 h dX11_later_1 ?_
  refine j_iload_n h dX11_later_4 rfl ?_
  refine j_callVI (q0 := 65) (ci := 5) h [.int x1] (kX5_goOn _ G h.2.2.2.2.2.2.2.2.2.2 m x1) okX5_goOn inX5_goOn ml11_302 rfl rfl rfl rfl (by decide) (by decide) (Nat.le_of_ble_eq_true rfl) rfl dX11_later_5 (fun r1 m2 hr1 => ?_)
  exact j_iret h rfl dX11_later_8
theorem dX11_fits_0 : DD cX11_fits 0 (.aload_n 0) 1 1 := ⟨by decide +kernel, rfl⟩
theorem dX11_fits_1 : DD cX11_fits 1 (.getfield 49) 3 4 := ⟨by decide +kernel, rfl⟩
theorem dX11_fits_4 : DD cX11_fits 4 (.aload_n 0) 1 5 := ⟨by decide +kernel, rfl⟩
theorem dX11_fits_5 : DD cX11_fits 5 (.getfield 28) 3 8 := ⟨by decide +kernel, rfl⟩
theorem dX11_fits_8 : DD cX11_fits 8 (.iload_n 1) 1 9 := ⟨by decide +kernel, rfl⟩
theorem dX11_fits_9 : DD cX11_fits 9 (.invokevirtual 305) 3 12 := ⟨by decide +kernel, rfl⟩
theorem dX11_fits_12 : DD cX11_fits 12 (.aload_n 0) 1 13 := ⟨by decide +kernel, rfl⟩
theorem dX11_fits_13 : DD cX11_fits 13 (.getfield 49) 3 16 := ⟨by decide +kernel, rfl⟩
theorem dX11_fits_16 : DD cX11_fits 16 (.getfield 309) 3 19 := ⟨by decide +kernel, rfl⟩
theorem dX11_fits_19 : DD cX11_fits 19 (.ireturn) 1 20 := ⟨by decide +kernel, rfl⟩
def fX11_fits (m : Mem) (x1 : Int32) : Option (Int32 × Mem) := (cV (fX5_lookAt m x1) fun m2 => (some ((m2.1 65 8), m2)))
set_option maxHeartbeats 4000000 in
set_option maxRecDepth 100000 in
theorem kX11_fits (l : Launch) (G : Gt) (hD : ∀ m, va_D (inA G nC) (wC G m)) (m : Mem) (x1 : Int32) : ∀ a, fX11_fits m x1 = some a → Ct l G wC nC yX11_fits cX11_fits 2 (some .int) 7 [.ref (G.2.2 0), .int x1] m (cvI a) := by
  refine ct_of (own := RX11) (ls0 := [some (.ref (G.2.2 0)), some (.int x1)]) (by decide) rfl rfl rfl (Nat.le_of_ble_eq_true rfl) hD (fun X h => ?_) l
  unfold fX11_fits
  refine j_aload_n h dX11_fits_0 rfl ?_
  refine gC11_49 h dX11_fits_1 ?_
  refine j_aload_n h dX11_fits_4 rfl ?_
  refine gC11_28 h dX11_fits_5 ?_
  refine j_iload_n h dX11_fits_8 rfl ?_
  refine j_callVV (q0 := 65) (ci := 5) h [.ref (G.2.2 26), .int x1] (kX5_lookAt _ G h.2.2.2.2.2.2.2.2.2.2 m x1) okX5_lookAt inX5_lookAt ml11_305 rfl rfl rfl rfl (by decide) (by decide) (Nat.le_of_ble_eq_true rfl) rfl dX11_fits_9 (fun m2 hm2 => ?_)
  refine j_aload_n h dX11_fits_12 rfl ?_
  refine gC11_49 h dX11_fits_13 ?_
  refine gC11_309 h dX11_fits_16 ?_
  exact j_iret h rfl dX11_fits_19
theorem dX11_sure_0 : DD cX11_sure 0 (.aload_n 0) 1 1 := ⟨by decide +kernel, rfl⟩
theorem dX11_sure_1 : DD cX11_sure 1 (.getfield 28) 3 4 := ⟨by decide +kernel, rfl⟩
theorem dX11_sure_4 : DD cX11_sure 4 (.iload_n 1) 1 5 := ⟨by decide +kernel, rfl⟩
theorem dX11_sure_5 : DD cX11_sure 5 (.invokevirtual 113) 3 8 := ⟨by decide +kernel, rfl⟩
theorem dX11_sure_8 : DD cX11_sure 8 (.ifCond .ne 5) 3 11 := ⟨by decide +kernel, rfl⟩
theorem dX11_sure_11 : DD cX11_sure 11 (.iconst (-1)) 1 12 := ⟨by decide +kernel, rfl⟩
theorem dX11_sure_12 : DD cX11_sure 12 (.ireturn) 1 13 := ⟨by decide +kernel, rfl⟩
theorem dX11_sure_13 : DD cX11_sure 13 (.aload_n 0) 1 14 := ⟨by decide +kernel, rfl⟩
theorem dX11_sure_14 : DD cX11_sure 14 (.getfield 49) 3 17 := ⟨by decide +kernel, rfl⟩
theorem dX11_sure_17 : DD cX11_sure 17 (.aload_n 0) 1 18 := ⟨by decide +kernel, rfl⟩
theorem dX11_sure_18 : DD cX11_sure 18 (.getfield 28) 3 21 := ⟨by decide +kernel, rfl⟩
theorem dX11_sure_21 : DD cX11_sure 21 (.iload_n 2) 1 22 := ⟨by decide +kernel, rfl⟩
theorem dX11_sure_22 : DD cX11_sure 22 (.invokevirtual 305) 3 25 := ⟨by decide +kernel, rfl⟩
theorem dX11_sure_25 : DD cX11_sure 25 (.aload_n 0) 1 26 := ⟨by decide +kernel, rfl⟩
theorem dX11_sure_26 : DD cX11_sure 26 (.getfield 49) 3 29 := ⟨by decide +kernel, rfl⟩
theorem dX11_sure_29 : DD cX11_sure 29 (.iload_n 1) 1 30 := ⟨by decide +kernel, rfl⟩
theorem dX11_sure_30 : DD cX11_sure 30 (.invokevirtual 312) 3 33 := ⟨by decide +kernel, rfl⟩
theorem dX11_sure_33 : DD cX11_sure 33 (.ireturn) 1 34 := ⟨by decide +kernel, rfl⟩
def fX11_sure (m : Mem) (x1 : Int32) (x2 : Int32) : Option (Int32 × Mem) := (cP (fX9_hasPerson m x1) fun r1 => (if r1 = 0 then (some ((-1 : Int32), m)) else (cV (fX5_lookAt m x2) fun m5 => (cP (fX5_sideOf m5 x1) fun r6 => (some (r6, m5))))))
set_option maxHeartbeats 4000000 in
set_option maxRecDepth 100000 in
theorem kX11_sure (l : Launch) (G : Gt) (hD : ∀ m, va_D (inA G nC) (wC G m)) (m : Mem) (x1 : Int32) (x2 : Int32) : ∀ a, fX11_sure m x1 x2 = some a → Ct l G wC nC yX11_sure cX11_sure 3 (some .int) 7 [.ref (G.2.2 0), .int x1, .int x2] m (cvI a) := by
  refine ct_of (own := RX11) (ls0 := [some (.ref (G.2.2 0)), some (.int x1), some (.int x2)]) (by decide) rfl rfl rfl (Nat.le_of_ble_eq_true rfl) hD (fun X h => ?_) l
  unfold fX11_sure
  refine j_aload_n h dX11_sure_0 rfl ?_
  refine gC11_28 h dX11_sure_1 ?_
  refine j_iload_n h dX11_sure_4 rfl ?_
  refine j_callVP (q0 := 26) (ci := 9) h [.int x1] (kX9_hasPerson _ G h.2.2.2.2.2.2.2.2.2.2 m x1) okX9_hasPerson inX9_hasPerson ml11_113 rfl rfl rfl rfl (by decide) (by decide) (Nat.le_of_ble_eq_true rfl) rfl dX11_sure_5 (fun r1 hr1 => ?_)
  refine j_if_ne (tgt := 13) h dX11_sure_8 (by decide) (fun c3 => ?_) (fun c3 => ?_)
  · refine j_aload_n h dX11_sure_13 rfl ?_
    refine gC11_49 h dX11_sure_14 ?_
    refine j_aload_n h dX11_sure_17 rfl ?_
    refine gC11_28 h dX11_sure_18 ?_
    refine j_iload_n h dX11_sure_21 rfl ?_
    refine j_callVV (q0 := 65) (ci := 5) h [.ref (G.2.2 26), .int x2] (kX5_lookAt _ G h.2.2.2.2.2.2.2.2.2.2 m x2) okX5_lookAt inX5_lookAt ml11_305 rfl rfl rfl rfl (by decide) (by decide) (Nat.le_of_ble_eq_true rfl) rfl dX11_sure_22 (fun m5 hm5 => ?_)
    refine j_aload_n h dX11_sure_25 rfl ?_
    refine gC11_49 h dX11_sure_26 ?_
    refine j_iload_n h dX11_sure_29 rfl ?_
    refine j_callVP (q0 := 65) (ci := 5) h [.int x1] (kX5_sideOf _ G h.2.2.2.2.2.2.2.2.2.2 m5 x1) okX5_sideOf inX5_sideOf ml11_312 rfl rfl rfl rfl (by decide) (by decide) (Nat.le_of_ble_eq_true rfl) rfl dX11_sure_30 (fun r6 hr6 => ?_)
    exact j_iret h rfl dX11_sure_33
  · refine j_iconst (v := (-1 : Int32)) h dX11_sure_11 kiconst_m1 ?_
    exact j_iret h rfl dX11_sure_12
theorem dX11_ask_0 : DD cX11_ask 0 (.iload_n 1) 1 1 := ⟨by decide +kernel, rfl⟩
theorem dX11_ask_1 : DD cX11_ask 1 (.invokestatic 292) 3 4 := ⟨by decide +kernel, rfl⟩
theorem dX11_ask_4 : DD cX11_ask 4 (.ifCond .eq 12) 3 7 := ⟨by decide +kernel, rfl⟩
theorem dX11_ask_7 : DD cX11_ask 7 (.iload_n 2) 1 8 := ⟨by decide +kernel, rfl⟩
theorem dX11_ask_8 : DD cX11_ask 8 (.ifCond .lt 8) 3 11 := ⟨by decide +kernel, rfl⟩
theorem dX11_ask_11 : DD cX11_ask 11 (.iload_n 2) 1 12 := ⟨by decide +kernel, rfl⟩
theorem dX11_ask_12 : DD cX11_ask 12 (.iconst 1) 1 13 := ⟨by decide +kernel, rfl⟩
theorem dX11_ask_13 : DD cX11_ask 13 (.if_icmp .le 5) 3 16 := ⟨by decide +kernel, rfl⟩
theorem dX11_ask_16 : DD cX11_ask 16 (.iconst (-1)) 1 17 := ⟨by decide +kernel, rfl⟩
theorem dX11_ask_17 : DD cX11_ask 17 (.ireturn) 1 18 := ⟨by decide +kernel, rfl⟩
theorem dX11_ask_18 : DD cX11_ask 18 (.aload_n 0) 1 19 := ⟨by decide +kernel, rfl⟩
theorem dX11_ask_19 : DD cX11_ask 19 (.getfield 49) 3 22 := ⟨by decide +kernel, rfl⟩
theorem dX11_ask_22 : DD cX11_ask 22 (.aload_n 0) 1 23 := ⟨by decide +kernel, rfl⟩
theorem dX11_ask_23 : DD cX11_ask 23 (.getfield 28) 3 26 := ⟨by decide +kernel, rfl⟩
theorem dX11_ask_26 : DD cX11_ask 26 (.iload_n 3) 1 27 := ⟨by decide +kernel, rfl⟩
theorem dX11_ask_27 : DD cX11_ask 27 (.invokevirtual 305) 3 30 := ⟨by decide +kernel, rfl⟩
theorem dX11_ask_30 : DD cX11_ask 30 (.aload_n 0) 1 31 := ⟨by decide +kernel, rfl⟩
theorem dX11_ask_31 : DD cX11_ask 31 (.getfield 49) 3 34 := ⟨by decide +kernel, rfl⟩
theorem dX11_ask_34 : DD cX11_ask 34 (.getfield 309) 3 37 := ⟨by decide +kernel, rfl⟩
theorem dX11_ask_37 : DD cX11_ask 37 (.ifCond .ne 5) 3 40 := ⟨by decide +kernel, rfl⟩
theorem dX11_ask_40 : DD cX11_ask 40 (.iconst (-1)) 1 41 := ⟨by decide +kernel, rfl⟩
theorem dX11_ask_41 : DD cX11_ask 41 (.ireturn) 1 42 := ⟨by decide +kernel, rfl⟩
theorem dX11_ask_42 : DD cX11_ask 42 (.aload_n 0) 1 43 := ⟨by decide +kernel, rfl⟩
theorem dX11_ask_43 : DD cX11_ask 43 (.getfield 49) 3 46 := ⟨by decide +kernel, rfl⟩
theorem dX11_ask_46 : DD cX11_ask 46 (.aload_n 0) 1 47 := ⟨by decide +kernel, rfl⟩
theorem dX11_ask_47 : DD cX11_ask 47 (.getfield 28) 3 50 := ⟨by decide +kernel, rfl⟩
theorem dX11_ask_50 : DD cX11_ask 50 (.iload_n 1) 1 51 := ⟨by decide +kernel, rfl⟩
theorem dX11_ask_51 : DD cX11_ask 51 (.invokevirtual 315) 3 54 := ⟨by decide +kernel, rfl⟩
theorem dX11_ask_54 : DD cX11_ask 54 (.istore 4) 2 56 := ⟨by decide +kernel, rfl⟩
theorem dX11_ask_56 : DD cX11_ask 56 (.iload_n 2) 1 57 := ⟨by decide +kernel, rfl⟩
theorem dX11_ask_57 : DD cX11_ask 57 (.ifCond .ne 8) 3 60 := ⟨by decide +kernel, rfl⟩
theorem dX11_ask_60 : DD cX11_ask 60 (.iload 4) 2 62 := ⟨by decide +kernel, rfl⟩
theorem dX11_ask_62 : DD cX11_ask 62 (.goto 17) 3 65 := ⟨by decide +kernel, rfl⟩
theorem dX11_ask_65 : DD cX11_ask 65 (.aload_n 0) 1 66 := ⟨by decide +kernel, rfl⟩
theorem dX11_ask_66 : DD cX11_ask 66 (.getfield 49) 3 69 := ⟨by decide +kernel, rfl⟩
theorem dX11_ask_69 : DD cX11_ask 69 (.aload_n 0) 1 70 := ⟨by decide +kernel, rfl⟩
theorem dX11_ask_70 : DD cX11_ask 70 (.getfield 28) 3 73 := ⟨by decide +kernel, rfl⟩
theorem dX11_ask_73 : DD cX11_ask 73 (.iload_n 1) 1 74 := ⟨by decide +kernel, rfl⟩
theorem dX11_ask_74 : DD cX11_ask 74 (.iload 4) 2 76 := ⟨by decide +kernel, rfl⟩
theorem dX11_ask_76 : DD cX11_ask 76 (.invokevirtual 319) 3 79 := ⟨by decide +kernel, rfl⟩
theorem dX11_ask_79 : DD cX11_ask 79 (.ireturn) 1 80 := ⟨by decide +kernel, rfl⟩
def fX11_ask (m : Mem) (x1 : Int32) (x2 : Int32) (x3 : Int32) : Option (Int32 × Mem) := (cP (fX11_isHouse x1) fun r1 => (if r1 = 0 then (some ((-1 : Int32), m)) else (if x2 < 0 then (some ((-1 : Int32), m)) else (if x2 ≤ (1 : Int32) then (cV (fX5_lookAt m x3) fun m7 => (if (m7.1 65 8) = 0 then (some ((-1 : Int32), m7)) else (cI (fX5_bestHour m7 x1) fun r9 m10 => (if x2 = 0 then (some (r9, m10)) else (cI (fX5_mostLeft m10 x1 r9) fun r12 m13 => (some (r12, m13))))))) else (some ((-1 : Int32), m))))))
set_option maxHeartbeats 4000000 in
set_option maxRecDepth 100000 in
theorem kX11_ask (l : Launch) (G : Gt) (hD : ∀ m, va_D (inA G nC) (wC G m)) (m : Mem) (x1 : Int32) (x2 : Int32) (x3 : Int32) : ∀ a, fX11_ask m x1 x2 x3 = some a → Ct l G wC nC yX11_ask cX11_ask 5 (some .int) 8 [.ref (G.2.2 0), .int x1, .int x2, .int x3] m (cvI a) := by
  refine ct_of (own := RX11) (ls0 := [some (.ref (G.2.2 0)), some (.int x1), some (.int x2), some (.int x3), none]) (by decide) rfl rfl rfl (Nat.le_of_ble_eq_true rfl) hD (fun X h => ?_) l
  unfold fX11_ask
  refine j_iload_n h dX11_ask_0 rfl ?_
  refine j_callSP h [.int x1] (kX11_isHouse _ G h.2.2.2.2.2.2.2.2.2.2 m x1) okX11_isHouse stX11_isHouse ml11_292 rfl rfl (by decide) (by decide) (Nat.le_of_ble_eq_true rfl) rfl dX11_ask_1 (fun r1 hr1 => ?_)
  refine j_if_eq (tgt := 16) h dX11_ask_4 (by decide) (fun c3 => ?_) (fun c3 => ?_)
  · refine j_iconst (v := (-1 : Int32)) h dX11_ask_16 kiconst_m1 ?_
    exact j_iret h rfl dX11_ask_17
  · refine j_iload_n h dX11_ask_7 rfl ?_
    refine j_if_lt (tgt := 16) h dX11_ask_8 (by decide) (fun c4 => ?_) (fun c4 => ?_)
    · refine j_iconst (v := (-1 : Int32)) h dX11_ask_16 kiconst_m1 ?_
      exact j_iret h rfl dX11_ask_17
    · refine j_iload_n h dX11_ask_11 rfl ?_
      refine j_iconst (v := (1 : Int32)) h dX11_ask_12 kiconst_1 ?_
      refine j_icmp_le (tgt := 18) h dX11_ask_13 (by decide) (fun c5 => ?_) (fun c5 => ?_)
      · refine j_aload_n h dX11_ask_18 rfl ?_
        refine gC11_49 h dX11_ask_19 ?_
        refine j_aload_n h dX11_ask_22 rfl ?_
        refine gC11_28 h dX11_ask_23 ?_
        refine j_iload_n h dX11_ask_26 rfl ?_
        refine j_callVV (q0 := 65) (ci := 5) h [.ref (G.2.2 26), .int x3] (kX5_lookAt _ G h.2.2.2.2.2.2.2.2.2.2 m x3) okX5_lookAt inX5_lookAt ml11_305 rfl rfl rfl rfl (by decide) (by decide) (Nat.le_of_ble_eq_true rfl) rfl dX11_ask_27 (fun m7 hm7 => ?_)
        refine j_aload_n h dX11_ask_30 rfl ?_
        refine gC11_49 h dX11_ask_31 ?_
        refine gC11_309 h dX11_ask_34 ?_
        refine j_if_ne (tgt := 42) h dX11_ask_37 (by decide) (fun c8 => ?_) (fun c8 => ?_)
        · refine j_aload_n h dX11_ask_42 rfl ?_
          refine gC11_49 h dX11_ask_43 ?_
          refine j_aload_n h dX11_ask_46 rfl ?_
          refine gC11_28 h dX11_ask_47 ?_
          refine j_iload_n h dX11_ask_50 rfl ?_
          refine j_callVI (q0 := 65) (ci := 5) h [.ref (G.2.2 26), .int x1] (kX5_bestHour _ G h.2.2.2.2.2.2.2.2.2.2 m7 x1) okX5_bestHour inX5_bestHour ml11_315 rfl rfl rfl rfl (by decide) (by decide) (Nat.le_of_ble_eq_true rfl) rfl dX11_ask_51 (fun r9 m10 hr9 => ?_)
          refine j_istore h dX11_ask_54 rfl rfl ?_
          refine j_iload_n h dX11_ask_56 rfl ?_
          refine j_if_ne (tgt := 65) h dX11_ask_57 (by decide) (fun c11 => ?_) (fun c11 => ?_)
          · refine j_aload_n h dX11_ask_65 rfl ?_
            refine gC11_49 h dX11_ask_66 ?_
            refine j_aload_n h dX11_ask_69 rfl ?_
            refine gC11_28 h dX11_ask_70 ?_
            refine j_iload_n h dX11_ask_73 rfl ?_
            refine j_iload h dX11_ask_74 rfl ?_
            refine j_callVI (q0 := 65) (ci := 5) h [.ref (G.2.2 26), .int x1, .int r9] (kX5_mostLeft _ G h.2.2.2.2.2.2.2.2.2.2 m10 x1 r9) okX5_mostLeft inX5_mostLeft ml11_319 rfl rfl rfl rfl (by decide) (by decide) (Nat.le_of_ble_eq_true rfl) rfl dX11_ask_76 (fun r12 m13 hr12 => ?_)
            exact j_iret h rfl dX11_ask_79
          · refine j_iload h dX11_ask_60 rfl ?_
            refine j_goto (tgt := 79) h dX11_ask_62 (by decide) ?_
            exact j_iret h rfl dX11_ask_79
        · refine j_iconst (v := (-1 : Int32)) h dX11_ask_40 kiconst_m1 ?_
          exact j_iret h rfl dX11_ask_41
      · refine j_iconst (v := (-1 : Int32)) h dX11_ask_16 kiconst_m1 ?_
        exact j_iret h rfl dX11_ask_17
theorem dX11_isBox_0 : DD cX11_isBox 0 (.iload_n 0) 1 1 := ⟨by decide +kernel, rfl⟩
theorem dX11_isBox_1 : DD cX11_isBox 1 (.ifCond .lt 12) 3 4 := ⟨by decide +kernel, rfl⟩
theorem dX11_isBox_4 : DD cX11_isBox 4 (.iload_n 0) 1 5 := ⟨by decide +kernel, rfl⟩
theorem dX11_isBox_5 : DD cX11_isBox 5 (.iconst 3) 1 6 := ⟨by decide +kernel, rfl⟩
theorem dX11_isBox_6 : DD cX11_isBox 6 (.if_icmp .ge 7) 3 9 := ⟨by decide +kernel, rfl⟩
theorem dX11_isBox_9 : DD cX11_isBox 9 (.iconst 1) 1 10 := ⟨by decide +kernel, rfl⟩
theorem dX11_isBox_10 : DD cX11_isBox 10 (.goto 4) 3 13 := ⟨by decide +kernel, rfl⟩
theorem dX11_isBox_13 : DD cX11_isBox 13 (.iconst 0) 1 14 := ⟨by decide +kernel, rfl⟩
theorem dX11_isBox_14 : DD cX11_isBox 14 (.ireturn) 1 15 := ⟨by decide +kernel, rfl⟩
def fX11_isBox (x0 : Int32) : Option Int32 := (if x0 < 0 then (some (0 : Int32)) else (if (3 : Int32) ≤ x0 then (some (0 : Int32)) else (some (1 : Int32))))
set_option maxHeartbeats 4000000 in
set_option maxRecDepth 100000 in
theorem kX11_isBox (l : Launch) (G : Gt) (hD : ∀ m, va_D (inA G nC) (wC G m)) (m : Mem) (x0 : Int32) : ∀ a, fX11_isBox x0 = some a → Ct l G wC nC yX11_isBox cX11_isBox 1 (some .boolean) 1 [.int x0] m ((cvP m) a) := by
  refine ct_of (own := RX11) (ls0 := [some (.int x0)]) (by decide) rfl rfl rfl (Nat.le_of_ble_eq_true rfl) hD (fun X h => ?_) l
  unfold fX11_isBox
  refine j_iload_n h dX11_isBox_0 rfl ?_
  refine j_if_lt (tgt := 13) h dX11_isBox_1 (by decide) (fun c1 => ?_) (fun c1 => ?_)
  · refine j_iconst (v := (0 : Int32)) h dX11_isBox_13 kiconst_0 ?_
    exact j_zretB h rfl rfl dX11_isBox_14
  · refine j_iload_n h dX11_isBox_4 rfl ?_
    refine j_iconst (v := (3 : Int32)) h dX11_isBox_5 kiconst_3 ?_
    refine j_icmp_ge (tgt := 13) h dX11_isBox_6 (by decide) (fun c2 => ?_) (fun c2 => ?_)
    · refine j_iconst (v := (0 : Int32)) h dX11_isBox_13 kiconst_0 ?_
      exact j_zretB h rfl rfl dX11_isBox_14
    · refine j_iconst (v := (1 : Int32)) h dX11_isBox_9 kiconst_1 ?_
      refine j_goto (tgt := 14) h dX11_isBox_10 (by decide) ?_
      exact j_zretB h rfl rfl dX11_isBox_14
theorem dX11_image_0 : DD cX11_image 0 (.iload_n 1) 1 1 := ⟨by decide +kernel, rfl⟩
theorem dX11_image_1 : DD cX11_image 1 (.invokestatic 322) 3 4 := ⟨by decide +kernel, rfl⟩
theorem dX11_image_4 : DD cX11_image 4 (.ifCond .ne 5) 3 7 := ⟨by decide +kernel, rfl⟩
theorem dX11_image_7 : DD cX11_image 7 (.iconst (-1)) 1 8 := ⟨by decide +kernel, rfl⟩
theorem dX11_image_8 : DD cX11_image 8 (.ireturn) 1 9 := ⟨by decide +kernel, rfl⟩
theorem dX11_image_9 : DD cX11_image 9 (.aload_n 0) 1 10 := ⟨by decide +kernel, rfl⟩
theorem dX11_image_10 : DD cX11_image 10 (.getfield 28) 3 13 := ⟨by decide +kernel, rfl⟩
theorem dX11_image_13 : DD cX11_image 13 (.getfield 64) 3 16 := ⟨by decide +kernel, rfl⟩
theorem dX11_image_16 : DD cX11_image 16 (.aload_n 0) 1 17 := ⟨by decide +kernel, rfl⟩
theorem dX11_image_17 : DD cX11_image 17 (.getfield 55) 3 20 := ⟨by decide +kernel, rfl⟩
theorem dX11_image_20 : DD cX11_image 20 (.iload_n 1) 1 21 := ⟨by decide +kernel, rfl⟩
theorem dX11_image_21 : DD cX11_image 21 (.bipush 37) 2 23 := ⟨by decide +kernel, rfl⟩
theorem dX11_image_23 : DD cX11_image 23 (.imul) 1 24 := ⟨by decide +kernel, rfl⟩
theorem dX11_image_24 : DD cX11_image 24 (.invokevirtual 325) 3 27 := ⟨by decide +kernel, rfl⟩
theorem dX11_image_27 : DD cX11_image 27 (.aload_n 0) 1 28 := ⟨by decide +kernel, rfl⟩
theorem dX11_image_28 : DD cX11_image 28 (.dup) 1 29 := ⟨by decide +kernel, rfl⟩
theorem dX11_image_29 : DD cX11_image 29 (.getfield 101) 3 32 := ⟨by decide +kernel, rfl⟩
theorem dX11_image_32 : DD cX11_image 32 (.iconst 1) 1 33 := ⟨by decide +kernel, rfl⟩
theorem dX11_image_33 : DD cX11_image 33 (.iload_n 1) 1 34 := ⟨by decide +kernel, rfl⟩
theorem dX11_image_34 : DD cX11_image 34 (.ishl) 1 35 := ⟨by decide +kernel, rfl⟩
theorem dX11_image_35 : DD cX11_image 35 (.ior) 1 36 := ⟨by decide +kernel, rfl⟩
theorem dX11_image_36 : DD cX11_image 36 (.putfield 101) 3 39 := ⟨by decide +kernel, rfl⟩
theorem dX11_image_39 : DD cX11_image 39 (.aload_n 0) 1 40 := ⟨by decide +kernel, rfl⟩
theorem dX11_image_40 : DD cX11_image 40 (.getfield 28) 3 43 := ⟨by decide +kernel, rfl⟩
theorem dX11_image_43 : DD cX11_image 43 (.getfield 64) 3 46 := ⟨by decide +kernel, rfl⟩
theorem dX11_image_46 : DD cX11_image 46 (.getfield 226) 3 49 := ⟨by decide +kernel, rfl⟩
theorem dX11_image_49 : DD cX11_image 49 (.ireturn) 1 50 := ⟨by decide +kernel, rfl⟩
def fX11_image (m : Mem) (x1 : Int32) : Option (Int32 × Mem) := (cP (fX11_isBox x1) fun r1 => (if r1 = 0 then (some ((-1 : Int32), m)) else (cV (fX8_save m 72 (x1 * (37 : Int32))) fun m5 => (pt (sI m5 0 7 ((m5.1 0 7) ||| ((1 : Int32) <<< (x1 &&& 31)))) fun m6 => (some ((m6.1 27 6), m6))))))
set_option maxHeartbeats 4000000 in
set_option maxRecDepth 100000 in
theorem kX11_image (l : Launch) (G : Gt) (hD : ∀ m, va_D (inA G nC) (wC G m)) (m : Mem) (x1 : Int32) : ∀ a, fX11_image m x1 = some a → Ct l G wC nC yX11_image cX11_image 2 (some .int) 3 [.ref (G.2.2 0), .int x1] m (cvI a) := by
  refine ct_of (own := RX11) (ls0 := [some (.ref (G.2.2 0)), some (.int x1)]) (by decide) rfl rfl rfl (Nat.le_of_ble_eq_true rfl) hD (fun X h => ?_) l
  unfold fX11_image
  refine j_iload_n h dX11_image_0 rfl ?_
  refine j_callSP h [.int x1] (kX11_isBox _ G h.2.2.2.2.2.2.2.2.2.2 m x1) okX11_isBox stX11_isBox ml11_322 rfl rfl (by decide) (by decide) (Nat.le_of_ble_eq_true rfl) rfl dX11_image_1 (fun r1 hr1 => ?_)
  refine j_if_ne (tgt := 9) h dX11_image_4 (by decide) (fun c3 => ?_) (fun c3 => ?_)
  · refine j_aload_n h dX11_image_9 rfl ?_
    refine gC11_28 h dX11_image_10 ?_
    refine gC11_64 h dX11_image_13 ?_
    refine j_aload_n h dX11_image_16 rfl ?_
    refine gC11_55 h dX11_image_17 ?_
    refine j_iload_n h dX11_image_20 rfl ?_
    refine j_bipush (v := (37 : Int32)) h dX11_image_21 kbipush_37 ?_
    refine j_imul h dX11_image_23 ?_
    refine j_callVV (q0 := 27) (ci := 8) h [.ref (G.2.2 72), .int (x1 * (37 : Int32))] (kX8_save _ G h.2.2.2.2.2.2.2.2.2.2 m 72 (x1 * (37 : Int32))) okX8_save inX8_save ml11_325 rfl rfl rfl rfl (by decide) (by decide) (Nat.le_of_ble_eq_true rfl) rfl dX11_image_24 (fun m5 hm5 => ?_)
    refine j_aload_n h dX11_image_27 rfl ?_
    refine j_dup h dX11_image_28 rfl ?_
    refine gC11_101 h dX11_image_29 ?_
    refine j_iconst (v := (1 : Int32)) h dX11_image_32 kiconst_1 ?_
    refine j_iload_n h dX11_image_33 rfl ?_
    refine j_ishl h dX11_image_34 ?_
    refine j_ior h dX11_image_35 ?_
    refine pC11_101 h dX11_image_36 (fun m6 hm6 => ?_)
    refine j_aload_n h dX11_image_39 rfl ?_
    refine gC11_28 h dX11_image_40 ?_
    refine gC11_64 h dX11_image_43 ?_
    refine gC11_226 h dX11_image_46 ?_
    exact j_iret h rfl dX11_image_49
  · refine j_iconst (v := (-1 : Int32)) h dX11_image_7 kiconst_m1 ?_
    exact j_iret h rfl dX11_image_8
theorem dX11_back_0 : DD cX11_back 0 (.iload_n 1) 1 1 := ⟨by decide +kernel, rfl⟩
theorem dX11_back_1 : DD cX11_back 1 (.invokestatic 322) 3 4 := ⟨by decide +kernel, rfl⟩
theorem dX11_back_4 : DD cX11_back 4 (.ifCond .eq 14) 3 7 := ⟨by decide +kernel, rfl⟩
theorem dX11_back_7 : DD cX11_back 7 (.aload_n 0) 1 8 := ⟨by decide +kernel, rfl⟩
theorem dX11_back_8 : DD cX11_back 8 (.getfield 101) 3 11 := ⟨by decide +kernel, rfl⟩
theorem dX11_back_11 : DD cX11_back 11 (.iload_n 1) 1 12 := ⟨by decide +kernel, rfl⟩
theorem dX11_back_12 : DD cX11_back 12 (.ishr) 1 13 := ⟨by decide +kernel, rfl⟩
theorem dX11_back_13 : DD cX11_back 13 (.iconst 1) 1 14 := ⟨by decide +kernel, rfl⟩
theorem dX11_back_14 : DD cX11_back 14 (.iand) 1 15 := ⟨by decide +kernel, rfl⟩
theorem dX11_back_15 : DD cX11_back 15 (.ifCond .ne 5) 3 18 := ⟨by decide +kernel, rfl⟩
theorem dX11_back_18 : DD cX11_back 18 (.iconst (-1)) 1 19 := ⟨by decide +kernel, rfl⟩
theorem dX11_back_19 : DD cX11_back 19 (.ireturn) 1 20 := ⟨by decide +kernel, rfl⟩
theorem dX11_back_20 : DD cX11_back 20 (.aload_n 0) 1 21 := ⟨by decide +kernel, rfl⟩
theorem dX11_back_21 : DD cX11_back 21 (.getfield 28) 3 24 := ⟨by decide +kernel, rfl⟩
theorem dX11_back_24 : DD cX11_back 24 (.getfield 64) 3 27 := ⟨by decide +kernel, rfl⟩
theorem dX11_back_27 : DD cX11_back 27 (.aload_n 0) 1 28 := ⟨by decide +kernel, rfl⟩
theorem dX11_back_28 : DD cX11_back 28 (.getfield 55) 3 31 := ⟨by decide +kernel, rfl⟩
theorem dX11_back_31 : DD cX11_back 31 (.iload_n 1) 1 32 := ⟨by decide +kernel, rfl⟩
theorem dX11_back_32 : DD cX11_back 32 (.bipush 37) 2 34 := ⟨by decide +kernel, rfl⟩
theorem dX11_back_34 : DD cX11_back 34 (.imul) 1 35 := ⟨by decide +kernel, rfl⟩
theorem dX11_back_35 : DD cX11_back 35 (.invokevirtual 329) 3 38 := ⟨by decide +kernel, rfl⟩
theorem dX11_back_38 : DD cX11_back 38 (.aload_n 0) 1 39 := ⟨by decide +kernel, rfl⟩
theorem dX11_back_39 : DD cX11_back 39 (.getfield 35) 3 42 := ⟨by decide +kernel, rfl⟩
theorem dX11_back_42 : DD cX11_back 42 (.aload_n 0) 1 43 := ⟨by decide +kernel, rfl⟩
theorem dX11_back_43 : DD cX11_back 43 (.getfield 28) 3 46 := ⟨by decide +kernel, rfl⟩
theorem dX11_back_46 : DD cX11_back 46 (.getfield 64) 3 49 := ⟨by decide +kernel, rfl⟩
theorem dX11_back_49 : DD cX11_back 49 (.invokevirtual 68) 3 52 := ⟨by decide +kernel, rfl⟩
theorem dX11_back_52 : DD cX11_back 52 (.aload_n 0) 1 53 := ⟨by decide +kernel, rfl⟩
theorem dX11_back_53 : DD cX11_back 53 (.getfield 28) 3 56 := ⟨by decide +kernel, rfl⟩
theorem dX11_back_56 : DD cX11_back 56 (.getfield 64) 3 59 := ⟨by decide +kernel, rfl⟩
theorem dX11_back_59 : DD cX11_back 59 (.getfield 226) 3 62 := ⟨by decide +kernel, rfl⟩
theorem dX11_back_62 : DD cX11_back 62 (.ireturn) 1 63 := ⟨by decide +kernel, rfl⟩
def fX11_back (m : Mem) (x1 : Int32) : Option (Int32 × Mem) := (cP (fX11_isBox x1) fun r1 => (if r1 = 0 then (some ((-1 : Int32), m)) else (if (((m.1 0 7) >>> (x1 &&& 31)) &&& (1 : Int32)) = 0 then (some ((-1 : Int32), m)) else (cV (fX8_load m 72 (x1 * (37 : Int32))) fun m6 => (cV (fX0_forgetAll m6) fun m8 => (some ((m8.1 27 6), m8)))))))
set_option maxHeartbeats 4000000 in
set_option maxRecDepth 100000 in
theorem kX11_back (l : Launch) (G : Gt) (hD : ∀ m, va_D (inA G nC) (wC G m)) (m : Mem) (x1 : Int32) : ∀ a, fX11_back m x1 = some a → Ct l G wC nC yX11_back cX11_back 2 (some .int) 4 [.ref (G.2.2 0), .int x1] m (cvI a) := by
  refine ct_of (own := RX11) (ls0 := [some (.ref (G.2.2 0)), some (.int x1)]) (by decide) rfl rfl rfl (Nat.le_of_ble_eq_true rfl) hD (fun X h => ?_) l
  unfold fX11_back
  refine j_iload_n h dX11_back_0 rfl ?_
  refine j_callSP h [.int x1] (kX11_isBox _ G h.2.2.2.2.2.2.2.2.2.2 m x1) okX11_isBox stX11_isBox ml11_322 rfl rfl (by decide) (by decide) (Nat.le_of_ble_eq_true rfl) rfl dX11_back_1 (fun r1 hr1 => ?_)
  refine j_if_eq (tgt := 18) h dX11_back_4 (by decide) (fun c3 => ?_) (fun c3 => ?_)
  · refine j_iconst (v := (-1 : Int32)) h dX11_back_18 kiconst_m1 ?_
    exact j_iret h rfl dX11_back_19
  · refine j_aload_n h dX11_back_7 rfl ?_
    refine gC11_101 h dX11_back_8 ?_
    refine j_iload_n h dX11_back_11 rfl ?_
    refine j_ishr h dX11_back_12 ?_
    refine j_iconst (v := (1 : Int32)) h dX11_back_13 kiconst_1 ?_
    refine j_iand h dX11_back_14 ?_
    refine j_if_ne (tgt := 20) h dX11_back_15 (by decide) (fun c4 => ?_) (fun c4 => ?_)
    · refine j_aload_n h dX11_back_20 rfl ?_
      refine gC11_28 h dX11_back_21 ?_
      refine gC11_64 h dX11_back_24 ?_
      refine j_aload_n h dX11_back_27 rfl ?_
      refine gC11_55 h dX11_back_28 ?_
      refine j_iload_n h dX11_back_31 rfl ?_
      refine j_bipush (v := (37 : Int32)) h dX11_back_32 kbipush_37 ?_
      refine j_imul h dX11_back_34 ?_
      refine j_callVV (q0 := 27) (ci := 8) h [.ref (G.2.2 72), .int (x1 * (37 : Int32))] (kX8_load _ G h.2.2.2.2.2.2.2.2.2.2 m 72 (x1 * (37 : Int32))) okX8_load inX8_load ml11_329 rfl rfl rfl rfl (by decide) (by decide) (Nat.le_of_ble_eq_true rfl) rfl dX11_back_35 (fun m6 hm6 => ?_)
      refine j_aload_n h dX11_back_38 rfl ?_
      refine gC11_35 h dX11_back_39 ?_
      refine j_aload_n h dX11_back_42 rfl ?_
      refine gC11_28 h dX11_back_43 ?_
      refine gC11_64 h dX11_back_46 ?_
      refine j_callVV (q0 := 56) (ci := 0) h [.ref (G.2.2 27)] (kX0_forgetAll _ G h.2.2.2.2.2.2.2.2.2.2 m6) okX0_forgetAll inX0_forgetAll ml11_68 rfl rfl rfl rfl (by decide) (by decide) (Nat.le_of_ble_eq_true rfl) rfl dX11_back_49 (fun m8 hm8 => ?_)
      refine j_aload_n h dX11_back_52 rfl ?_
      refine gC11_28 h dX11_back_53 ?_
      refine gC11_64 h dX11_back_56 ?_
      refine gC11_226 h dX11_back_59 ?_
      exact j_iret h rfl dX11_back_62
    · refine j_iconst (v := (-1 : Int32)) h dX11_back_18 kiconst_m1 ?_
      exact j_iret h rfl dX11_back_19
theorem dX11_about_0 : DD cX11_about 0 (.iload_n 1) 1 1 := ⟨by decide +kernel, rfl⟩
theorem dX11_about_1 : DD cX11_about 1 (.tableswitch 189 0 12 #[67, 78, 89, 100, 111, 122, 133, 141, 149, 157, 165, 173, 184]) 67 68 := ⟨by decide +kernel, rfl⟩
theorem dX11_about_68 : DD cX11_about 68 (.aload_n 0) 1 69 := ⟨by decide +kernel, rfl⟩
theorem dX11_about_69 : DD cX11_about 69 (.getfield 28) 3 72 := ⟨by decide +kernel, rfl⟩
theorem dX11_about_72 : DD cX11_about 72 (.getfield 84) 3 75 := ⟨by decide +kernel, rfl⟩
theorem dX11_about_75 : DD cX11_about 75 (.getfield 104) 3 78 := ⟨by decide +kernel, rfl⟩
theorem dX11_about_78 : DD cX11_about 78 (.ireturn) 1 79 := ⟨by decide +kernel, rfl⟩
theorem dX11_about_79 : DD cX11_about 79 (.aload_n 0) 1 80 := ⟨by decide +kernel, rfl⟩
theorem dX11_about_80 : DD cX11_about 80 (.getfield 28) 3 83 := ⟨by decide +kernel, rfl⟩
theorem dX11_about_83 : DD cX11_about 83 (.getfield 84) 3 86 := ⟨by decide +kernel, rfl⟩
theorem dX11_about_86 : DD cX11_about 86 (.getfield 223) 3 89 := ⟨by decide +kernel, rfl⟩
theorem dX11_about_89 : DD cX11_about 89 (.ireturn) 1 90 := ⟨by decide +kernel, rfl⟩
theorem dX11_about_90 : DD cX11_about 90 (.aload_n 0) 1 91 := ⟨by decide +kernel, rfl⟩
theorem dX11_about_91 : DD cX11_about 91 (.getfield 28) 3 94 := ⟨by decide +kernel, rfl⟩
theorem dX11_about_94 : DD cX11_about 94 (.getfield 84) 3 97 := ⟨by decide +kernel, rfl⟩
theorem dX11_about_97 : DD cX11_about 97 (.getfield 332) 3 100 := ⟨by decide +kernel, rfl⟩
theorem dX11_about_100 : DD cX11_about 100 (.ireturn) 1 101 := ⟨by decide +kernel, rfl⟩
theorem dX11_about_101 : DD cX11_about 101 (.aload_n 0) 1 102 := ⟨by decide +kernel, rfl⟩
theorem dX11_about_102 : DD cX11_about 102 (.getfield 28) 3 105 := ⟨by decide +kernel, rfl⟩
theorem dX11_about_105 : DD cX11_about 105 (.getfield 64) 3 108 := ⟨by decide +kernel, rfl⟩
theorem dX11_about_108 : DD cX11_about 108 (.getfield 130) 3 111 := ⟨by decide +kernel, rfl⟩
theorem dX11_about_111 : DD cX11_about 111 (.ireturn) 1 112 := ⟨by decide +kernel, rfl⟩
theorem dX11_about_112 : DD cX11_about 112 (.aload_n 0) 1 113 := ⟨by decide +kernel, rfl⟩
theorem dX11_about_113 : DD cX11_about 113 (.getfield 28) 3 116 := ⟨by decide +kernel, rfl⟩
theorem dX11_about_116 : DD cX11_about 116 (.getfield 64) 3 119 := ⟨by decide +kernel, rfl⟩
theorem dX11_about_119 : DD cX11_about 119 (.getfield 226) 3 122 := ⟨by decide +kernel, rfl⟩
theorem dX11_about_122 : DD cX11_about 122 (.ireturn) 1 123 := ⟨by decide +kernel, rfl⟩
theorem dX11_about_123 : DD cX11_about 123 (.aload_n 0) 1 124 := ⟨by decide +kernel, rfl⟩
theorem dX11_about_124 : DD cX11_about 124 (.getfield 28) 3 127 := ⟨by decide +kernel, rfl⟩
theorem dX11_about_127 : DD cX11_about 127 (.getfield 64) 3 130 := ⟨by decide +kernel, rfl⟩
theorem dX11_about_130 : DD cX11_about 130 (.getfield 205) 3 133 := ⟨by decide +kernel, rfl⟩
theorem dX11_about_133 : DD cX11_about 133 (.ireturn) 1 134 := ⟨by decide +kernel, rfl⟩
theorem dX11_about_134 : DD cX11_about 134 (.aload_n 0) 1 135 := ⟨by decide +kernel, rfl⟩
theorem dX11_about_135 : DD cX11_about 135 (.getfield 35) 3 138 := ⟨by decide +kernel, rfl⟩
theorem dX11_about_138 : DD cX11_about 138 (.getfield 335) 3 141 := ⟨by decide +kernel, rfl⟩
theorem dX11_about_141 : DD cX11_about 141 (.ireturn) 1 142 := ⟨by decide +kernel, rfl⟩
theorem dX11_about_142 : DD cX11_about 142 (.aload_n 0) 1 143 := ⟨by decide +kernel, rfl⟩
theorem dX11_about_143 : DD cX11_about 143 (.getfield 35) 3 146 := ⟨by decide +kernel, rfl⟩
theorem dX11_about_146 : DD cX11_about 146 (.getfield 338) 3 149 := ⟨by decide +kernel, rfl⟩
theorem dX11_about_149 : DD cX11_about 149 (.ireturn) 1 150 := ⟨by decide +kernel, rfl⟩
theorem dX11_about_150 : DD cX11_about 150 (.aload_n 0) 1 151 := ⟨by decide +kernel, rfl⟩
theorem dX11_about_151 : DD cX11_about 151 (.getfield 49) 3 154 := ⟨by decide +kernel, rfl⟩
theorem dX11_about_154 : DD cX11_about 154 (.getfield 341) 3 157 := ⟨by decide +kernel, rfl⟩
theorem dX11_about_157 : DD cX11_about 157 (.ireturn) 1 158 := ⟨by decide +kernel, rfl⟩
theorem dX11_about_158 : DD cX11_about 158 (.aload_n 0) 1 159 := ⟨by decide +kernel, rfl⟩
theorem dX11_about_159 : DD cX11_about 159 (.getfield 49) 3 162 := ⟨by decide +kernel, rfl⟩
theorem dX11_about_162 : DD cX11_about 162 (.getfield 344) 3 165 := ⟨by decide +kernel, rfl⟩
theorem dX11_about_165 : DD cX11_about 165 (.ireturn) 1 166 := ⟨by decide +kernel, rfl⟩
theorem dX11_about_166 : DD cX11_about 166 (.aload_n 0) 1 167 := ⟨by decide +kernel, rfl⟩
theorem dX11_about_167 : DD cX11_about 167 (.getfield 10) 3 170 := ⟨by decide +kernel, rfl⟩
theorem dX11_about_170 : DD cX11_about 170 (.getfield 72) 3 173 := ⟨by decide +kernel, rfl⟩
theorem dX11_about_173 : DD cX11_about 173 (.ireturn) 1 174 := ⟨by decide +kernel, rfl⟩
theorem dX11_about_174 : DD cX11_about 174 (.aload_n 0) 1 175 := ⟨by decide +kernel, rfl⟩
theorem dX11_about_175 : DD cX11_about 175 (.getfield 28) 3 178 := ⟨by decide +kernel, rfl⟩
theorem dX11_about_178 : DD cX11_about 178 (.getfield 84) 3 181 := ⟨by decide +kernel, rfl⟩
theorem dX11_about_181 : DD cX11_about 181 (.getfield 347) 3 184 := ⟨by decide +kernel, rfl⟩
theorem dX11_about_184 : DD cX11_about 184 (.ireturn) 1 185 := ⟨by decide +kernel, rfl⟩
theorem dX11_about_185 : DD cX11_about 185 (.aload_n 0) 1 186 := ⟨by decide +kernel, rfl⟩
theorem dX11_about_186 : DD cX11_about 186 (.getfield 98) 3 189 := ⟨by decide +kernel, rfl⟩
theorem dX11_about_189 : DD cX11_about 189 (.ireturn) 1 190 := ⟨by decide +kernel, rfl⟩
theorem dX11_about_190 : DD cX11_about 190 (.iconst (-1)) 1 191 := ⟨by decide +kernel, rfl⟩
theorem dX11_about_191 : DD cX11_about 191 (.ireturn) 1 192 := ⟨by decide +kernel, rfl⟩
def fX11_about (m : Mem) (x1 : Int32) : Option Int32 := (if x1 = (0 : Int32) then (gPl (m.2.2 26 1) (some (m.1 (m.2.2 26 1) 0))) else (if x1 = (1 : Int32) then (gPl (m.2.2 26 1) (some (m.1 (m.2.2 26 1) 5))) else (if x1 = (2 : Int32) then (gPl (m.2.2 26 1) (some (m.1 (m.2.2 26 1) 10))) else (if x1 = (3 : Int32) then (some (m.1 27 5)) else (if x1 = (4 : Int32) then (some (m.1 27 6)) else (if x1 = (5 : Int32) then (some (m.1 27 4)) else (if x1 = (6 : Int32) then (some (m.1 56 2)) else (if x1 = (7 : Int32) then (some (m.1 56 3)) else (if x1 = (8 : Int32) then (some (m.1 65 0)) else (if x1 = (9 : Int32) then (some (m.1 65 1)) else (if x1 = (10 : Int32) then (some (m.1 1 1)) else (if x1 = (11 : Int32) then (gPl (m.2.2 26 1) (some (m.1 (m.2.2 26 1) 18))) else (if x1 = (12 : Int32) then (some (m.1 0 9)) else (some (-1 : Int32)))))))))))))))
set_option maxHeartbeats 4000000 in
set_option maxRecDepth 100000 in
theorem kX11_about (l : Launch) (G : Gt) (hD : ∀ m, va_D (inA G nC) (wC G m)) (m : Mem) (x1 : Int32) : ∀ a, fX11_about m x1 = some a → Ct l G wC nC yX11_about cX11_about 2 (some .int) 1 [.ref (G.2.2 0), .int x1] m ((cvP m) a) := by
  refine ct_of (own := RX11) (ls0 := [some (.ref (G.2.2 0)), some (.int x1)]) (by decide) rfl rfl rfl (Nat.le_of_ble_eq_true rfl) hD (fun X h => ?_) l
  unfold fX11_about
  refine j_iload_n h dX11_about_0 rfl ?_
  by_cases c1 : x1 = (0 : Int32)
  · rw [if_pos c1]
    refine j_tabIn (off := 67) (tgt := 68) h c1 dX11_about_1 (by decide) (by decide) (by decide) (by decide) ?_
    refine j_aload_n h dX11_about_68 rfl ?_
    refine gC11_28 h dX11_about_69 ?_
    refine gC11_84 h dX11_about_72 ?_
    refine j_gPl (fun hg2 => ?_)
    refine gC11_104 h hg2 dX11_about_75 ?_
    exact j_iret h rfl dX11_about_78
  · rw [if_neg c1]
    by_cases c3 : x1 = (1 : Int32)
    · rw [if_pos c3]
      refine j_tabIn (off := 78) (tgt := 79) h c3 dX11_about_1 (by decide) (by decide) (by decide) (by decide) ?_
      refine j_aload_n h dX11_about_79 rfl ?_
      refine gC11_28 h dX11_about_80 ?_
      refine gC11_84 h dX11_about_83 ?_
      refine j_gPl (fun hg4 => ?_)
      refine gC11_223 h hg4 dX11_about_86 ?_
      exact j_iret h rfl dX11_about_89
    · rw [if_neg c3]
      by_cases c5 : x1 = (2 : Int32)
      · rw [if_pos c5]
        refine j_tabIn (off := 89) (tgt := 90) h c5 dX11_about_1 (by decide) (by decide) (by decide) (by decide) ?_
        refine j_aload_n h dX11_about_90 rfl ?_
        refine gC11_28 h dX11_about_91 ?_
        refine gC11_84 h dX11_about_94 ?_
        refine j_gPl (fun hg6 => ?_)
        refine gC11_332 h hg6 dX11_about_97 ?_
        exact j_iret h rfl dX11_about_100
      · rw [if_neg c5]
        by_cases c7 : x1 = (3 : Int32)
        · rw [if_pos c7]
          refine j_tabIn (off := 100) (tgt := 101) h c7 dX11_about_1 (by decide) (by decide) (by decide) (by decide) ?_
          refine j_aload_n h dX11_about_101 rfl ?_
          refine gC11_28 h dX11_about_102 ?_
          refine gC11_64 h dX11_about_105 ?_
          refine gC11_130 h dX11_about_108 ?_
          exact j_iret h rfl dX11_about_111
        · rw [if_neg c7]
          by_cases c8 : x1 = (4 : Int32)
          · rw [if_pos c8]
            refine j_tabIn (off := 111) (tgt := 112) h c8 dX11_about_1 (by decide) (by decide) (by decide) (by decide) ?_
            refine j_aload_n h dX11_about_112 rfl ?_
            refine gC11_28 h dX11_about_113 ?_
            refine gC11_64 h dX11_about_116 ?_
            refine gC11_226 h dX11_about_119 ?_
            exact j_iret h rfl dX11_about_122
          · rw [if_neg c8]
            by_cases c9 : x1 = (5 : Int32)
            · rw [if_pos c9]
              refine j_tabIn (off := 122) (tgt := 123) h c9 dX11_about_1 (by decide) (by decide) (by decide) (by decide) ?_
              refine j_aload_n h dX11_about_123 rfl ?_
              refine gC11_28 h dX11_about_124 ?_
              refine gC11_64 h dX11_about_127 ?_
              refine gC11_205 h dX11_about_130 ?_
              exact j_iret h rfl dX11_about_133
            · rw [if_neg c9]
              by_cases c10 : x1 = (6 : Int32)
              · rw [if_pos c10]
                refine j_tabIn (off := 133) (tgt := 134) h c10 dX11_about_1 (by decide) (by decide) (by decide) (by decide) ?_
                refine j_aload_n h dX11_about_134 rfl ?_
                refine gC11_35 h dX11_about_135 ?_
                refine gC11_335 h dX11_about_138 ?_
                exact j_iret h rfl dX11_about_141
              · rw [if_neg c10]
                by_cases c11 : x1 = (7 : Int32)
                · rw [if_pos c11]
                  refine j_tabIn (off := 141) (tgt := 142) h c11 dX11_about_1 (by decide) (by decide) (by decide) (by decide) ?_
                  refine j_aload_n h dX11_about_142 rfl ?_
                  refine gC11_35 h dX11_about_143 ?_
                  refine gC11_338 h dX11_about_146 ?_
                  exact j_iret h rfl dX11_about_149
                · rw [if_neg c11]
                  by_cases c12 : x1 = (8 : Int32)
                  · rw [if_pos c12]
                    refine j_tabIn (off := 149) (tgt := 150) h c12 dX11_about_1 (by decide) (by decide) (by decide) (by decide) ?_
                    refine j_aload_n h dX11_about_150 rfl ?_
                    refine gC11_49 h dX11_about_151 ?_
                    refine gC11_341 h dX11_about_154 ?_
                    exact j_iret h rfl dX11_about_157
                  · rw [if_neg c12]
                    by_cases c13 : x1 = (9 : Int32)
                    · rw [if_pos c13]
                      refine j_tabIn (off := 157) (tgt := 158) h c13 dX11_about_1 (by decide) (by decide) (by decide) (by decide) ?_
                      refine j_aload_n h dX11_about_158 rfl ?_
                      refine gC11_49 h dX11_about_159 ?_
                      refine gC11_344 h dX11_about_162 ?_
                      exact j_iret h rfl dX11_about_165
                    · rw [if_neg c13]
                      by_cases c14 : x1 = (10 : Int32)
                      · rw [if_pos c14]
                        refine j_tabIn (off := 165) (tgt := 166) h c14 dX11_about_1 (by decide) (by decide) (by decide) (by decide) ?_
                        refine j_aload_n h dX11_about_166 rfl ?_
                        refine gC11_10 h dX11_about_167 ?_
                        refine gC11_72 h dX11_about_170 ?_
                        exact j_iret h rfl dX11_about_173
                      · rw [if_neg c14]
                        by_cases c15 : x1 = (11 : Int32)
                        · rw [if_pos c15]
                          refine j_tabIn (off := 173) (tgt := 174) h c15 dX11_about_1 (by decide) (by decide) (by decide) (by decide) ?_
                          refine j_aload_n h dX11_about_174 rfl ?_
                          refine gC11_28 h dX11_about_175 ?_
                          refine gC11_84 h dX11_about_178 ?_
                          refine j_gPl (fun hg16 => ?_)
                          refine gC11_347 h hg16 dX11_about_181 ?_
                          exact j_iret h rfl dX11_about_184
                        · rw [if_neg c15]
                          by_cases c17 : x1 = (12 : Int32)
                          · rw [if_pos c17]
                            refine j_tabIn (off := 184) (tgt := 185) h c17 dX11_about_1 (by decide) (by decide) (by decide) (by decide) ?_
                            refine j_aload_n h dX11_about_185 rfl ?_
                            refine gC11_98 h dX11_about_186 ?_
                            exact j_iret h rfl dX11_about_189
                          · rw [if_neg c17]
                            refine j_tabOut (tgt := 190) h [(0 : Int32), (1 : Int32), (2 : Int32), (3 : Int32), (4 : Int32), (5 : Int32), (6 : Int32), (7 : Int32), (8 : Int32), (9 : Int32), (10 : Int32), (11 : Int32), (12 : Int32)] dX11_about_1 (by intro v hv; simp only [List.mem_cons, List.not_mem_nil, or_false] at hv; rcases hv with rfl | rfl | rfl | rfl | rfl | rfl | rfl | rfl | rfl | rfl | rfl | rfl | rfl <;> assumption) (by decide) (by decide) (by decide) ?_
                            refine j_iconst (v := (-1 : Int32)) h dX11_about_190 kiconst_m1 ?_
                            exact j_iret h rfl dX11_about_191
