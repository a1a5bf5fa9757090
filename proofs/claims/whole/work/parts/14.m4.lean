theorem dX12_fault_0 : DD cX12_fault 0 (.iload_n 1) 1 1 := ⟨by decide +kernel, rfl⟩
theorem dX12_fault_1 : DD cX12_fault 1 (.ifCond .ne 10) 3 4 := ⟨by decide +kernel, rfl⟩
theorem dX12_fault_4 : DD cX12_fault 4 (.aload_n 0) 1 5 := ⟨by decide +kernel, rfl⟩
theorem dX12_fault_5 : DD cX12_fault 5 (.getfield 197) 3 8 := ⟨by decide +kernel, rfl⟩
theorem dX12_fault_8 : DD cX12_fault 8 (.goto 16) 3 11 := ⟨by decide +kernel, rfl⟩
theorem dX12_fault_11 : DD cX12_fault 11 (.iload_n 1) 1 12 := ⟨by decide +kernel, rfl⟩
theorem dX12_fault_12 : DD cX12_fault 12 (.iconst 1) 1 13 := ⟨by decide +kernel, rfl⟩
theorem dX12_fault_13 : DD cX12_fault 13 (.if_icmp .ne 10) 3 16 := ⟨by decide +kernel, rfl⟩
theorem dX12_fault_16 : DD cX12_fault 16 (.aload_n 0) 1 17 := ⟨by decide +kernel, rfl⟩
theorem dX12_fault_17 : DD cX12_fault 17 (.getfield 13) 3 20 := ⟨by decide +kernel, rfl⟩
theorem dX12_fault_20 : DD cX12_fault 20 (.goto 4) 3 23 := ⟨by decide +kernel, rfl⟩
theorem dX12_fault_23 : DD cX12_fault 23 (.iconst (-1)) 1 24 := ⟨by decide +kernel, rfl⟩
theorem dX12_fault_24 : DD cX12_fault 24 (.ireturn) 1 25 := ⟨by decide +kernel, rfl⟩
def fX12_fault (m : Mem) (x1 : Int32) : Option Int32 := (if x1 = 0 then (some (m.1 0 2)) else (if x1 = (1 : Int32) then (some (m.1 0 3)) else (some (-1 : Int32))))
set_option maxHeartbeats 4000000 in
set_option maxRecDepth 100000 in
theorem kX12_fault (l : Launch) (G : Gt) (hD : ∀ m, va_D (inA G nM) (wM G m)) (m : Mem) (x1 : Int32) : ∀ a, fX12_fault m x1 = some a → Ct l G wM nM yX12_fault cX12_fault 2 (some .int) 1 [.ref (G.2.2 0), .int x1] m ((cvP m) a) := by
  refine ct_of (own := RX12) (ls0 := [some (.ref (G.2.2 0)), some (.int x1)]) (by decide) rfl rfl rfl (Nat.le_of_ble_eq_true rfl) hD (fun X h => ?_) l
  unfold fX12_fault
  refine j_iload_n h dX12_fault_0 rfl ?_
  refine j_if_ne (tgt := 11) h dX12_fault_1 (by decide) (fun c1 => ?_) (fun c1 => ?_)
  · refine j_iload_n h dX12_fault_11 rfl ?_
    refine j_iconst (v := (1 : Int32)) h dX12_fault_12 kiconst_1 ?_
    refine j_icmp_ne (tgt := 23) h dX12_fault_13 (by decide) (fun c2 => ?_) (fun c2 => ?_)
    · refine j_iconst (v := (-1 : Int32)) h dX12_fault_23 kiconst_m1 ?_
      exact j_iret h rfl dX12_fault_24
    · refine j_aload_n h dX12_fault_16 rfl ?_
      refine gM_3 h dX12_fault_17 ?_
      refine j_goto (tgt := 24) h dX12_fault_20 (by decide) ?_
      exact j_iret h rfl dX12_fault_24
  · refine j_aload_n h dX12_fault_4 rfl ?_
    refine gM_2 h dX12_fault_5 ?_
    refine j_goto (tgt := 24) h dX12_fault_8 (by decide) ?_
    exact j_iret h rfl dX12_fault_24
theorem dX12_isIn_0 : DD cX12_isIn 0 (.iload_n 0) 1 1 := ⟨by decide +kernel, rfl⟩
theorem dX12_isIn_1 : DD cX12_isIn 1 (.iload_n 1) 1 2 := ⟨by decide +kernel, rfl⟩
theorem dX12_isIn_2 : DD cX12_isIn 2 (.if_icmp .lt 12) 3 5 := ⟨by decide +kernel, rfl⟩
theorem dX12_isIn_5 : DD cX12_isIn 5 (.iload_n 0) 1 6 := ⟨by decide +kernel, rfl⟩
theorem dX12_isIn_6 : DD cX12_isIn 6 (.iload_n 2) 1 7 := ⟨by decide +kernel, rfl⟩
theorem dX12_isIn_7 : DD cX12_isIn 7 (.if_icmp .gt 7) 3 10 := ⟨by decide +kernel, rfl⟩
theorem dX12_isIn_10 : DD cX12_isIn 10 (.iconst 1) 1 11 := ⟨by decide +kernel, rfl⟩
theorem dX12_isIn_11 : DD cX12_isIn 11 (.goto 4) 3 14 := ⟨by decide +kernel, rfl⟩
theorem dX12_isIn_14 : DD cX12_isIn 14 (.iconst 0) 1 15 := ⟨by decide +kernel, rfl⟩
theorem dX12_isIn_15 : DD cX12_isIn 15 (.ireturn) 1 16 := ⟨by decide +kernel, rfl⟩
def fX12_isIn (x0 : Int32) (x1 : Int32) (x2 : Int32) : Option Int32 := (if x0 < x1 then (some (0 : Int32)) else (if x2 < x0 then (some (0 : Int32)) else (some (1 : Int32))))
set_option maxHeartbeats 4000000 in
set_option maxRecDepth 100000 in
theorem kX12_isIn (l : Launch) (G : Gt) (hD : ∀ m, va_D (inA G nM) (wM G m)) (m : Mem) (x0 : Int32) (x1 : Int32) (x2 : Int32) : ∀ a, fX12_isIn x0 x1 x2 = some a → Ct l G wM nM yX12_isIn cX12_isIn 3 (some .boolean) 1 [.int x0, .int x1, .int x2] m ((cvP m) a) := by
  refine ct_of (own := RX12) (ls0 := [some (.int x0), some (.int x1), some (.int x2)]) (by decide) rfl rfl rfl (Nat.le_of_ble_eq_true rfl) hD (fun X h => ?_) l
  unfold fX12_isIn
  refine j_iload_n h dX12_isIn_0 rfl ?_
  refine j_iload_n h dX12_isIn_1 rfl ?_
  refine j_icmp_lt (tgt := 14) h dX12_isIn_2 (by decide) (fun c1 => ?_) (fun c1 => ?_)
  · refine j_iconst (v := (0 : Int32)) h dX12_isIn_14 kiconst_0 ?_
    exact j_zretB h rfl rfl dX12_isIn_15
  · refine j_iload_n h dX12_isIn_5 rfl ?_
    refine j_iload_n h dX12_isIn_6 rfl ?_
    refine j_icmp_gt (tgt := 14) h dX12_isIn_7 (by decide) (fun c2 => ?_) (fun c2 => ?_)
    · refine j_iconst (v := (0 : Int32)) h dX12_isIn_14 kiconst_0 ?_
      exact j_zretB h rfl rfl dX12_isIn_15
    · refine j_iconst (v := (1 : Int32)) h dX12_isIn_10 kiconst_1 ?_
      refine j_goto (tgt := 15) h dX12_isIn_11 (by decide) ?_
      exact j_zretB h rfl rfl dX12_isIn_15
theorem dX12_isPerson_0 : DD cX12_isPerson 0 (.iload_n 1) 1 1 := ⟨by decide +kernel, rfl⟩
theorem dX12_isPerson_1 : DD cX12_isPerson 1 (.iconst 0) 1 2 := ⟨by decide +kernel, rfl⟩
theorem dX12_isPerson_2 : DD cX12_isPerson 2 (.aload_n 0) 1 3 := ⟨by decide +kernel, rfl⟩
theorem dX12_isPerson_3 : DD cX12_isPerson 3 (.getfield 378) 3 6 := ⟨by decide +kernel, rfl⟩
theorem dX12_isPerson_6 : DD cX12_isPerson 6 (.iconst 1) 1 7 := ⟨by decide +kernel, rfl⟩
theorem dX12_isPerson_7 : DD cX12_isPerson 7 (.isub) 1 8 := ⟨by decide +kernel, rfl⟩
theorem dX12_isPerson_8 : DD cX12_isPerson 8 (.invokestatic 402) 3 11 := ⟨by decide +kernel, rfl⟩
theorem dX12_isPerson_11 : DD cX12_isPerson 11 (.ireturn) 1 12 := ⟨by decide +kernel, rfl⟩
def fX12_isPerson (m : Mem) (x1 : Int32) : Option Int32 := (cP (fX12_isIn x1 (0 : Int32) ((m.1 0 51) - (1 : Int32))) fun r1 => (tz r1 (some r1)))
set_option maxHeartbeats 4000000 in
set_option maxRecDepth 100000 in
theorem kX12_isPerson (l : Launch) (G : Gt) (hD : ∀ m, va_D (inA G nM) (wM G m)) (m : Mem) (x1 : Int32) : ∀ a, fX12_isPerson m x1 = some a → Ct l G wM nM yX12_isPerson cX12_isPerson 2 (some .boolean) 2 [.ref (G.2.2 0), .int x1] m ((cvP m) a) := by
  refine ct_of (own := RX12) (ls0 := [some (.ref (G.2.2 0)), some (.int x1)]) (by decide) rfl rfl rfl (Nat.le_of_ble_eq_true rfl) hD (fun X h => ?_) l
  unfold fX12_isPerson
  refine j_iload_n h dX12_isPerson_0 rfl ?_
  refine j_iconst (v := (0 : Int32)) h dX12_isPerson_1 kiconst_0 ?_
  refine j_aload_n h dX12_isPerson_2 rfl ?_
  refine gM_51 h dX12_isPerson_3 ?_
  refine j_iconst (v := (1 : Int32)) h dX12_isPerson_6 kiconst_1 ?_
  refine j_isub h dX12_isPerson_7 ?_
  refine j_callSP h [.int x1, .int (0 : Int32), .int ((m.1 0 51) - (1 : Int32))] (kX12_isIn _ G h.2.2.2.2.2.2.2.2.2.2 m x1 (0 : Int32) ((m.1 0 51) - (1 : Int32))) okX12_isIn stX12_isIn ml12_402 rfl rfl (by decide) (by decide) (Nat.le_of_ble_eq_true rfl) rfl dX12_isPerson_8 (fun r1 hr1 => ?_)
  exact j_zret h rfl dX12_isPerson_11
theorem dX12_isMeet_0 : DD cX12_isMeet 0 (.iload_n 1) 1 1 := ⟨by decide +kernel, rfl⟩
theorem dX12_isMeet_1 : DD cX12_isMeet 1 (.iconst 0) 1 2 := ⟨by decide +kernel, rfl⟩
theorem dX12_isMeet_2 : DD cX12_isMeet 2 (.aload_n 0) 1 3 := ⟨by decide +kernel, rfl⟩
theorem dX12_isMeet_3 : DD cX12_isMeet 3 (.getfield 381) 3 6 := ⟨by decide +kernel, rfl⟩
theorem dX12_isMeet_6 : DD cX12_isMeet 6 (.iconst 1) 1 7 := ⟨by decide +kernel, rfl⟩
theorem dX12_isMeet_7 : DD cX12_isMeet 7 (.isub) 1 8 := ⟨by decide +kernel, rfl⟩
theorem dX12_isMeet_8 : DD cX12_isMeet 8 (.invokestatic 402) 3 11 := ⟨by decide +kernel, rfl⟩
theorem dX12_isMeet_11 : DD cX12_isMeet 11 (.ireturn) 1 12 := ⟨by decide +kernel, rfl⟩
def fX12_isMeet (m : Mem) (x1 : Int32) : Option Int32 := (cP (fX12_isIn x1 (0 : Int32) ((m.1 0 52) - (1 : Int32))) fun r1 => (tz r1 (some r1)))
set_option maxHeartbeats 4000000 in
set_option maxRecDepth 100000 in
theorem kX12_isMeet (l : Launch) (G : Gt) (hD : ∀ m, va_D (inA G nM) (wM G m)) (m : Mem) (x1 : Int32) : ∀ a, fX12_isMeet m x1 = some a → Ct l G wM nM yX12_isMeet cX12_isMeet 2 (some .boolean) 2 [.ref (G.2.2 0), .int x1] m ((cvP m) a) := by
  refine ct_of (own := RX12) (ls0 := [some (.ref (G.2.2 0)), some (.int x1)]) (by decide) rfl rfl rfl (Nat.le_of_ble_eq_true rfl) hD (fun X h => ?_) l
  unfold fX12_isMeet
  refine j_iload_n h dX12_isMeet_0 rfl ?_
  refine j_iconst (v := (0 : Int32)) h dX12_isMeet_1 kiconst_0 ?_
  refine j_aload_n h dX12_isMeet_2 rfl ?_
  refine gM_52 h dX12_isMeet_3 ?_
  refine j_iconst (v := (1 : Int32)) h dX12_isMeet_6 kiconst_1 ?_
  refine j_isub h dX12_isMeet_7 ?_
  refine j_callSP h [.int x1, .int (0 : Int32), .int ((m.1 0 52) - (1 : Int32))] (kX12_isIn _ G h.2.2.2.2.2.2.2.2.2.2 m x1 (0 : Int32) ((m.1 0 52) - (1 : Int32))) okX12_isIn stX12_isIn ml12_402 rfl rfl (by decide) (by decide) (Nat.le_of_ble_eq_true rfl) rfl dX12_isMeet_8 (fun r1 hr1 => ?_)
  exact j_zret h rfl dX12_isMeet_11
theorem dX12_isDate_0 : DD cX12_isDate 0 (.iload_n 0) 1 1 := ⟨by decide +kernel, rfl⟩
theorem dX12_isDate_1 : DD cX12_isDate 1 (.iconst 0) 1 2 := ⟨by decide +kernel, rfl⟩
theorem dX12_isDate_2 : DD cX12_isDate 2 (.sipush 364) 3 5 := ⟨by decide +kernel, rfl⟩
theorem dX12_isDate_5 : DD cX12_isDate 5 (.invokestatic 402) 3 8 := ⟨by decide +kernel, rfl⟩
theorem dX12_isDate_8 : DD cX12_isDate 8 (.ireturn) 1 9 := ⟨by decide +kernel, rfl⟩
def fX12_isDate (x0 : Int32) : Option Int32 := (cP (fX12_isIn x0 (0 : Int32) (364 : Int32)) fun r1 => (tz r1 (some r1)))
set_option maxHeartbeats 4000000 in
set_option maxRecDepth 100000 in
theorem kX12_isDate (l : Launch) (G : Gt) (hD : ∀ m, va_D (inA G nM) (wM G m)) (m : Mem) (x0 : Int32) : ∀ a, fX12_isDate x0 = some a → Ct l G wM nM yX12_isDate cX12_isDate 1 (some .boolean) 2 [.int x0] m ((cvP m) a) := by
  refine ct_of (own := RX12) (ls0 := [some (.int x0)]) (by decide) rfl rfl rfl (Nat.le_of_ble_eq_true rfl) hD (fun X h => ?_) l
  unfold fX12_isDate
  refine j_iload_n h dX12_isDate_0 rfl ?_
  refine j_iconst (v := (0 : Int32)) h dX12_isDate_1 kiconst_0 ?_
  refine j_sipush (v := (364 : Int32)) h dX12_isDate_2 ksipush_364 ?_
  refine j_callSP h [.int x0, .int (0 : Int32), .int (364 : Int32)] (kX12_isIn _ G h.2.2.2.2.2.2.2.2.2.2 m x0 (0 : Int32) (364 : Int32)) okX12_isIn stX12_isIn ml12_402 rfl rfl (by decide) (by decide) (Nat.le_of_ble_eq_true rfl) rfl dX12_isDate_5 (fun r1 hr1 => ?_)
  exact j_zret h rfl dX12_isDate_8
theorem dX12_load_0 : DD cX12_load 0 (.iconst 0) 1 1 := ⟨by decide +kernel, rfl⟩
theorem dX12_load_1 : DD cX12_load 1 (.istore_n 1) 1 2 := ⟨by decide +kernel, rfl⟩
theorem dX12_load_2 : DD cX12_load 2 (.iload_n 1) 1 3 := ⟨by decide +kernel, rfl⟩
theorem dX12_load_3 : DD cX12_load 3 (.bipush 37) 2 5 := ⟨by decide +kernel, rfl⟩
theorem dX12_load_5 : DD cX12_load 5 (.if_icmp .ge 21) 3 8 := ⟨by decide +kernel, rfl⟩
theorem dX12_load_8 : DD cX12_load 8 (.aload_n 0) 1 9 := ⟨by decide +kernel, rfl⟩
theorem dX12_load_9 : DD cX12_load 9 (.getfield 115) 3 12 := ⟨by decide +kernel, rfl⟩
theorem dX12_load_12 : DD cX12_load 12 (.iload_n 1) 1 13 := ⟨by decide +kernel, rfl⟩
theorem dX12_load_13 : DD cX12_load 13 (.aload_n 0) 1 14 := ⟨by decide +kernel, rfl⟩
theorem dX12_load_14 : DD cX12_load 14 (.getfield 112) 3 17 := ⟨by decide +kernel, rfl⟩
theorem dX12_load_17 : DD cX12_load 17 (.iload_n 1) 1 18 := ⟨by decide +kernel, rfl⟩
theorem dX12_load_18 : DD cX12_load 18 (.iaload) 1 19 := ⟨by decide +kernel, rfl⟩
theorem dX12_load_19 : DD cX12_load 19 (.iastore) 1 20 := ⟨by decide +kernel, rfl⟩
theorem dX12_load_20 : DD cX12_load 20 (.iinc 1 1) 3 23 := ⟨by decide +kernel, rfl⟩
theorem dX12_load_23 : DD cX12_load 23 (.goto (-21)) 3 26 := ⟨by decide +kernel, rfl⟩
theorem dX12_load_26 : DD cX12_load 26 (.return_) 1 27 := ⟨by decide +kernel, rfl⟩
def gX12_load : Nat → Int32 → Mem → Option Mem
  | 0, _, _ => none
  | f + 1, x1, m => (if (37 : Int32) ≤ x1 then (some m) else (rd (m.1 33) 37 x1 fun v2 => (wr m 34 37 x1 v2 fun m3 => (gX12_load f (x1 + (1 : Int32)) m3))))
def fX12_load (m : Mem) : Option Mem := (gX12_load 5000 (0 : Int32) m)
set_option maxHeartbeats 4000000 in
set_option maxRecDepth 100000 in
theorem wX12_load {X : Cx} {G : Gt} (h : OkX (X, G, wM, nM) cX12_load RX12 2 none 1) : ∀ f : Nat, (∀ (x1 : Int32) (m : Mem), JR (X, G, wM, nM) cvV m 2 [some (.ref (G.2.2 0)), some (.int x1)] [] (gX12_load f x1 m)) := by
  intro f
  induction f with
  | zero => exact (fun _ _ => j_none)
  | succ f ih =>
    intro x1 m
    rw [gX12_load]
    refine j_iload_n h dX12_load_2 rfl ?_
    refine j_bipush (v := (37 : Int32)) h dX12_load_3 kbipush_37 ?_
    refine j_icmp_ge (tgt := 26) h dX12_load_5 (by decide) (fun c1 => ?_) (fun c1 => ?_)
    · exact j_vret h rfl dX12_load_26
    · refine j_aload_n h dX12_load_8 rfl ?_
      refine gM_56 h dX12_load_9 ?_
      refine j_iload_n h dX12_load_12 rfl ?_
      refine j_aload_n h dX12_load_13 rfl ?_
      refine gM_55 h dX12_load_14 ?_
      refine j_iload_n h dX12_load_17 rfl ?_
      refine aM_33 h dX12_load_18 (fun v2 hv2 => ?_)
      refine bM_34 h dX12_load_19 (fun m3 hm3 => ?_)
      refine j_iinc (v := (x1 + (1 : Int32))) h dX12_load_20 rfl (by rw [kiconst_1]) rfl ?_
      refine j_goto (tgt := 2) h dX12_load_23 (by decide) ?_
      refine j_wk (ls' := [some (.ref (G.2.2 0)), some (.int (x1 + (1 : Int32)))]) (And.intro rfl (And.intro rfl trivial)) ?_
      exact ih (x1 + (1 : Int32)) m3
set_option maxHeartbeats 4000000 in
set_option maxRecDepth 100000 in
theorem kX12_load (l : Launch) (G : Gt) (hD : ∀ m, va_D (inA G nM) (wM G m)) (m : Mem) : ∀ a, fX12_load m = some a → Ct l G wM nM yX12_load cX12_load 2 none 1 [.ref (G.2.2 0)] m (cvV a) := by
  refine ct_of (own := RX12) (ls0 := [some (.ref (G.2.2 0)), none]) (by decide) rfl rfl rfl (Nat.le_of_ble_eq_true rfl) hD (fun X h => ?_) l
  unfold fX12_load
  refine j_iconst (v := (0 : Int32)) h dX12_load_0 kiconst_0 ?_
  refine j_istore_n h dX12_load_1 rfl rfl ?_
  refine j_wk (ls' := [some (.ref (G.2.2 0)), some (.int (0 : Int32))]) (And.intro rfl (And.intro rfl trivial)) ?_
  exact (wX12_load h 5000) (0 : Int32) m
theorem dX12_askOf_0 : DD cX12_askOf 0 (.aload_n 0) 1 1 := ⟨by decide +kernel, rfl⟩
theorem dX12_askOf_1 : DD cX12_askOf 1 (.getfield 52) 3 4 := ⟨by decide +kernel, rfl⟩
theorem dX12_askOf_4 : DD cX12_askOf 4 (.iconst 0) 1 5 := ⟨by decide +kernel, rfl⟩
theorem dX12_askOf_5 : DD cX12_askOf 5 (.iload_n 1) 1 6 := ⟨by decide +kernel, rfl⟩
theorem dX12_askOf_6 : DD cX12_askOf 6 (.iastore) 1 7 := ⟨by decide +kernel, rfl⟩
theorem dX12_askOf_7 : DD cX12_askOf 7 (.aload_n 0) 1 8 := ⟨by decide +kernel, rfl⟩
theorem dX12_askOf_8 : DD cX12_askOf 8 (.getfield 52) 3 11 := ⟨by decide +kernel, rfl⟩
theorem dX12_askOf_11 : DD cX12_askOf 11 (.iconst 1) 1 12 := ⟨by decide +kernel, rfl⟩
theorem dX12_askOf_12 : DD cX12_askOf 12 (.iload_n 2) 1 13 := ⟨by decide +kernel, rfl⟩
theorem dX12_askOf_13 : DD cX12_askOf 13 (.iastore) 1 14 := ⟨by decide +kernel, rfl⟩
theorem dX12_askOf_14 : DD cX12_askOf 14 (.aload_n 0) 1 15 := ⟨by decide +kernel, rfl⟩
theorem dX12_askOf_15 : DD cX12_askOf 15 (.getfield 52) 3 18 := ⟨by decide +kernel, rfl⟩
theorem dX12_askOf_18 : DD cX12_askOf 18 (.iconst 2) 1 19 := ⟨by decide +kernel, rfl⟩
theorem dX12_askOf_19 : DD cX12_askOf 19 (.iload_n 3) 1 20 := ⟨by decide +kernel, rfl⟩
theorem dX12_askOf_20 : DD cX12_askOf 20 (.iastore) 1 21 := ⟨by decide +kernel, rfl⟩
theorem dX12_askOf_21 : DD cX12_askOf 21 (.aload_n 0) 1 22 := ⟨by decide +kernel, rfl⟩
theorem dX12_askOf_22 : DD cX12_askOf 22 (.getfield 52) 3 25 := ⟨by decide +kernel, rfl⟩
theorem dX12_askOf_25 : DD cX12_askOf 25 (.iconst 3) 1 26 := ⟨by decide +kernel, rfl⟩
theorem dX12_askOf_26 : DD cX12_askOf 26 (.iload 4) 2 28 := ⟨by decide +kernel, rfl⟩
theorem dX12_askOf_28 : DD cX12_askOf 28 (.iastore) 1 29 := ⟨by decide +kernel, rfl⟩
theorem dX12_askOf_29 : DD cX12_askOf 29 (.return_) 1 30 := ⟨by decide +kernel, rfl⟩
def fX12_askOf (m : Mem) (x1 : Int32) (x2 : Int32) (x3 : Int32) (x4 : Int32) : Option Mem := (wr m 13 4 (0 : Int32) x1 fun m1 => (wr m1 13 4 (1 : Int32) x2 fun m2 => (wr m2 13 4 (2 : Int32) x3 fun m3 => (wr m3 13 4 (3 : Int32) x4 fun m4 => (some m4)))))
set_option maxHeartbeats 4000000 in
set_option maxRecDepth 100000 in
theorem kX12_askOf (l : Launch) (G : Gt) (hD : ∀ m, va_D (inA G nM) (wM G m)) (m : Mem) (x1 : Int32) (x2 : Int32) (x3 : Int32) (x4 : Int32) : ∀ a, fX12_askOf m x1 x2 x3 x4 = some a → Ct l G wM nM yX12_askOf cX12_askOf 5 none 1 [.ref (G.2.2 0), .int x1, .int x2, .int x3, .int x4] m (cvV a) := by
  refine ct_of (own := RX12) (ls0 := [some (.ref (G.2.2 0)), some (.int x1), some (.int x2), some (.int x3), some (.int x4)]) (by decide) rfl rfl rfl (Nat.le_of_ble_eq_true rfl) hD (fun X h => ?_) l
  unfold fX12_askOf
  refine j_aload_n h dX12_askOf_0 rfl ?_
  refine gM_27 h dX12_askOf_1 ?_
  refine j_iconst (v := (0 : Int32)) h dX12_askOf_4 kiconst_0 ?_
  refine j_iload_n h dX12_askOf_5 rfl ?_
  refine bM_13 h dX12_askOf_6 (fun m1 hm1 => ?_)
  refine j_aload_n h dX12_askOf_7 rfl ?_
  refine gM_27 h dX12_askOf_8 ?_
  refine j_iconst (v := (1 : Int32)) h dX12_askOf_11 kiconst_1 ?_
  refine j_iload_n h dX12_askOf_12 rfl ?_
  refine bM_13 h dX12_askOf_13 (fun m2 hm2 => ?_)
  refine j_aload_n h dX12_askOf_14 rfl ?_
  refine gM_27 h dX12_askOf_15 ?_
  refine j_iconst (v := (2 : Int32)) h dX12_askOf_18 kiconst_2 ?_
  refine j_iload_n h dX12_askOf_19 rfl ?_
  refine bM_13 h dX12_askOf_20 (fun m3 hm3 => ?_)
  refine j_aload_n h dX12_askOf_21 rfl ?_
  refine gM_27 h dX12_askOf_22 ?_
  refine j_iconst (v := (3 : Int32)) h dX12_askOf_25 kiconst_3 ?_
  refine j_iload h dX12_askOf_26 rfl ?_
  refine bM_13 h dX12_askOf_28 (fun m4 hm4 => ?_)
  exact j_vret h rfl dX12_askOf_29
theorem dX12_dawnOf_0 : DD cX12_dawnOf 0 (.aload_n 0) 1 1 := ⟨by decide +kernel, rfl⟩
theorem dX12_dawnOf_1 : DD cX12_dawnOf 1 (.iload_n 1) 1 2 := ⟨by decide +kernel, rfl⟩
theorem dX12_dawnOf_2 : DD cX12_dawnOf 2 (.iconst 0) 1 3 := ⟨by decide +kernel, rfl⟩
theorem dX12_dawnOf_3 : DD cX12_dawnOf 3 (.iconst 0) 1 4 := ⟨by decide +kernel, rfl⟩
theorem dX12_dawnOf_4 : DD cX12_dawnOf 4 (.iconst 0) 1 5 := ⟨by decide +kernel, rfl⟩
theorem dX12_dawnOf_5 : DD cX12_dawnOf 5 (.invokevirtual 406) 3 8 := ⟨by decide +kernel, rfl⟩
theorem dX12_dawnOf_8 : DD cX12_dawnOf 8 (.aload_n 0) 1 9 := ⟨by decide +kernel, rfl⟩
theorem dX12_dawnOf_9 : DD cX12_dawnOf 9 (.iconst 0) 1 10 := ⟨by decide +kernel, rfl⟩
theorem dX12_dawnOf_10 : DD cX12_dawnOf 10 (.bipush 6) 2 12 := ⟨by decide +kernel, rfl⟩
theorem dX12_dawnOf_12 : DD cX12_dawnOf 12 (.iconst 0) 1 13 := ⟨by decide +kernel, rfl⟩
theorem dX12_dawnOf_13 : DD cX12_dawnOf 13 (.bipush 11) 2 15 := ⟨by decide +kernel, rfl⟩
theorem dX12_dawnOf_15 : DD cX12_dawnOf 15 (.invokevirtual 410) 3 18 := ⟨by decide +kernel, rfl⟩
theorem dX12_dawnOf_18 : DD cX12_dawnOf 18 (.ireturn) 1 19 := ⟨by decide +kernel, rfl⟩
def fX12_dawnOf (m : Mem) (x1 : Int32) : Option (Int32 × Mem) := (cV (fX12_askOf m x1 (0 : Int32) (0 : Int32) (0 : Int32)) fun m2 => (cI (fX12_worked m2 (0 : Int32) (6 : Int32) (0 : Int32) (11 : Int32)) fun r3 m4 => (some (r3, m4))))
set_option maxHeartbeats 4000000 in
set_option maxRecDepth 100000 in
theorem kX12_dawnOf (l : Launch) (G : Gt) (hD : ∀ m, va_D (inA G nM) (wM G m)) (m : Mem) (x1 : Int32) : ∀ a, fX12_dawnOf m x1 = some a → Ct l G wM nM yX12_dawnOf cX12_dawnOf 2 (some .int) 4 [.ref (G.2.2 0), .int x1] m (cvI a) := by
  refine ct_of (own := RX12) (ls0 := [some (.ref (G.2.2 0)), some (.int x1)]) (by decide) rfl rfl rfl (Nat.le_of_ble_eq_true rfl) hD (fun X h => ?_) l
  unfold fX12_dawnOf
  refine j_aload_n h dX12_dawnOf_0 rfl ?_
  refine j_iload_n h dX12_dawnOf_1 rfl ?_
  refine j_iconst (v := (0 : Int32)) h dX12_dawnOf_2 kiconst_0 ?_
  refine j_iconst (v := (0 : Int32)) h dX12_dawnOf_3 kiconst_0 ?_
  refine j_iconst (v := (0 : Int32)) h dX12_dawnOf_4 kiconst_0 ?_
  refine j_callVV (q0 := 0) (ci := 12) h [.int x1, .int (0 : Int32), .int (0 : Int32), .int (0 : Int32)] (kX12_askOf _ G h.2.2.2.2.2.2.2.2.2.2 m x1 (0 : Int32) (0 : Int32) (0 : Int32)) okX12_askOf inX12_askOf ml12_406 rfl rfl rfl rfl (by decide) (by decide) (Nat.le_of_ble_eq_true rfl) rfl dX12_dawnOf_5 (fun m2 hm2 => ?_)
  refine j_aload_n h dX12_dawnOf_8 rfl ?_
  refine j_iconst (v := (0 : Int32)) h dX12_dawnOf_9 kiconst_0 ?_
  refine j_bipush (v := (6 : Int32)) h dX12_dawnOf_10 kbipush_6 ?_
  refine j_iconst (v := (0 : Int32)) h dX12_dawnOf_12 kiconst_0 ?_
  refine j_bipush (v := (11 : Int32)) h dX12_dawnOf_13 kbipush_11 ?_
  refine j_callVI (q0 := 0) (ci := 12) h [.int (0 : Int32), .int (6 : Int32), .int (0 : Int32), .int (11 : Int32)] (kX12_worked _ G h.2.2.2.2.2.2.2.2.2.2 m2 (0 : Int32) (6 : Int32) (0 : Int32) (11 : Int32)) okX12_worked inX12_worked ml12_410 rfl rfl rfl rfl (by decide) (by decide) (Nat.le_of_ble_eq_true rfl) rfl dX12_dawnOf_15 (fun r3 m4 hr3 => ?_)
  exact j_iret h rfl dX12_dawnOf_18
theorem dX12_duskOf_0 : DD cX12_duskOf 0 (.aload_n 0) 1 1 := ⟨by decide +kernel, rfl⟩
theorem dX12_duskOf_1 : DD cX12_duskOf 1 (.iload_n 1) 1 2 := ⟨by decide +kernel, rfl⟩
theorem dX12_duskOf_2 : DD cX12_duskOf 2 (.iconst 0) 1 3 := ⟨by decide +kernel, rfl⟩
theorem dX12_duskOf_3 : DD cX12_duskOf 3 (.iconst 0) 1 4 := ⟨by decide +kernel, rfl⟩
theorem dX12_duskOf_4 : DD cX12_duskOf 4 (.iconst 0) 1 5 := ⟨by decide +kernel, rfl⟩
theorem dX12_duskOf_5 : DD cX12_duskOf 5 (.invokevirtual 406) 3 8 := ⟨by decide +kernel, rfl⟩
theorem dX12_duskOf_8 : DD cX12_duskOf 8 (.aload_n 0) 1 9 := ⟨by decide +kernel, rfl⟩
theorem dX12_duskOf_9 : DD cX12_duskOf 9 (.iconst 1) 1 10 := ⟨by decide +kernel, rfl⟩
theorem dX12_duskOf_10 : DD cX12_duskOf 10 (.bipush 18) 2 12 := ⟨by decide +kernel, rfl⟩
theorem dX12_duskOf_12 : DD cX12_duskOf 12 (.bipush 12) 2 14 := ⟨by decide +kernel, rfl⟩
theorem dX12_duskOf_14 : DD cX12_duskOf 14 (.bipush 23) 2 16 := ⟨by decide +kernel, rfl⟩
theorem dX12_duskOf_16 : DD cX12_duskOf 16 (.invokevirtual 410) 3 19 := ⟨by decide +kernel, rfl⟩
theorem dX12_duskOf_19 : DD cX12_duskOf 19 (.ireturn) 1 20 := ⟨by decide +kernel, rfl⟩
def fX12_duskOf (m : Mem) (x1 : Int32) : Option (Int32 × Mem) := (cV (fX12_askOf m x1 (0 : Int32) (0 : Int32) (0 : Int32)) fun m2 => (cI (fX12_worked m2 (1 : Int32) (18 : Int32) (12 : Int32) (23 : Int32)) fun r3 m4 => (some (r3, m4))))
set_option maxHeartbeats 4000000 in
set_option maxRecDepth 100000 in
theorem kX12_duskOf (l : Launch) (G : Gt) (hD : ∀ m, va_D (inA G nM) (wM G m)) (m : Mem) (x1 : Int32) : ∀ a, fX12_duskOf m x1 = some a → Ct l G wM nM yX12_duskOf cX12_duskOf 2 (some .int) 4 [.ref (G.2.2 0), .int x1] m (cvI a) := by
  refine ct_of (own := RX12) (ls0 := [some (.ref (G.2.2 0)), some (.int x1)]) (by decide) rfl rfl rfl (Nat.le_of_ble_eq_true rfl) hD (fun X h => ?_) l
  unfold fX12_duskOf
  refine j_aload_n h dX12_duskOf_0 rfl ?_
  refine j_iload_n h dX12_duskOf_1 rfl ?_
  refine j_iconst (v := (0 : Int32)) h dX12_duskOf_2 kiconst_0 ?_
  refine j_iconst (v := (0 : Int32)) h dX12_duskOf_3 kiconst_0 ?_
  refine j_iconst (v := (0 : Int32)) h dX12_duskOf_4 kiconst_0 ?_
  refine j_callVV (q0 := 0) (ci := 12) h [.int x1, .int (0 : Int32), .int (0 : Int32), .int (0 : Int32)] (kX12_askOf _ G h.2.2.2.2.2.2.2.2.2.2 m x1 (0 : Int32) (0 : Int32) (0 : Int32)) okX12_askOf inX12_askOf ml12_406 rfl rfl rfl rfl (by decide) (by decide) (Nat.le_of_ble_eq_true rfl) rfl dX12_duskOf_5 (fun m2 hm2 => ?_)
  refine j_aload_n h dX12_duskOf_8 rfl ?_
  refine j_iconst (v := (1 : Int32)) h dX12_duskOf_9 kiconst_1 ?_
  refine j_bipush (v := (18 : Int32)) h dX12_duskOf_10 kbipush_18 ?_
  refine j_bipush (v := (12 : Int32)) h dX12_duskOf_12 kbipush_12 ?_
  refine j_bipush (v := (23 : Int32)) h dX12_duskOf_14 kbipush_23 ?_
  refine j_callVI (q0 := 0) (ci := 12) h [.int (1 : Int32), .int (18 : Int32), .int (12 : Int32), .int (23 : Int32)] (kX12_worked _ G h.2.2.2.2.2.2.2.2.2.2 m2 (1 : Int32) (18 : Int32) (12 : Int32) (23 : Int32)) okX12_worked inX12_worked ml12_410 rfl rfl rfl rfl (by decide) (by decide) (Nat.le_of_ble_eq_true rfl) rfl dX12_duskOf_16 (fun r3 m4 hr3 => ?_)
  exact j_iret h rfl dX12_duskOf_19
theorem dX12_apart_0 : DD cX12_apart 0 (.iload_n 0) 1 1 := ⟨by decide +kernel, rfl⟩
theorem dX12_apart_1 : DD cX12_apart 1 (.iload_n 1) 1 2 := ⟨by decide +kernel, rfl⟩
theorem dX12_apart_2 : DD cX12_apart 2 (.if_icmp .ge 9) 3 5 := ⟨by decide +kernel, rfl⟩
theorem dX12_apart_5 : DD cX12_apart 5 (.iload_n 1) 1 6 := ⟨by decide +kernel, rfl⟩
theorem dX12_apart_6 : DD cX12_apart 6 (.iload_n 0) 1 7 := ⟨by decide +kernel, rfl⟩
theorem dX12_apart_7 : DD cX12_apart 7 (.isub) 1 8 := ⟨by decide +kernel, rfl⟩
theorem dX12_apart_8 : DD cX12_apart 8 (.goto 6) 3 11 := ⟨by decide +kernel, rfl⟩
theorem dX12_apart_11 : DD cX12_apart 11 (.iload_n 0) 1 12 := ⟨by decide +kernel, rfl⟩
theorem dX12_apart_12 : DD cX12_apart 12 (.iload_n 1) 1 13 := ⟨by decide +kernel, rfl⟩
theorem dX12_apart_13 : DD cX12_apart 13 (.isub) 1 14 := ⟨by decide +kernel, rfl⟩
theorem dX12_apart_14 : DD cX12_apart 14 (.ireturn) 1 15 := ⟨by decide +kernel, rfl⟩
def fX12_apart (x0 : Int32) (x1 : Int32) : Option Int32 := (if x1 ≤ x0 then (some (x0 - x1)) else (some (x1 - x0)))
set_option maxHeartbeats 4000000 in
set_option maxRecDepth 100000 in
theorem kX12_apart (l : Launch) (G : Gt) (hD : ∀ m, va_D (inA G nM) (wM G m)) (m : Mem) (x0 : Int32) (x1 : Int32) : ∀ a, fX12_apart x0 x1 = some a → Ct l G wM nM yX12_apart cX12_apart 2 (some .int) 1 [.int x0, .int x1] m ((cvP m) a) := by
  refine ct_of (own := RX12) (ls0 := [some (.int x0), some (.int x1)]) (by decide) rfl rfl rfl (Nat.le_of_ble_eq_true rfl) hD (fun X h => ?_) l
  unfold fX12_apart
  refine j_iload_n h dX12_apart_0 rfl ?_
  refine j_iload_n h dX12_apart_1 rfl ?_
  refine j_icmp_ge (tgt := 11) h dX12_apart_2 (by decide) (fun c1 => ?_) (fun c1 => ?_)
  · refine j_iload_n h dX12_apart_11 rfl ?_
    refine j_iload_n h dX12_apart_12 rfl ?_
    refine j_isub h dX12_apart_13 ?_
    exact j_iret h rfl dX12_apart_14
  · refine j_iload_n h dX12_apart_5 rfl ?_
    refine j_iload_n h dX12_apart_6 rfl ?_
    refine j_isub h dX12_apart_7 ?_
    refine j_goto (tgt := 14) h dX12_apart_8 (by decide) ?_
    exact j_iret h rfl dX12_apart_14
theorem dX12_isHinge_0 : DD cX12_isHinge 0 (.iload_n 0) 1 1 := ⟨by decide +kernel, rfl⟩
theorem dX12_isHinge_1 : DD cX12_isHinge 1 (.iload_n 1) 1 2 := ⟨by decide +kernel, rfl⟩
theorem dX12_isHinge_2 : DD cX12_isHinge 2 (.invokestatic 414) 3 5 := ⟨by decide +kernel, rfl⟩
theorem dX12_isHinge_5 : DD cX12_isHinge 5 (.istore_n 2) 1 6 := ⟨by decide +kernel, rfl⟩
theorem dX12_isHinge_6 : DD cX12_isHinge 6 (.iload_n 2) 1 7 := ⟨by decide +kernel, rfl⟩
theorem dX12_isHinge_7 : DD cX12_isHinge 7 (.iconst 2) 1 8 := ⟨by decide +kernel, rfl⟩
theorem dX12_isHinge_8 : DD cX12_isHinge 8 (.if_icmp .le 9) 3 11 := ⟨by decide +kernel, rfl⟩
theorem dX12_isHinge_11 : DD cX12_isHinge 11 (.iload_n 2) 1 12 := ⟨by decide +kernel, rfl⟩
theorem dX12_isHinge_12 : DD cX12_isHinge 12 (.bipush 22) 2 14 := ⟨by decide +kernel, rfl⟩
theorem dX12_isHinge_14 : DD cX12_isHinge 14 (.if_icmp .lt 7) 3 17 := ⟨by decide +kernel, rfl⟩
theorem dX12_isHinge_17 : DD cX12_isHinge 17 (.iconst 1) 1 18 := ⟨by decide +kernel, rfl⟩
theorem dX12_isHinge_18 : DD cX12_isHinge 18 (.goto 4) 3 21 := ⟨by decide +kernel, rfl⟩
theorem dX12_isHinge_21 : DD cX12_isHinge 21 (.iconst 0) 1 22 := ⟨by decide +kernel, rfl⟩
theorem dX12_isHinge_22 : DD cX12_isHinge 22 (.ireturn) 1 23 := ⟨by decide +kernel, rfl⟩
def fX12_isHinge (x0 : Int32) (x1 : Int32) : Option Int32 := (cP (fX12_apart x0 x1) fun r1 => (if r1 ≤ (2 : Int32) then (some (1 : Int32)) else (if r1 < (22 : Int32) then (some (0 : Int32)) else (some (1 : Int32)))))
set_option maxHeartbeats 4000000 in
set_option maxRecDepth 100000 in
theorem kX12_isHinge (l : Launch) (G : Gt) (hD : ∀ m, va_D (inA G nM) (wM G m)) (m : Mem) (x0 : Int32) (x1 : Int32) : ∀ a, fX12_isHinge x0 x1 = some a → Ct l G wM nM yX12_isHinge cX12_isHinge 3 (some .boolean) 2 [.int x0, .int x1] m ((cvP m) a) := by
  refine ct_of (own := RX12) (ls0 := [some (.int x0), some (.int x1), none]) (by decide) rfl rfl rfl (Nat.le_of_ble_eq_true rfl) hD (fun X h => ?_) l
  unfold fX12_isHinge
  refine j_iload_n h dX12_isHinge_0 rfl ?_
  refine j_iload_n h dX12_isHinge_1 rfl ?_
  refine j_callSP h [.int x0, .int x1] (kX12_apart _ G h.2.2.2.2.2.2.2.2.2.2 m x0 x1) okX12_apart stX12_apart ml12_414 rfl rfl (by decide) (by decide) (Nat.le_of_ble_eq_true rfl) rfl dX12_isHinge_2 (fun r1 hr1 => ?_)
  refine j_istore_n h dX12_isHinge_5 rfl rfl ?_
  refine j_iload_n h dX12_isHinge_6 rfl ?_
  refine j_iconst (v := (2 : Int32)) h dX12_isHinge_7 kiconst_2 ?_
  refine j_icmp_le (tgt := 17) h dX12_isHinge_8 (by decide) (fun c3 => ?_) (fun c3 => ?_)
  · refine j_iconst (v := (1 : Int32)) h dX12_isHinge_17 kiconst_1 ?_
    refine j_goto (tgt := 22) h dX12_isHinge_18 (by decide) ?_
    exact j_zretB h rfl rfl dX12_isHinge_22
  · refine j_iload_n h dX12_isHinge_11 rfl ?_
    refine j_bipush (v := (22 : Int32)) h dX12_isHinge_12 kbipush_22 ?_
    refine j_icmp_lt (tgt := 21) h dX12_isHinge_14 (by decide) (fun c4 => ?_) (fun c4 => ?_)
    · refine j_iconst (v := (0 : Int32)) h dX12_isHinge_21 kiconst_0 ?_
      exact j_zretB h rfl rfl dX12_isHinge_22
    · refine j_iconst (v := (1 : Int32)) h dX12_isHinge_17 kiconst_1 ?_
      refine j_goto (tgt := 22) h dX12_isHinge_18 (by decide) ?_
      exact j_zretB h rfl rfl dX12_isHinge_22
theorem dX12_layDate_0 : DD cX12_layDate 0 (.aload_n 0) 1 1 := ⟨by decide +kernel, rfl⟩
theorem dX12_layDate_1 : DD cX12_layDate 1 (.iload_n 1) 1 2 := ⟨by decide +kernel, rfl⟩
theorem dX12_layDate_2 : DD cX12_layDate 2 (.invokevirtual 417) 3 5 := ⟨by decide +kernel, rfl⟩
theorem dX12_layDate_5 : DD cX12_layDate 5 (.istore_n 2) 1 6 := ⟨by decide +kernel, rfl⟩
theorem dX12_layDate_6 : DD cX12_layDate 6 (.aload_n 0) 1 7 := ⟨by decide +kernel, rfl⟩
theorem dX12_layDate_7 : DD cX12_layDate 7 (.iload_n 1) 1 8 := ⟨by decide +kernel, rfl⟩
theorem dX12_layDate_8 : DD cX12_layDate 8 (.invokevirtual 420) 3 11 := ⟨by decide +kernel, rfl⟩
theorem dX12_layDate_11 : DD cX12_layDate 11 (.istore_n 3) 1 12 := ⟨by decide +kernel, rfl⟩
theorem dX12_layDate_12 : DD cX12_layDate 12 (.iconst 0) 1 13 := ⟨by decide +kernel, rfl⟩
theorem dX12_layDate_13 : DD cX12_layDate 13 (.istore 4) 2 15 := ⟨by decide +kernel, rfl⟩
theorem dX12_layDate_15 : DD cX12_layDate 15 (.iload 4) 2 17 := ⟨by decide +kernel, rfl⟩
theorem dX12_layDate_17 : DD cX12_layDate 17 (.iconst 3) 1 18 := ⟨by decide +kernel, rfl⟩
theorem dX12_layDate_18 : DD cX12_layDate 18 (.if_icmp .ge 17) 3 21 := ⟨by decide +kernel, rfl⟩
theorem dX12_layDate_21 : DD cX12_layDate 21 (.aload_n 0) 1 22 := ⟨by decide +kernel, rfl⟩
theorem dX12_layDate_22 : DD cX12_layDate 22 (.getfield 118) 3 25 := ⟨by decide +kernel, rfl⟩
theorem dX12_layDate_25 : DD cX12_layDate 25 (.iload 4) 2 27 := ⟨by decide +kernel, rfl⟩
theorem dX12_layDate_27 : DD cX12_layDate 27 (.iconst 0) 1 28 := ⟨by decide +kernel, rfl⟩
theorem dX12_layDate_28 : DD cX12_layDate 28 (.iastore) 1 29 := ⟨by decide +kernel, rfl⟩
theorem dX12_layDate_29 : DD cX12_layDate 29 (.iinc 4 1) 3 32 := ⟨by decide +kernel, rfl⟩
theorem dX12_layDate_32 : DD cX12_layDate 32 (.goto (-17)) 3 35 := ⟨by decide +kernel, rfl⟩
theorem dX12_layDate_35 : DD cX12_layDate 35 (.iconst 0) 1 36 := ⟨by decide +kernel, rfl⟩
theorem dX12_layDate_36 : DD cX12_layDate 36 (.istore 4) 2 38 := ⟨by decide +kernel, rfl⟩
theorem dX12_layDate_38 : DD cX12_layDate 38 (.iload 4) 2 40 := ⟨by decide +kernel, rfl⟩
theorem dX12_layDate_40 : DD cX12_layDate 40 (.bipush 24) 2 42 := ⟨by decide +kernel, rfl⟩
theorem dX12_layDate_42 : DD cX12_layDate 42 (.if_icmp .ge 69) 3 45 := ⟨by decide +kernel, rfl⟩
theorem dX12_layDate_45 : DD cX12_layDate 45 (.aload_n 0) 1 46 := ⟨by decide +kernel, rfl⟩
theorem dX12_layDate_46 : DD cX12_layDate 46 (.getfield 118) 3 49 := ⟨by decide +kernel, rfl⟩
theorem dX12_layDate_49 : DD cX12_layDate 49 (.iload 4) 2 51 := ⟨by decide +kernel, rfl⟩
theorem dX12_layDate_51 : DD cX12_layDate 51 (.iload_n 2) 1 52 := ⟨by decide +kernel, rfl⟩
theorem dX12_layDate_52 : DD cX12_layDate 52 (.if_icmp .lt 13) 3 55 := ⟨by decide +kernel, rfl⟩
theorem dX12_layDate_55 : DD cX12_layDate 55 (.iload 4) 2 57 := ⟨by decide +kernel, rfl⟩
theorem dX12_layDate_57 : DD cX12_layDate 57 (.iload_n 3) 1 58 := ⟨by decide +kernel, rfl⟩
theorem dX12_layDate_58 : DD cX12_layDate 58 (.if_icmp .ge 7) 3 61 := ⟨by decide +kernel, rfl⟩
theorem dX12_layDate_61 : DD cX12_layDate 61 (.iconst 0) 1 62 := ⟨by decide +kernel, rfl⟩
theorem dX12_layDate_62 : DD cX12_layDate 62 (.goto 4) 3 65 := ⟨by decide +kernel, rfl⟩
theorem dX12_layDate_65 : DD cX12_layDate 65 (.iconst 1) 1 66 := ⟨by decide +kernel, rfl⟩
theorem dX12_layDate_66 : DD cX12_layDate 66 (.dup2) 1 67 := ⟨by decide +kernel, rfl⟩
theorem dX12_layDate_67 : DD cX12_layDate 67 (.iaload) 1 68 := ⟨by decide +kernel, rfl⟩
theorem dX12_layDate_68 : DD cX12_layDate 68 (.iconst 1) 1 69 := ⟨by decide +kernel, rfl⟩
theorem dX12_layDate_69 : DD cX12_layDate 69 (.iload 4) 2 71 := ⟨by decide +kernel, rfl⟩
theorem dX12_layDate_71 : DD cX12_layDate 71 (.ishl) 1 72 := ⟨by decide +kernel, rfl⟩
theorem dX12_layDate_72 : DD cX12_layDate 72 (.ior) 1 73 := ⟨by decide +kernel, rfl⟩
theorem dX12_layDate_73 : DD cX12_layDate 73 (.iastore) 1 74 := ⟨by decide +kernel, rfl⟩
theorem dX12_layDate_74 : DD cX12_layDate 74 (.iload 4) 2 76 := ⟨by decide +kernel, rfl⟩
theorem dX12_layDate_76 : DD cX12_layDate 76 (.iload_n 2) 1 77 := ⟨by decide +kernel, rfl⟩
theorem dX12_layDate_77 : DD cX12_layDate 77 (.invokestatic 423) 3 80 := ⟨by decide +kernel, rfl⟩
theorem dX12_layDate_80 : DD cX12_layDate 80 (.ifCond .ne 12) 3 83 := ⟨by decide +kernel, rfl⟩
theorem dX12_layDate_83 : DD cX12_layDate 83 (.iload 4) 2 85 := ⟨by decide +kernel, rfl⟩
theorem dX12_layDate_85 : DD cX12_layDate 85 (.iload_n 3) 1 86 := ⟨by decide +kernel, rfl⟩
theorem dX12_layDate_86 : DD cX12_layDate 86 (.invokestatic 423) 3 89 := ⟨by decide +kernel, rfl⟩
theorem dX12_layDate_89 : DD cX12_layDate 89 (.ifCond .eq 16) 3 92 := ⟨by decide +kernel, rfl⟩
theorem dX12_layDate_92 : DD cX12_layDate 92 (.aload_n 0) 1 93 := ⟨by decide +kernel, rfl⟩
theorem dX12_layDate_93 : DD cX12_layDate 93 (.getfield 118) 3 96 := ⟨by decide +kernel, rfl⟩
theorem dX12_layDate_96 : DD cX12_layDate 96 (.iconst 2) 1 97 := ⟨by decide +kernel, rfl⟩
theorem dX12_layDate_97 : DD cX12_layDate 97 (.dup2) 1 98 := ⟨by decide +kernel, rfl⟩
theorem dX12_layDate_98 : DD cX12_layDate 98 (.iaload) 1 99 := ⟨by decide +kernel, rfl⟩
theorem dX12_layDate_99 : DD cX12_layDate 99 (.iconst 1) 1 100 := ⟨by decide +kernel, rfl⟩
theorem dX12_layDate_100 : DD cX12_layDate 100 (.iload 4) 2 102 := ⟨by decide +kernel, rfl⟩
theorem dX12_layDate_102 : DD cX12_layDate 102 (.ishl) 1 103 := ⟨by decide +kernel, rfl⟩
theorem dX12_layDate_103 : DD cX12_layDate 103 (.ior) 1 104 := ⟨by decide +kernel, rfl⟩
theorem dX12_layDate_104 : DD cX12_layDate 104 (.iastore) 1 105 := ⟨by decide +kernel, rfl⟩
theorem dX12_layDate_105 : DD cX12_layDate 105 (.iinc 4 1) 3 108 := ⟨by decide +kernel, rfl⟩
theorem dX12_layDate_108 : DD cX12_layDate 108 (.goto (-70)) 3 111 := ⟨by decide +kernel, rfl⟩
theorem dX12_layDate_111 : DD cX12_layDate 111 (.iconst 0) 1 112 := ⟨by decide +kernel, rfl⟩
theorem dX12_layDate_112 : DD cX12_layDate 112 (.istore 4) 2 114 := ⟨by decide +kernel, rfl⟩
theorem dX12_layDate_114 : DD cX12_layDate 114 (.iload 4) 2 116 := ⟨by decide +kernel, rfl⟩
theorem dX12_layDate_116 : DD cX12_layDate 116 (.aload_n 0) 1 117 := ⟨by decide +kernel, rfl⟩
theorem dX12_layDate_117 : DD cX12_layDate 117 (.getfield 384) 3 120 := ⟨by decide +kernel, rfl⟩
theorem dX12_layDate_120 : DD cX12_layDate 120 (.if_icmp .ge 103) 3 123 := ⟨by decide +kernel, rfl⟩
theorem dX12_layDate_123 : DD cX12_layDate 123 (.iconst 0) 1 124 := ⟨by decide +kernel, rfl⟩
theorem dX12_layDate_124 : DD cX12_layDate 124 (.istore 5) 2 126 := ⟨by decide +kernel, rfl⟩
theorem dX12_layDate_126 : DD cX12_layDate 126 (.iload 5) 2 128 := ⟨by decide +kernel, rfl⟩
theorem dX12_layDate_128 : DD cX12_layDate 128 (.aload_n 0) 1 129 := ⟨by decide +kernel, rfl⟩
theorem dX12_layDate_129 : DD cX12_layDate 129 (.getfield 378) 3 132 := ⟨by decide +kernel, rfl⟩
theorem dX12_layDate_132 : DD cX12_layDate 132 (.if_icmp .ge 85) 3 135 := ⟨by decide +kernel, rfl⟩
theorem dX12_layDate_135 : DD cX12_layDate 135 (.aload_n 0) 1 136 := ⟨by decide +kernel, rfl⟩
theorem dX12_layDate_136 : DD cX12_layDate 136 (.getfield 64) 3 139 := ⟨by decide +kernel, rfl⟩
theorem dX12_layDate_139 : DD cX12_layDate 139 (.aload_n 0) 1 140 := ⟨by decide +kernel, rfl⟩
theorem dX12_layDate_140 : DD cX12_layDate 140 (.getfield 103) 3 143 := ⟨by decide +kernel, rfl⟩
theorem dX12_layDate_143 : DD cX12_layDate 143 (.iload 4) 2 145 := ⟨by decide +kernel, rfl⟩
theorem dX12_layDate_145 : DD cX12_layDate 145 (.iaload) 1 146 := ⟨by decide +kernel, rfl⟩
theorem dX12_layDate_146 : DD cX12_layDate 146 (.iaload) 1 147 := ⟨by decide +kernel, rfl⟩
theorem dX12_layDate_147 : DD cX12_layDate 147 (.aload_n 0) 1 148 := ⟨by decide +kernel, rfl⟩
theorem dX12_layDate_148 : DD cX12_layDate 148 (.getfield 64) 3 151 := ⟨by decide +kernel, rfl⟩
theorem dX12_layDate_151 : DD cX12_layDate 151 (.iload 5) 2 153 := ⟨by decide +kernel, rfl⟩
theorem dX12_layDate_153 : DD cX12_layDate 153 (.iaload) 1 154 := ⟨by decide +kernel, rfl⟩
theorem dX12_layDate_154 : DD cX12_layDate 154 (.invokestatic 414) 3 157 := ⟨by decide +kernel, rfl⟩
theorem dX12_layDate_157 : DD cX12_layDate 157 (.istore 6) 2 159 := ⟨by decide +kernel, rfl⟩
theorem dX12_layDate_159 : DD cX12_layDate 159 (.aload_n 0) 1 160 := ⟨by decide +kernel, rfl⟩
theorem dX12_layDate_160 : DD cX12_layDate 160 (.iload_n 1) 1 161 := ⟨by decide +kernel, rfl⟩
theorem dX12_layDate_161 : DD cX12_layDate 161 (.aload_n 0) 1 162 := ⟨by decide +kernel, rfl⟩
theorem dX12_layDate_162 : DD cX12_layDate 162 (.getfield 106) 3 165 := ⟨by decide +kernel, rfl⟩
theorem dX12_layDate_165 : DD cX12_layDate 165 (.iload 4) 2 167 := ⟨by decide +kernel, rfl⟩
theorem dX12_layDate_167 : DD cX12_layDate 167 (.iaload) 1 168 := ⟨by decide +kernel, rfl⟩
theorem dX12_layDate_168 : DD cX12_layDate 168 (.aload_n 0) 1 169 := ⟨by decide +kernel, rfl⟩
theorem dX12_layDate_169 : DD cX12_layDate 169 (.getfield 109) 3 172 := ⟨by decide +kernel, rfl⟩
theorem dX12_layDate_172 : DD cX12_layDate 172 (.iload 4) 2 174 := ⟨by decide +kernel, rfl⟩
theorem dX12_layDate_174 : DD cX12_layDate 174 (.iaload) 1 175 := ⟨by decide +kernel, rfl⟩
theorem dX12_layDate_175 : DD cX12_layDate 175 (.iload 6) 2 177 := ⟨by decide +kernel, rfl⟩
theorem dX12_layDate_177 : DD cX12_layDate 177 (.invokevirtual 406) 3 180 := ⟨by decide +kernel, rfl⟩
theorem dX12_layDate_180 : DD cX12_layDate 180 (.aload_n 0) 1 181 := ⟨by decide +kernel, rfl⟩
theorem dX12_layDate_181 : DD cX12_layDate 181 (.getfield 121) 3 184 := ⟨by decide +kernel, rfl⟩
theorem dX12_layDate_184 : DD cX12_layDate 184 (.bipush 7) 2 186 := ⟨by decide +kernel, rfl⟩
theorem dX12_layDate_186 : DD cX12_layDate 186 (.iload 4) 2 188 := ⟨by decide +kernel, rfl⟩
theorem dX12_layDate_188 : DD cX12_layDate 188 (.imul) 1 189 := ⟨by decide +kernel, rfl⟩
theorem dX12_layDate_189 : DD cX12_layDate 189 (.iload 5) 2 191 := ⟨by decide +kernel, rfl⟩
theorem dX12_layDate_191 : DD cX12_layDate 191 (.iadd) 1 192 := ⟨by decide +kernel, rfl⟩
theorem dX12_layDate_192 : DD cX12_layDate 192 (.aload_n 0) 1 193 := ⟨by decide +kernel, rfl⟩
theorem dX12_layDate_193 : DD cX12_layDate 193 (.iconst 2) 1 194 := ⟨by decide +kernel, rfl⟩
theorem dX12_layDate_194 : DD cX12_layDate 194 (.aload_n 0) 1 195 := ⟨by decide +kernel, rfl⟩
theorem dX12_layDate_195 : DD cX12_layDate 195 (.getfield 109) 3 198 := ⟨by decide +kernel, rfl⟩
theorem dX12_layDate_198 : DD cX12_layDate 198 (.iload 4) 2 200 := ⟨by decide +kernel, rfl⟩
theorem dX12_layDate_200 : DD cX12_layDate 200 (.iaload) 1 201 := ⟨by decide +kernel, rfl⟩
theorem dX12_layDate_201 : DD cX12_layDate 201 (.iload 6) 2 203 := ⟨by decide +kernel, rfl⟩
theorem dX12_layDate_203 : DD cX12_layDate 203 (.isub) 1 204 := ⟨by decide +kernel, rfl⟩
theorem dX12_layDate_204 : DD cX12_layDate 204 (.iconst 0) 1 205 := ⟨by decide +kernel, rfl⟩
theorem dX12_layDate_205 : DD cX12_layDate 205 (.bipush 99) 2 207 := ⟨by decide +kernel, rfl⟩
theorem dX12_layDate_207 : DD cX12_layDate 207 (.invokevirtual 410) 3 210 := ⟨by decide +kernel, rfl⟩
theorem dX12_layDate_210 : DD cX12_layDate 210 (.iastore) 1 211 := ⟨by decide +kernel, rfl⟩
theorem dX12_layDate_211 : DD cX12_layDate 211 (.iinc 5 1) 3 214 := ⟨by decide +kernel, rfl⟩
theorem dX12_layDate_214 : DD cX12_layDate 214 (.goto (-88)) 3 217 := ⟨by decide +kernel, rfl⟩
theorem dX12_layDate_217 : DD cX12_layDate 217 (.iinc 4 1) 3 220 := ⟨by decide +kernel, rfl⟩
theorem dX12_layDate_220 : DD cX12_layDate 220 (.goto (-106)) 3 223 := ⟨by decide +kernel, rfl⟩
theorem dX12_layDate_223 : DD cX12_layDate 223 (.return_) 1 224 := ⟨by decide +kernel, rfl⟩
def gX12_layDate : Nat → Nat → Int32 → Int32 → Int32 → Int32 → Int32 → Mem → Option Mem
  | 0, _, _, _, _, _, _, _ => none
  | f + 1, 0, x1, x2, x3, x4, x5, m => (if (3 : Int32) ≤ x4 then (gX12_layDate f 1 x1 x2 x3 (0 : Int32) 0 m) else (wr m 35 3 x4 (0 : Int32) fun m2 => (gX12_layDate f 0 x1 x2 x3 (x4 + (1 : Int32)) 0 m2)))
  | f + 1, 1, x1, x2, x3, x4, x5, m => (if (24 : Int32) ≤ x4 then (gX12_layDate f 2 x1 0 0 (0 : Int32) 0 m) else (if x4 < x2 then (rd (m.1 35) 3 (1 : Int32) fun v3 => (wr m 35 3 (1 : Int32) (v3 ||| ((1 : Int32) <<< (x4 &&& 31))) fun m4 => (cP (fX12_isHinge x4 x2) fun r5 => (if r5 = 0 then (cP (fX12_isHinge x4 x3) fun r10 => (if r10 = 0 then (gX12_layDate f 1 x1 x2 x3 (x4 + (1 : Int32)) 0 m4) else (rd (m4.1 35) 3 (2 : Int32) fun v13 => (wr m4 35 3 (2 : Int32) (v13 ||| ((1 : Int32) <<< (x4 &&& 31))) fun m14 => (gX12_layDate f 1 x1 x2 x3 (x4 + (1 : Int32)) 0 m14))))) else (rd (m4.1 35) 3 (2 : Int32) fun v8 => (wr m4 35 3 (2 : Int32) (v8 ||| ((1 : Int32) <<< (x4 &&& 31))) fun m9 => (gX12_layDate f 1 x1 x2 x3 (x4 + (1 : Int32)) 0 m9))))))) else (if x3 ≤ x4 then (rd (m.1 35) 3 (1 : Int32) fun v16 => (wr m 35 3 (1 : Int32) (v16 ||| ((1 : Int32) <<< (x4 &&& 31))) fun m17 => (cP (fX12_isHinge x4 x2) fun r18 => (if r18 = 0 then (cP (fX12_isHinge x4 x3) fun r23 => (if r23 = 0 then (gX12_layDate f 1 x1 x2 x3 (x4 + (1 : Int32)) 0 m17) else (rd (m17.1 35) 3 (2 : Int32) fun v26 => (wr m17 35 3 (2 : Int32) (v26 ||| ((1 : Int32) <<< (x4 &&& 31))) fun m27 => (gX12_layDate f 1 x1 x2 x3 (x4 + (1 : Int32)) 0 m27))))) else (rd (m17.1 35) 3 (2 : Int32) fun v21 => (wr m17 35 3 (2 : Int32) (v21 ||| ((1 : Int32) <<< (x4 &&& 31))) fun m22 => (gX12_layDate f 1 x1 x2 x3 (x4 + (1 : Int32)) 0 m22))))))) else (rd (m.1 35) 3 (0 : Int32) fun v28 => (wr m 35 3 (0 : Int32) (v28 ||| ((1 : Int32) <<< (x4 &&& 31))) fun m29 => (cP (fX12_isHinge x4 x2) fun r30 => (if r30 = 0 then (cP (fX12_isHinge x4 x3) fun r35 => (if r35 = 0 then (gX12_layDate f 1 x1 x2 x3 (x4 + (1 : Int32)) 0 m29) else (rd (m29.1 35) 3 (2 : Int32) fun v38 => (wr m29 35 3 (2 : Int32) (v38 ||| ((1 : Int32) <<< (x4 &&& 31))) fun m39 => (gX12_layDate f 1 x1 x2 x3 (x4 + (1 : Int32)) 0 m39))))) else (rd (m29.1 35) 3 (2 : Int32) fun v33 => (wr m29 35 3 (2 : Int32) (v33 ||| ((1 : Int32) <<< (x4 &&& 31))) fun m34 => (gX12_layDate f 1 x1 x2 x3 (x4 + (1 : Int32)) 0 m34))))))))))
  | f + 1, 2, x1, x2, x3, x4, x5, m => (if (m.1 0 53) ≤ x4 then (some m) else (gX12_layDate f 3 x1 0 0 x4 (0 : Int32) m))
  | f + 1, 3, x1, x2, x3, x4, x5, m => (if (m.1 0 51) ≤ x5 then (gX12_layDate f 2 x1 0 0 (x4 + (1 : Int32)) 0 m) else (rd (m.1 30) 8 x4 fun v2 => (rd (m.1 17) 7 v2 fun v3 => (rd (m.1 17) 7 x5 fun v4 => (cP (fX12_apart v3 v4) fun r5 => (rd (m.1 31) 8 x4 fun v7 => (rd (m.1 32) 8 x4 fun v8 => (cV (fX12_askOf m x1 v7 v8 r5) fun m10 => (rd (m10.1 32) 8 x4 fun v11 => (cI (fX12_worked m10 (2 : Int32) (v11 - r5) (0 : Int32) (99 : Int32)) fun r12 m13 => (wr m13 36 56 (((7 : Int32) * x4) + x5) r12 fun m14 => (gX12_layDate f 3 x1 0 0 x4 (x5 + (1 : Int32)) m14))))))))))))
  | _ + 1, _ + 4, _, _, _, _, _, _ => none
def fX12_layDate (m : Mem) (x1 : Int32) : Option Mem := (cI (fX12_dawnOf m x1) fun r1 m2 => (cI (fX12_duskOf m2 x1) fun r3 m4 => (gX12_layDate 5000 0 x1 r1 r3 (0 : Int32) 0 m4)))
set_option maxHeartbeats 4000000 in
set_option maxRecDepth 100000 in
theorem wX12_layDate {X : Cx} {G : Gt} (h : OkX (X, G, wM, nM) cX12_layDate RX12 7 none 5) : ∀ f : Nat, (∀ (x1 : Int32) (x2 : Int32) (x3 : Int32) (x4 : Int32) (x5 : Int32) (m : Mem), JR (X, G, wM, nM) cvV m 15 [some (.ref (G.2.2 0)), some (.int x1), some (.int x2), some (.int x3), some (.int x4), none, none] [] (gX12_layDate f 0 x1 x2 x3 x4 x5 m)) ∧ (∀ (x1 : Int32) (x2 : Int32) (x3 : Int32) (x4 : Int32) (x5 : Int32) (m : Mem), JR (X, G, wM, nM) cvV m 38 [some (.ref (G.2.2 0)), some (.int x1), some (.int x2), some (.int x3), some (.int x4), none, none] [] (gX12_layDate f 1 x1 x2 x3 x4 x5 m)) ∧ (∀ (x1 : Int32) (x2 : Int32) (x3 : Int32) (x4 : Int32) (x5 : Int32) (m : Mem), JR (X, G, wM, nM) cvV m 114 [some (.ref (G.2.2 0)), some (.int x1), none, none, some (.int x4), none, none] [] (gX12_layDate f 2 x1 x2 x3 x4 x5 m)) ∧ (∀ (x1 : Int32) (x2 : Int32) (x3 : Int32) (x4 : Int32) (x5 : Int32) (m : Mem), JR (X, G, wM, nM) cvV m 126 [some (.ref (G.2.2 0)), some (.int x1), none, none, some (.int x4), some (.int x5), none] [] (gX12_layDate f 3 x1 x2 x3 x4 x5 m)) := by
  intro f
  induction f with
  | zero => exact ⟨(fun _ _ _ _ _ _ => j_none), (fun _ _ _ _ _ _ => j_none), (fun _ _ _ _ _ _ => j_none), (fun _ _ _ _ _ _ => j_none)⟩
  | succ f ih =>
    refine ⟨?_, ?_, ?_, ?_⟩
    · intro x1 x2 x3 x4 x5 m
      rw [gX12_layDate]
      refine j_iload h dX12_layDate_15 rfl ?_
      refine j_iconst (v := (3 : Int32)) h dX12_layDate_17 kiconst_3 ?_
      refine j_icmp_ge (tgt := 35) h dX12_layDate_18 (by decide) (fun c1 => ?_) (fun c1 => ?_)
      · refine j_iconst (v := (0 : Int32)) h dX12_layDate_35 kiconst_0 ?_
        refine j_istore h dX12_layDate_36 rfl rfl ?_
        refine j_wk (ls' := [some (.ref (G.2.2 0)), some (.int x1), some (.int x2), some (.int x3), some (.int (0 : Int32)), none, none]) (And.intro rfl (And.intro rfl (And.intro rfl (And.intro rfl (And.intro rfl trivial))))) ?_
        exact ih.2.1 x1 x2 x3 (0 : Int32) 0 m
      · refine j_aload_n h dX12_layDate_21 rfl ?_
        refine gM_57 h dX12_layDate_22 ?_
        refine j_iload h dX12_layDate_25 rfl ?_
        refine j_iconst (v := (0 : Int32)) h dX12_layDate_27 kiconst_0 ?_
        refine bM_35 h dX12_layDate_28 (fun m2 hm2 => ?_)
        refine j_iinc (v := (x4 + (1 : Int32))) h dX12_layDate_29 rfl (by rw [kiconst_1]) rfl ?_
        refine j_goto (tgt := 15) h dX12_layDate_32 (by decide) ?_
        refine j_wk (ls' := [some (.ref (G.2.2 0)), some (.int x1), some (.int x2), some (.int x3), some (.int (x4 + (1 : Int32))), none, none]) (And.intro rfl (And.intro rfl (And.intro rfl (And.intro rfl (And.intro rfl trivial))))) ?_
        exact ih.1 x1 x2 x3 (x4 + (1 : Int32)) 0 m2
    · intro x1 x2 x3 x4 x5 m
      rw [gX12_layDate]
      refine j_iload h dX12_layDate_38 rfl ?_
      refine j_bipush (v := (24 : Int32)) h dX12_layDate_40 kbipush_24 ?_
      refine j_icmp_ge (tgt := 111) h dX12_layDate_42 (by decide) (fun c1 => ?_) (fun c1 => ?_)
      · refine j_iconst (v := (0 : Int32)) h dX12_layDate_111 kiconst_0 ?_
        refine j_istore h dX12_layDate_112 rfl rfl ?_
        refine j_wk (ls' := [some (.ref (G.2.2 0)), some (.int x1), none, none, some (.int (0 : Int32)), none, none]) (And.intro rfl (And.intro rfl (And.intro rfl trivial))) ?_
        exact ih.2.2.1 x1 0 0 (0 : Int32) 0 m
      · refine j_aload_n h dX12_layDate_45 rfl ?_
        refine gM_57 h dX12_layDate_46 ?_
        refine j_iload h dX12_layDate_49 rfl ?_
        refine j_iload_n h dX12_layDate_51 rfl ?_
        refine j_icmp_lt (tgt := 65) h dX12_layDate_52 (by decide) (fun c2 => ?_) (fun c2 => ?_)
        · refine j_iconst (v := (1 : Int32)) h dX12_layDate_65 kiconst_1 ?_
          refine j_dup2 h dX12_layDate_66 rfl rfl ?_
          refine aM_35 h dX12_layDate_67 (fun v3 hv3 => ?_)
          refine j_iconst (v := (1 : Int32)) h dX12_layDate_68 kiconst_1 ?_
          refine j_iload h dX12_layDate_69 rfl ?_
          refine j_ishl h dX12_layDate_71 ?_
          refine j_ior h dX12_layDate_72 ?_
          refine bM_35 h dX12_layDate_73 (fun m4 hm4 => ?_)
          refine j_iload h dX12_layDate_74 rfl ?_
          refine j_iload_n h dX12_layDate_76 rfl ?_
          refine j_callSP h [.int x4, .int x2] (kX12_isHinge _ G h.2.2.2.2.2.2.2.2.2.2 m4 x4 x2) okX12_isHinge stX12_isHinge ml12_423 rfl rfl (by decide) (by decide) (Nat.le_of_ble_eq_true rfl) rfl dX12_layDate_77 (fun r5 hr5 => ?_)
          refine j_if_ne (tgt := 92) h dX12_layDate_80 (by decide) (fun c7 => ?_) (fun c7 => ?_)
          · refine j_aload_n h dX12_layDate_92 rfl ?_
            refine gM_57 h dX12_layDate_93 ?_
            refine j_iconst (v := (2 : Int32)) h dX12_layDate_96 kiconst_2 ?_
            refine j_dup2 h dX12_layDate_97 rfl rfl ?_
            refine aM_35 h dX12_layDate_98 (fun v8 hv8 => ?_)
            refine j_iconst (v := (1 : Int32)) h dX12_layDate_99 kiconst_1 ?_
            refine j_iload h dX12_layDate_100 rfl ?_
            refine j_ishl h dX12_layDate_102 ?_
            refine j_ior h dX12_layDate_103 ?_
            refine bM_35 h dX12_layDate_104 (fun m9 hm9 => ?_)
            refine j_iinc (v := (x4 + (1 : Int32))) h dX12_layDate_105 rfl (by rw [kiconst_1]) rfl ?_
            refine j_goto (tgt := 38) h dX12_layDate_108 (by decide) ?_
            refine j_wk (ls' := [some (.ref (G.2.2 0)), some (.int x1), some (.int x2), some (.int x3), some (.int (x4 + (1 : Int32))), none, none]) (And.intro rfl (And.intro rfl (And.intro rfl (And.intro rfl (And.intro rfl trivial))))) ?_
            exact ih.2.1 x1 x2 x3 (x4 + (1 : Int32)) 0 m9
          · refine j_iload h dX12_layDate_83 rfl ?_
            refine j_iload_n h dX12_layDate_85 rfl ?_
            refine j_callSP h [.int x4, .int x3] (kX12_isHinge _ G h.2.2.2.2.2.2.2.2.2.2 m4 x4 x3) okX12_isHinge stX12_isHinge ml12_423 rfl rfl (by decide) (by decide) (Nat.le_of_ble_eq_true rfl) rfl dX12_layDate_86 (fun r10 hr10 => ?_)
            refine j_if_eq (tgt := 105) h dX12_layDate_89 (by decide) (fun c12 => ?_) (fun c12 => ?_)
            · refine j_iinc (v := (x4 + (1 : Int32))) h dX12_layDate_105 rfl (by rw [kiconst_1]) rfl ?_
              refine j_goto (tgt := 38) h dX12_layDate_108 (by decide) ?_
              refine j_wk (ls' := [some (.ref (G.2.2 0)), some (.int x1), some (.int x2), some (.int x3), some (.int (x4 + (1 : Int32))), none, none]) (And.intro rfl (And.intro rfl (And.intro rfl (And.intro rfl (And.intro rfl trivial))))) ?_
              exact ih.2.1 x1 x2 x3 (x4 + (1 : Int32)) 0 m4
            · refine j_aload_n h dX12_layDate_92 rfl ?_
              refine gM_57 h dX12_layDate_93 ?_
              refine j_iconst (v := (2 : Int32)) h dX12_layDate_96 kiconst_2 ?_
              refine j_dup2 h dX12_layDate_97 rfl rfl ?_
              refine aM_35 h dX12_layDate_98 (fun v13 hv13 => ?_)
              refine j_iconst (v := (1 : Int32)) h dX12_layDate_99 kiconst_1 ?_
              refine j_iload h dX12_layDate_100 rfl ?_
              refine j_ishl h dX12_layDate_102 ?_
              refine j_ior h dX12_layDate_103 ?_
              refine bM_35 h dX12_layDate_104 (fun m14 hm14 => ?_)
              refine j_iinc (v := (x4 + (1 : Int32))) h dX12_layDate_105 rfl (by rw [kiconst_1]) rfl ?_
              refine j_goto (tgt := 38) h dX12_layDate_108 (by decide) ?_
              refine j_wk (ls' := [some (.ref (G.2.2 0)), some (.int x1), some (.int x2), some (.int x3), some (.int (x4 + (1 : Int32))), none, none]) (And.intro rfl (And.intro rfl (And.intro rfl (And.intro rfl (And.intro rfl trivial))))) ?_
              exact ih.2.1 x1 x2 x3 (x4 + (1 : Int32)) 0 m14
        · refine j_iload h dX12_layDate_55 rfl ?_
          refine j_iload_n h dX12_layDate_57 rfl ?_
          refine j_icmp_ge (tgt := 65) h dX12_layDate_58 (by decide) (fun c15 => ?_) (fun c15 => ?_)
          · refine j_iconst (v := (1 : Int32)) h dX12_layDate_65 kiconst_1 ?_
            refine j_dup2 h dX12_layDate_66 rfl rfl ?_
            refine aM_35 h dX12_layDate_67 (fun v16 hv16 => ?_)
            refine j_iconst (v := (1 : Int32)) h dX12_layDate_68 kiconst_1 ?_
            refine j_iload h dX12_layDate_69 rfl ?_
            refine j_ishl h dX12_layDate_71 ?_
            refine j_ior h dX12_layDate_72 ?_
            refine bM_35 h dX12_layDate_73 (fun m17 hm17 => ?_)
            refine j_iload h dX12_layDate_74 rfl ?_
            refine j_iload_n h dX12_layDate_76 rfl ?_
            refine j_callSP h [.int x4, .int x2] (kX12_isHinge _ G h.2.2.2.2.2.2.2.2.2.2 m17 x4 x2) okX12_isHinge stX12_isHinge ml12_423 rfl rfl (by decide) (by decide) (Nat.le_of_ble_eq_true rfl) rfl dX12_layDate_77 (fun r18 hr18 => ?_)
            refine j_if_ne (tgt := 92) h dX12_layDate_80 (by decide) (fun c20 => ?_) (fun c20 => ?_)
            · refine j_aload_n h dX12_layDate_92 rfl ?_
              refine gM_57 h dX12_layDate_93 ?_
              refine j_iconst (v := (2 : Int32)) h dX12_layDate_96 kiconst_2 ?_
              refine j_dup2 h dX12_layDate_97 rfl rfl ?_
              refine aM_35 h dX12_layDate_98 (fun v21 hv21 => ?_)
              refine j_iconst (v := (1 : Int32)) h dX12_layDate_99 kiconst_1 ?_
              refine j_iload h dX12_layDate_100 rfl ?_
              refine j_ishl h dX12_layDate_102 ?_
              refine j_ior h dX12_layDate_103 ?_
              refine bM_35 h dX12_layDate_104 (fun m22 hm22 => ?_)
              refine j_iinc (v := (x4 + (1 : Int32))) h dX12_layDate_105 rfl (by rw [kiconst_1]) rfl ?_
              refine j_goto (tgt := 38) h dX12_layDate_108 (by decide) ?_
              refine j_wk (ls' := [some (.ref (G.2.2 0)), some (.int x1), some (.int x2), some (.int x3), some (.int (x4 + (1 : Int32))), none, none]) (And.intro rfl (And.intro rfl (And.intro rfl (And.intro rfl (And.intro rfl trivial))))) ?_
              exact ih.2.1 x1 x2 x3 (x4 + (1 : Int32)) 0 m22
            · refine j_iload h dX12_layDate_83 rfl ?_
              refine j_iload_n h dX12_layDate_85 rfl ?_
              refine j_callSP h [.int x4, .int x3] (kX12_isHinge _ G h.2.2.2.2.2.2.2.2.2.2 m17 x4 x3) okX12_isHinge stX12_isHinge ml12_423 rfl rfl (by decide) (by decide) (Nat.le_of_ble_eq_true rfl) rfl dX12_layDate_86 (fun r23 hr23 => ?_)
              refine j_if_eq (tgt := 105) h dX12_layDate_89 (by decide) (fun c25 => ?_) (fun c25 => ?_)
              · refine j_iinc (v := (x4 + (1 : Int32))) h dX12_layDate_105 rfl (by rw [kiconst_1]) rfl ?_
                refine j_goto (tgt := 38) h dX12_layDate_108 (by decide) ?_
                refine j_wk (ls' := [some (.ref (G.2.2 0)), some (.int x1), some (.int x2), some (.int x3), some (.int (x4 + (1 : Int32))), none, none]) (And.intro rfl (And.intro rfl (And.intro rfl (And.intro rfl (And.intro rfl trivial))))) ?_
                exact ih.2.1 x1 x2 x3 (x4 + (1 : Int32)) 0 m17
              · refine j_aload_n h dX12_layDate_92 rfl ?_
                refine gM_57 h dX12_layDate_93 ?_
                refine j_iconst (v := (2 : Int32)) h dX12_layDate_96 kiconst_2 ?_
                refine j_dup2 h dX12_layDate_97 rfl rfl ?_
                refine aM_35 h dX12_layDate_98 (fun v26 hv26 => ?_)
                refine j_iconst (v := (1 : Int32)) h dX12_layDate_99 kiconst_1 ?_
                refine j_iload h dX12_layDate_100 rfl ?_
                refine j_ishl h dX12_layDate_102 ?_
                refine j_ior h dX12_layDate_103 ?_
                refine bM_35 h dX12_layDate_104 (fun m27 hm27 => ?_)
                refine j_iinc (v := (x4 + (1 : Int32))) h dX12_layDate_105 rfl (by rw [kiconst_1]) rfl ?_
                refine j_goto (tgt := 38) h dX12_layDate_108 (by decide) ?_
                refine j_wk (ls' := [some (.ref (G.2.2 0)), some (.int x1), some (.int x2), some (.int x3), some (.int (x4 + (1 : Int32))), none, none]) (And.intro rfl (And.intro rfl (And.intro rfl (And.intro rfl (And.intro rfl trivial))))) ?_
                exact ih.2.1 x1 x2 x3 (x4 + (1 : Int32)) 0 m27
          · refine j_iconst (v := (0 : Int32)) h dX12_layDate_61 kiconst_0 ?_
            refine j_goto (tgt := 66) h dX12_layDate_62 (by decide) ?_
            refine j_dup2 h dX12_layDate_66 rfl rfl ?_
            refine aM_35 h dX12_layDate_67 (fun v28 hv28 => ?_)
            refine j_iconst (v := (1 : Int32)) h dX12_layDate_68 kiconst_1 ?_
            refine j_iload h dX12_layDate_69 rfl ?_
            refine j_ishl h dX12_layDate_71 ?_
            refine j_ior h dX12_layDate_72 ?_
            refine bM_35 h dX12_layDate_73 (fun m29 hm29 => ?_)
            refine j_iload h dX12_layDate_74 rfl ?_
            refine j_iload_n h dX12_layDate_76 rfl ?_
            refine j_callSP h [.int x4, .int x2] (kX12_isHinge _ G h.2.2.2.2.2.2.2.2.2.2 m29 x4 x2) okX12_isHinge stX12_isHinge ml12_423 rfl rfl (by decide) (by decide) (Nat.le_of_ble_eq_true rfl) rfl dX12_layDate_77 (fun r30 hr30 => ?_)
            refine j_if_ne (tgt := 92) h dX12_layDate_80 (by decide) (fun c32 => ?_) (fun c32 => ?_)
            · refine j_aload_n h dX12_layDate_92 rfl ?_
              refine gM_57 h dX12_layDate_93 ?_
              refine j_iconst (v := (2 : Int32)) h dX12_layDate_96 kiconst_2 ?_
              refine j_dup2 h dX12_layDate_97 rfl rfl ?_
              refine aM_35 h dX12_layDate_98 (fun v33 hv33 => ?_)
              refine j_iconst (v := (1 : Int32)) h dX12_layDate_99 kiconst_1 ?_
              refine j_iload h dX12_layDate_100 rfl ?_
              refine j_ishl h dX12_layDate_102 ?_
              refine j_ior h dX12_layDate_103 ?_
              refine bM_35 h dX12_layDate_104 (fun m34 hm34 => ?_)
              refine j_iinc (v := (x4 + (1 : Int32))) h dX12_layDate_105 rfl (by rw [kiconst_1]) rfl ?_
              refine j_goto (tgt := 38) h dX12_layDate_108 (by decide) ?_
              refine j_wk (ls' := [some (.ref (G.2.2 0)), some (.int x1), some (.int x2), some (.int x3), some (.int (x4 + (1 : Int32))), none, none]) (And.intro rfl (And.intro rfl (And.intro rfl (And.intro rfl (And.intro rfl trivial))))) ?_
              exact ih.2.1 x1 x2 x3 (x4 + (1 : Int32)) 0 m34
            · refine j_iload h dX12_layDate_83 rfl ?_
              refine j_iload_n h dX12_layDate_85 rfl ?_
              refine j_callSP h [.int x4, .int x3] (kX12_isHinge _ G h.2.2.2.2.2.2.2.2.2.2 m29 x4 x3) okX12_isHinge stX12_isHinge ml12_423 rfl rfl (by decide) (by decide) (Nat.le_of_ble_eq_true rfl) rfl dX12_layDate_86 (fun r35 hr35 => ?_)
              refine j_if_eq (tgt := 105) h dX12_layDate_89 (by decide) (fun c37 => ?_) (fun c37 => ?_)
              · refine j_iinc (v := (x4 + (1 : Int32))) h dX12_layDate_105 rfl (by rw [kiconst_1]) rfl ?_
                refine j_goto (tgt := 38) h dX12_layDate_108 (by decide) ?_
                refine j_wk (ls' := [some (.ref (G.2.2 0)), some (.int x1), some (.int x2), some (.int x3), some (.int (x4 + (1 : Int32))), none, none]) (And.intro rfl (And.intro rfl (And.intro rfl (And.intro rfl (And.intro rfl trivial))))) ?_
                exact ih.2.1 x1 x2 x3 (x4 + (1 : Int32)) 0 m29
              · refine j_aload_n h dX12_layDate_92 rfl ?_
                refine gM_57 h dX12_layDate_93 ?_
                refine j_iconst (v := (2 : Int32)) h dX12_layDate_96 kiconst_2 ?_
                refine j_dup2 h dX12_layDate_97 rfl rfl ?_
                refine aM_35 h dX12_layDate_98 (fun v38 hv38 => ?_)
                refine j_iconst (v := (1 : Int32)) h dX12_layDate_99 kiconst_1 ?_
                refine j_iload h dX12_layDate_100 rfl ?_
                refine j_ishl h dX12_layDate_102 ?_
                refine j_ior h dX12_layDate_103 ?_
                refine bM_35 h dX12_layDate_104 (fun m39 hm39 => ?_)
                refine j_iinc (v := (x4 + (1 : Int32))) h dX12_layDate_105 rfl (by rw [kiconst_1]) rfl ?_
                refine j_goto (tgt := 38) h dX12_layDate_108 (by decide) ?_
                refine j_wk (ls' := [some (.ref (G.2.2 0)), some (.int x1), some (.int x2), some (.int x3), some (.int (x4 + (1 : Int32))), none, none]) (And.intro rfl (And.intro rfl (And.intro rfl (And.intro rfl (And.intro rfl trivial))))) ?_
                exact ih.2.1 x1 x2 x3 (x4 + (1 : Int32)) 0 m39
    · intro x1 x2 x3 x4 x5 m
      rw [gX12_layDate]
      refine j_iload h dX12_layDate_114 rfl ?_
      refine j_aload_n h dX12_layDate_116 rfl ?_
      refine gM_53 h dX12_layDate_117 ?_
      refine j_icmp_ge (tgt := 223) h dX12_layDate_120 (by decide) (fun c1 => ?_) (fun c1 => ?_)
      · exact j_vret h rfl dX12_layDate_223
      · refine j_iconst (v := (0 : Int32)) h dX12_layDate_123 kiconst_0 ?_
        refine j_istore h dX12_layDate_124 rfl rfl ?_
        refine j_wk (ls' := [some (.ref (G.2.2 0)), some (.int x1), none, none, some (.int x4), some (.int (0 : Int32)), none]) (And.intro rfl (And.intro rfl (And.intro rfl (And.intro rfl trivial)))) ?_
        exact ih.2.2.2 x1 0 0 x4 (0 : Int32) m
    · intro x1 x2 x3 x4 x5 m
      rw [gX12_layDate]
      refine j_iload h dX12_layDate_126 rfl ?_
      refine j_aload_n h dX12_layDate_128 rfl ?_
      refine gM_51 h dX12_layDate_129 ?_
      refine j_icmp_ge (tgt := 217) h dX12_layDate_132 (by decide) (fun c1 => ?_) (fun c1 => ?_)
      · refine j_iinc (v := (x4 + (1 : Int32))) h dX12_layDate_217 rfl (by rw [kiconst_1]) rfl ?_
        refine j_goto (tgt := 114) h dX12_layDate_220 (by decide) ?_
        refine j_wk (ls' := [some (.ref (G.2.2 0)), some (.int x1), none, none, some (.int (x4 + (1 : Int32))), none, none]) (And.intro rfl (And.intro rfl (And.intro rfl trivial))) ?_
        exact ih.2.2.1 x1 0 0 (x4 + (1 : Int32)) 0 m
      · refine j_aload_n h dX12_layDate_135 rfl ?_
        refine gM_31 h dX12_layDate_136 ?_
        refine j_aload_n h dX12_layDate_139 rfl ?_
        refine gM_44 h dX12_layDate_140 ?_
        refine j_iload h dX12_layDate_143 rfl ?_
        refine aM_30 h dX12_layDate_145 (fun v2 hv2 => ?_)
        refine aM_17 h dX12_layDate_146 (fun v3 hv3 => ?_)
        refine j_aload_n h dX12_layDate_147 rfl ?_
        refine gM_31 h dX12_layDate_148 ?_
        refine j_iload h dX12_layDate_151 rfl ?_
        refine aM_17 h dX12_layDate_153 (fun v4 hv4 => ?_)
        refine j_callSP h [.int v3, .int v4] (kX12_apart _ G h.2.2.2.2.2.2.2.2.2.2 m v3 v4) okX12_apart stX12_apart ml12_414 rfl rfl (by decide) (by decide) (Nat.le_of_ble_eq_true rfl) rfl dX12_layDate_154 (fun r5 hr5 => ?_)
        refine j_istore h dX12_layDate_157 rfl rfl ?_
        refine j_aload_n h dX12_layDate_159 rfl ?_
        refine j_iload_n h dX12_layDate_160 rfl ?_
        refine j_aload_n h dX12_layDate_161 rfl ?_
        refine gM_45 h dX12_layDate_162 ?_
        refine j_iload h dX12_layDate_165 rfl ?_
        refine aM_31 h dX12_layDate_167 (fun v7 hv7 => ?_)
        refine j_aload_n h dX12_layDate_168 rfl ?_
        refine gM_46 h dX12_layDate_169 ?_
        refine j_iload h dX12_layDate_172 rfl ?_
        refine aM_32 h dX12_layDate_174 (fun v8 hv8 => ?_)
        refine j_iload h dX12_layDate_175 rfl ?_
        refine j_callVV (q0 := 0) (ci := 12) h [.int x1, .int v7, .int v8, .int r5] (kX12_askOf _ G h.2.2.2.2.2.2.2.2.2.2 m x1 v7 v8 r5) okX12_askOf inX12_askOf ml12_406 rfl rfl rfl rfl (by decide) (by decide) (Nat.le_of_ble_eq_true rfl) rfl dX12_layDate_177 (fun m10 hm10 => ?_)
        refine j_aload_n h dX12_layDate_180 rfl ?_
        refine gM_58 h dX12_layDate_181 ?_
        refine j_bipush (v := (7 : Int32)) h dX12_layDate_184 kbipush_7 ?_
        refine j_iload h dX12_layDate_186 rfl ?_
        refine j_imul h dX12_layDate_188 ?_
        refine j_iload h dX12_layDate_189 rfl ?_
        refine j_iadd h dX12_layDate_191 ?_
        refine j_aload_n h dX12_layDate_192 rfl ?_
        refine j_iconst (v := (2 : Int32)) h dX12_layDate_193 kiconst_2 ?_
        refine j_aload_n h dX12_layDate_194 rfl ?_
        refine gM_46 h dX12_layDate_195 ?_
        refine j_iload h dX12_layDate_198 rfl ?_
        refine aM_32 h dX12_layDate_200 (fun v11 hv11 => ?_)
        refine j_iload h dX12_layDate_201 rfl ?_
        refine j_isub h dX12_layDate_203 ?_
        refine j_iconst (v := (0 : Int32)) h dX12_layDate_204 kiconst_0 ?_
        refine j_bipush (v := (99 : Int32)) h dX12_layDate_205 kbipush_99 ?_
        refine j_callVI (q0 := 0) (ci := 12) h [.int (2 : Int32), .int (v11 - r5), .int (0 : Int32), .int (99 : Int32)] (kX12_worked _ G h.2.2.2.2.2.2.2.2.2.2 m10 (2 : Int32) (v11 - r5) (0 : Int32) (99 : Int32)) okX12_worked inX12_worked ml12_410 rfl rfl rfl rfl (by decide) (by decide) (Nat.le_of_ble_eq_true rfl) rfl dX12_layDate_207 (fun r12 m13 hr12 => ?_)
        refine bM_36 h dX12_layDate_210 (fun m14 hm14 => ?_)
        refine j_iinc (v := (x5 + (1 : Int32))) h dX12_layDate_211 rfl (by rw [kiconst_1]) rfl ?_
        refine j_goto (tgt := 126) h dX12_layDate_214 (by decide) ?_
        refine j_wk (ls' := [some (.ref (G.2.2 0)), some (.int x1), none, none, some (.int x4), some (.int (x5 + (1 : Int32))), none]) (And.intro rfl (And.intro rfl (And.intro rfl (And.intro rfl trivial)))) ?_
        exact ih.2.2.2 x1 0 0 x4 (x5 + (1 : Int32)) m14
set_option maxHeartbeats 4000000 in
set_option maxRecDepth 100000 in
theorem kX12_layDate (l : Launch) (G : Gt) (hD : ∀ m, va_D (inA G nM) (wM G m)) (m : Mem) (x1 : Int32) : ∀ a, fX12_layDate m x1 = some a → Ct l G wM nM yX12_layDate cX12_layDate 7 none 5 [.ref (G.2.2 0), .int x1] m (cvV a) := by
  refine ct_of (own := RX12) (ls0 := [some (.ref (G.2.2 0)), some (.int x1), none, none, none, none, none]) (by decide) rfl rfl rfl (Nat.le_of_ble_eq_true rfl) hD (fun X h => ?_) l
  unfold fX12_layDate
  refine j_aload_n h dX12_layDate_0 rfl ?_
  refine j_iload_n h dX12_layDate_1 rfl ?_
  refine j_callVI (q0 := 0) (ci := 12) h [.int x1] (kX12_dawnOf _ G h.2.2.2.2.2.2.2.2.2.2 m x1) okX12_dawnOf inX12_dawnOf ml12_417 rfl rfl rfl rfl (by decide) (by decide) (Nat.le_of_ble_eq_true rfl) rfl dX12_layDate_2 (fun r1 m2 hr1 => ?_)
  refine j_istore_n h dX12_layDate_5 rfl rfl ?_
  refine j_aload_n h dX12_layDate_6 rfl ?_
  refine j_iload_n h dX12_layDate_7 rfl ?_
  refine j_callVI (q0 := 0) (ci := 12) h [.int x1] (kX12_duskOf _ G h.2.2.2.2.2.2.2.2.2.2 m2 x1) okX12_duskOf inX12_duskOf ml12_420 rfl rfl rfl rfl (by decide) (by decide) (Nat.le_of_ble_eq_true rfl) rfl dX12_layDate_8 (fun r3 m4 hr3 => ?_)
  refine j_istore_n h dX12_layDate_11 rfl rfl ?_
  refine j_iconst (v := (0 : Int32)) h dX12_layDate_12 kiconst_0 ?_
  refine j_istore h dX12_layDate_13 rfl rfl ?_
  refine j_wk (ls' := [some (.ref (G.2.2 0)), some (.int x1), some (.int r1), some (.int r3), some (.int (0 : Int32)), none, none]) (And.intro rfl (And.intro rfl (And.intro rfl (And.intro rfl (And.intro rfl trivial))))) ?_
  exact (wX12_layDate h 5000).1 x1 r1 r3 (0 : Int32) 0 m4
theorem dX12_loadDate_0 : DD cX12_loadDate 0 (.aload_n 0) 1 1 := ⟨by decide +kernel, rfl⟩
theorem dX12_loadDate_1 : DD cX12_loadDate 1 (.invokevirtual 426) 3 4 := ⟨by decide +kernel, rfl⟩
theorem dX12_loadDate_4 : DD cX12_loadDate 4 (.aload_n 0) 1 5 := ⟨by decide +kernel, rfl⟩
theorem dX12_loadDate_5 : DD cX12_loadDate 5 (.iload_n 1) 1 6 := ⟨by decide +kernel, rfl⟩
theorem dX12_loadDate_6 : DD cX12_loadDate 6 (.invokevirtual 429) 3 9 := ⟨by decide +kernel, rfl⟩
theorem dX12_loadDate_9 : DD cX12_loadDate 9 (.return_) 1 10 := ⟨by decide +kernel, rfl⟩
def fX12_loadDate (m : Mem) (x1 : Int32) : Option Mem := (cV (fX12_load m) fun m2 => (cV (fX12_layDate m2 x1) fun m4 => (some m4)))
set_option maxHeartbeats 4000000 in
set_option maxRecDepth 100000 in
theorem kX12_loadDate (l : Launch) (G : Gt) (hD : ∀ m, va_D (inA G nM) (wM G m)) (m : Mem) (x1 : Int32) : ∀ a, fX12_loadDate m x1 = some a → Ct l G wM nM yX12_loadDate cX12_loadDate 2 none 6 [.ref (G.2.2 0), .int x1] m (cvV a) := by
  refine ct_of (own := RX12) (ls0 := [some (.ref (G.2.2 0)), some (.int x1)]) (by decide) rfl rfl rfl (Nat.le_of_ble_eq_true rfl) hD (fun X h => ?_) l
  unfold fX12_loadDate
  refine j_aload_n h dX12_loadDate_0 rfl ?_
  refine j_callVV (q0 := 0) (ci := 12) h [] (kX12_load _ G h.2.2.2.2.2.2.2.2.2.2 m) okX12_load inX12_load ml12_426 rfl rfl rfl rfl (by decide) (by decide) (Nat.le_of_ble_eq_true rfl) rfl dX12_loadDate_1 (fun m2 hm2 => ?_)
  refine j_aload_n h dX12_loadDate_4 rfl ?_
  refine j_iload_n h dX12_loadDate_5 rfl ?_
  refine j_callVV (q0 := 0) (ci := 12) h [.int x1] (kX12_layDate _ G h.2.2.2.2.2.2.2.2.2.2 m2 x1) okX12_layDate inX12_layDate ml12_429 rfl rfl rfl rfl (by decide) (by decide) (Nat.le_of_ble_eq_true rfl) rfl dX12_loadDate_6 (fun m4 hm4 => ?_)
  exact j_vret h rfl dX12_loadDate_9
theorem dX12_isAwake_0 : DD cX12_isAwake 0 (.aload_n 0) 1 1 := ⟨by decide +kernel, rfl⟩
theorem dX12_isAwake_1 : DD cX12_isAwake 1 (.getfield 118) 3 4 := ⟨by decide +kernel, rfl⟩
theorem dX12_isAwake_4 : DD cX12_isAwake 4 (.aload_n 0) 1 5 := ⟨by decide +kernel, rfl⟩
theorem dX12_isAwake_5 : DD cX12_isAwake 5 (.getfield 115) 3 8 := ⟨by decide +kernel, rfl⟩
theorem dX12_isAwake_8 : DD cX12_isAwake 8 (.iload_n 1) 1 9 := ⟨by decide +kernel, rfl⟩
theorem dX12_isAwake_9 : DD cX12_isAwake 9 (.iaload) 1 10 := ⟨by decide +kernel, rfl⟩
theorem dX12_isAwake_10 : DD cX12_isAwake 10 (.iaload) 1 11 := ⟨by decide +kernel, rfl⟩
theorem dX12_isAwake_11 : DD cX12_isAwake 11 (.iload_n 2) 1 12 := ⟨by decide +kernel, rfl⟩
theorem dX12_isAwake_12 : DD cX12_isAwake 12 (.ishr) 1 13 := ⟨by decide +kernel, rfl⟩
theorem dX12_isAwake_13 : DD cX12_isAwake 13 (.iconst 1) 1 14 := ⟨by decide +kernel, rfl⟩
theorem dX12_isAwake_14 : DD cX12_isAwake 14 (.iand) 1 15 := ⟨by decide +kernel, rfl⟩
theorem dX12_isAwake_15 : DD cX12_isAwake 15 (.iconst 1) 1 16 := ⟨by decide +kernel, rfl⟩
theorem dX12_isAwake_16 : DD cX12_isAwake 16 (.if_icmp .ne 7) 3 19 := ⟨by decide +kernel, rfl⟩
theorem dX12_isAwake_19 : DD cX12_isAwake 19 (.iconst 1) 1 20 := ⟨by decide +kernel, rfl⟩
theorem dX12_isAwake_20 : DD cX12_isAwake 20 (.goto 4) 3 23 := ⟨by decide +kernel, rfl⟩
theorem dX12_isAwake_23 : DD cX12_isAwake 23 (.iconst 0) 1 24 := ⟨by decide +kernel, rfl⟩
theorem dX12_isAwake_24 : DD cX12_isAwake 24 (.ireturn) 1 25 := ⟨by decide +kernel, rfl⟩
def fX12_isAwake (m : Mem) (x1 : Int32) (x2 : Int32) : Option Int32 := (rd (m.1 34) 37 x1 fun v1 => (rd (m.1 35) 3 v1 fun v2 => (if ((v2 >>> (x2 &&& 31)) &&& (1 : Int32)) = (1 : Int32) then (some (1 : Int32)) else (some (0 : Int32)))))
set_option maxHeartbeats 4000000 in
set_option maxRecDepth 100000 in
theorem kX12_isAwake (l : Launch) (G : Gt) (hD : ∀ m, va_D (inA G nM) (wM G m)) (m : Mem) (x1 : Int32) (x2 : Int32) : ∀ a, fX12_isAwake m x1 x2 = some a → Ct l G wM nM yX12_isAwake cX12_isAwake 3 (some .boolean) 1 [.ref (G.2.2 0), .int x1, .int x2] m ((cvP m) a) := by
  refine ct_of (own := RX12) (ls0 := [some (.ref (G.2.2 0)), some (.int x1), some (.int x2)]) (by decide) rfl rfl rfl (Nat.le_of_ble_eq_true rfl) hD (fun X h => ?_) l
  unfold fX12_isAwake
  refine j_aload_n h dX12_isAwake_0 rfl ?_
  refine gM_57 h dX12_isAwake_1 ?_
  refine j_aload_n h dX12_isAwake_4 rfl ?_
  refine gM_56 h dX12_isAwake_5 ?_
  refine j_iload_n h dX12_isAwake_8 rfl ?_
  refine aM_34 h dX12_isAwake_9 (fun v1 hv1 => ?_)
  refine aM_35 h dX12_isAwake_10 (fun v2 hv2 => ?_)
  refine j_iload_n h dX12_isAwake_11 rfl ?_
  refine j_ishr h dX12_isAwake_12 ?_
  refine j_iconst (v := (1 : Int32)) h dX12_isAwake_13 kiconst_1 ?_
  refine j_iand h dX12_isAwake_14 ?_
  refine j_iconst (v := (1 : Int32)) h dX12_isAwake_15 kiconst_1 ?_
  refine j_icmp_ne (tgt := 23) h dX12_isAwake_16 (by decide) (fun c3 => ?_) (fun c3 => ?_)
  · refine j_iconst (v := (0 : Int32)) h dX12_isAwake_23 kiconst_0 ?_
    exact j_zretB h rfl rfl dX12_isAwake_24
  · refine j_iconst (v := (1 : Int32)) h dX12_isAwake_19 kiconst_1 ?_
    refine j_goto (tgt := 24) h dX12_isAwake_20 (by decide) ?_
    exact j_zretB h rfl rfl dX12_isAwake_24
theorem dX12_harmBy_0 : DD cX12_harmBy 0 (.aload_n 0) 1 1 := ⟨by decide +kernel, rfl⟩
theorem dX12_harmBy_1 : DD cX12_harmBy 1 (.getfield 103) 3 4 := ⟨by decide +kernel, rfl⟩
theorem dX12_harmBy_4 : DD cX12_harmBy 4 (.iload_n 1) 1 5 := ⟨by decide +kernel, rfl⟩
theorem dX12_harmBy_5 : DD cX12_harmBy 5 (.iaload) 1 6 := ⟨by decide +kernel, rfl⟩
theorem dX12_harmBy_6 : DD cX12_harmBy 6 (.istore_n 3) 1 7 := ⟨by decide +kernel, rfl⟩
theorem dX12_harmBy_7 : DD cX12_harmBy 7 (.iload_n 3) 1 8 := ⟨by decide +kernel, rfl⟩
theorem dX12_harmBy_8 : DD cX12_harmBy 8 (.iload_n 2) 1 9 := ⟨by decide +kernel, rfl⟩
theorem dX12_harmBy_9 : DD cX12_harmBy 9 (.if_icmp .eq 46) 3 12 := ⟨by decide +kernel, rfl⟩
theorem dX12_harmBy_12 : DD cX12_harmBy 12 (.aload_n 0) 1 13 := ⟨by decide +kernel, rfl⟩
theorem dX12_harmBy_13 : DD cX12_harmBy 13 (.getfield 115) 3 16 := ⟨by decide +kernel, rfl⟩
theorem dX12_harmBy_16 : DD cX12_harmBy 16 (.bipush 34) 2 18 := ⟨by decide +kernel, rfl⟩
theorem dX12_harmBy_18 : DD cX12_harmBy 18 (.iaload) 1 19 := ⟨by decide +kernel, rfl⟩
theorem dX12_harmBy_19 : DD cX12_harmBy 19 (.iload_n 3) 1 20 := ⟨by decide +kernel, rfl⟩
theorem dX12_harmBy_20 : DD cX12_harmBy 20 (.ishr) 1 21 := ⟨by decide +kernel, rfl⟩
theorem dX12_harmBy_21 : DD cX12_harmBy 21 (.iconst 1) 1 22 := ⟨by decide +kernel, rfl⟩
theorem dX12_harmBy_22 : DD cX12_harmBy 22 (.iand) 1 23 := ⟨by decide +kernel, rfl⟩
theorem dX12_harmBy_23 : DD cX12_harmBy 23 (.iconst 1) 1 24 := ⟨by decide +kernel, rfl⟩
theorem dX12_harmBy_24 : DD cX12_harmBy 24 (.if_icmp .eq 31) 3 27 := ⟨by decide +kernel, rfl⟩
theorem dX12_harmBy_27 : DD cX12_harmBy 27 (.aload_n 0) 1 28 := ⟨by decide +kernel, rfl⟩
theorem dX12_harmBy_28 : DD cX12_harmBy 28 (.iload_n 3) 1 29 := ⟨by decide +kernel, rfl⟩
theorem dX12_harmBy_29 : DD cX12_harmBy 29 (.aload_n 0) 1 30 := ⟨by decide +kernel, rfl⟩
theorem dX12_harmBy_30 : DD cX12_harmBy 30 (.getfield 106) 3 33 := ⟨by decide +kernel, rfl⟩
theorem dX12_harmBy_33 : DD cX12_harmBy 33 (.iload_n 1) 1 34 := ⟨by decide +kernel, rfl⟩
theorem dX12_harmBy_34 : DD cX12_harmBy 34 (.iaload) 1 35 := ⟨by decide +kernel, rfl⟩
theorem dX12_harmBy_35 : DD cX12_harmBy 35 (.invokevirtual 432) 3 38 := ⟨by decide +kernel, rfl⟩
theorem dX12_harmBy_38 : DD cX12_harmBy 38 (.ifCond .eq 17) 3 41 := ⟨by decide +kernel, rfl⟩
theorem dX12_harmBy_41 : DD cX12_harmBy 41 (.aload_n 0) 1 42 := ⟨by decide +kernel, rfl⟩
theorem dX12_harmBy_42 : DD cX12_harmBy 42 (.iload_n 2) 1 43 := ⟨by decide +kernel, rfl⟩
theorem dX12_harmBy_43 : DD cX12_harmBy 43 (.aload_n 0) 1 44 := ⟨by decide +kernel, rfl⟩
theorem dX12_harmBy_44 : DD cX12_harmBy 44 (.getfield 106) 3 47 := ⟨by decide +kernel, rfl⟩
theorem dX12_harmBy_47 : DD cX12_harmBy 47 (.iload_n 1) 1 48 := ⟨by decide +kernel, rfl⟩
theorem dX12_harmBy_48 : DD cX12_harmBy 48 (.iaload) 1 49 := ⟨by decide +kernel, rfl⟩
theorem dX12_harmBy_49 : DD cX12_harmBy 49 (.invokevirtual 432) 3 52 := ⟨by decide +kernel, rfl⟩
theorem dX12_harmBy_52 : DD cX12_harmBy 52 (.ifCond .eq 7) 3 55 := ⟨by decide +kernel, rfl⟩
theorem dX12_harmBy_55 : DD cX12_harmBy 55 (.iconst 0) 1 56 := ⟨by decide +kernel, rfl⟩
theorem dX12_harmBy_56 : DD cX12_harmBy 56 (.goto 14) 3 59 := ⟨by decide +kernel, rfl⟩
theorem dX12_harmBy_59 : DD cX12_harmBy 59 (.aload_n 0) 1 60 := ⟨by decide +kernel, rfl⟩
theorem dX12_harmBy_60 : DD cX12_harmBy 60 (.getfield 121) 3 63 := ⟨by decide +kernel, rfl⟩
theorem dX12_harmBy_63 : DD cX12_harmBy 63 (.bipush 7) 2 65 := ⟨by decide +kernel, rfl⟩
theorem dX12_harmBy_65 : DD cX12_harmBy 65 (.iload_n 1) 1 66 := ⟨by decide +kernel, rfl⟩
theorem dX12_harmBy_66 : DD cX12_harmBy 66 (.imul) 1 67 := ⟨by decide +kernel, rfl⟩
theorem dX12_harmBy_67 : DD cX12_harmBy 67 (.iload_n 2) 1 68 := ⟨by decide +kernel, rfl⟩
theorem dX12_harmBy_68 : DD cX12_harmBy 68 (.iadd) 1 69 := ⟨by decide +kernel, rfl⟩
theorem dX12_harmBy_69 : DD cX12_harmBy 69 (.iaload) 1 70 := ⟨by decide +kernel, rfl⟩
theorem dX12_harmBy_70 : DD cX12_harmBy 70 (.ireturn) 1 71 := ⟨by decide +kernel, rfl⟩
def fX12_harmBy (m : Mem) (x1 : Int32) (x2 : Int32) : Option Int32 := (rd (m.1 30) 8 x1 fun v1 => (if v1 = x2 then (some (0 : Int32)) else (rd (m.1 34) 37 (34 : Int32) fun v3 => (if ((v3 >>> (v1 &&& 31)) &&& (1 : Int32)) = (1 : Int32) then (some (0 : Int32)) else (rd (m.1 31) 8 x1 fun v5 => (cP (fX12_isAwake m v1 v5) fun r6 => (if r6 = 0 then (some (0 : Int32)) else (rd (m.1 31) 8 x1 fun v9 => (cP (fX12_isAwake m x2 v9) fun r10 => (if r10 = 0 then (rd (m.1 36) 56 (((7 : Int32) * x1) + x2) fun v13 => (some v13)) else (some (0 : Int32))))))))))))
set_option maxHeartbeats 4000000 in
set_option maxRecDepth 100000 in
theorem kX12_harmBy (l : Launch) (G : Gt) (hD : ∀ m, va_D (inA G nM) (wM G m)) (m : Mem) (x1 : Int32) (x2 : Int32) : ∀ a, fX12_harmBy m x1 x2 = some a → Ct l G wM nM yX12_harmBy cX12_harmBy 4 (some .int) 2 [.ref (G.2.2 0), .int x1, .int x2] m ((cvP m) a) := by
  refine ct_of (own := RX12) (ls0 := [some (.ref (G.2.2 0)), some (.int x1), some (.int x2), none]) (by decide) rfl rfl rfl (Nat.le_of_ble_eq_true rfl) hD (fun X h => ?_) l
  unfold fX12_harmBy
  refine j_aload_n h dX12_harmBy_0 rfl ?_
  refine gM_44 h dX12_harmBy_1 ?_
  refine j_iload_n h dX12_harmBy_4 rfl ?_
  refine aM_30 h dX12_harmBy_5 (fun v1 hv1 => ?_)
  refine j_istore_n h dX12_harmBy_6 rfl rfl ?_
  refine j_iload_n h dX12_harmBy_7 rfl ?_
  refine j_iload_n h dX12_harmBy_8 rfl ?_
  refine j_icmp_eq (tgt := 55) h dX12_harmBy_9 (by decide) (fun c2 => ?_) (fun c2 => ?_)
  · refine j_iconst (v := (0 : Int32)) h dX12_harmBy_55 kiconst_0 ?_
    refine j_goto (tgt := 70) h dX12_harmBy_56 (by decide) ?_
    exact j_iret h rfl dX12_harmBy_70
  · refine j_aload_n h dX12_harmBy_12 rfl ?_
    refine gM_56 h dX12_harmBy_13 ?_
    refine j_bipush (v := (34 : Int32)) h dX12_harmBy_16 kbipush_34 ?_
    refine aM_34 h dX12_harmBy_18 (fun v3 hv3 => ?_)
    refine j_iload_n h dX12_harmBy_19 rfl ?_
    refine j_ishr h dX12_harmBy_20 ?_
    refine j_iconst (v := (1 : Int32)) h dX12_harmBy_21 kiconst_1 ?_
    refine j_iand h dX12_harmBy_22 ?_
    refine j_iconst (v := (1 : Int32)) h dX12_harmBy_23 kiconst_1 ?_
    refine j_icmp_eq (tgt := 55) h dX12_harmBy_24 (by decide) (fun c4 => ?_) (fun c4 => ?_)
    · refine j_iconst (v := (0 : Int32)) h dX12_harmBy_55 kiconst_0 ?_
      refine j_goto (tgt := 70) h dX12_harmBy_56 (by decide) ?_
      exact j_iret h rfl dX12_harmBy_70
    · refine j_aload_n h dX12_harmBy_27 rfl ?_
      refine j_iload_n h dX12_harmBy_28 rfl ?_
      refine j_aload_n h dX12_harmBy_29 rfl ?_
      refine gM_45 h dX12_harmBy_30 ?_
      refine j_iload_n h dX12_harmBy_33 rfl ?_
      refine aM_31 h dX12_harmBy_34 (fun v5 hv5 => ?_)
      refine j_callVP (q0 := 0) (ci := 12) h [.int v1, .int v5] (kX12_isAwake _ G h.2.2.2.2.2.2.2.2.2.2 m v1 v5) okX12_isAwake inX12_isAwake ml12_432 rfl rfl rfl rfl (by decide) (by decide) (Nat.le_of_ble_eq_true rfl) rfl dX12_harmBy_35 (fun r6 hr6 => ?_)
      refine j_if_eq (tgt := 55) h dX12_harmBy_38 (by decide) (fun c8 => ?_) (fun c8 => ?_)
      · refine j_iconst (v := (0 : Int32)) h dX12_harmBy_55 kiconst_0 ?_
        refine j_goto (tgt := 70) h dX12_harmBy_56 (by decide) ?_
        exact j_iret h rfl dX12_harmBy_70
      · refine j_aload_n h dX12_harmBy_41 rfl ?_
        refine j_iload_n h dX12_harmBy_42 rfl ?_
        refine j_aload_n h dX12_harmBy_43 rfl ?_
        refine gM_45 h dX12_harmBy_44 ?_
        refine j_iload_n h dX12_harmBy_47 rfl ?_
        refine aM_31 h dX12_harmBy_48 (fun v9 hv9 => ?_)
        refine j_callVP (q0 := 0) (ci := 12) h [.int x2, .int v9] (kX12_isAwake _ G h.2.2.2.2.2.2.2.2.2.2 m x2 v9) okX12_isAwake inX12_isAwake ml12_432 rfl rfl rfl rfl (by decide) (by decide) (Nat.le_of_ble_eq_true rfl) rfl dX12_harmBy_49 (fun r10 hr10 => ?_)
        refine j_if_eq (tgt := 59) h dX12_harmBy_52 (by decide) (fun c12 => ?_) (fun c12 => ?_)
        · refine j_aload_n h dX12_harmBy_59 rfl ?_
          refine gM_58 h dX12_harmBy_60 ?_
          refine j_bipush (v := (7 : Int32)) h dX12_harmBy_63 kbipush_7 ?_
          refine j_iload_n h dX12_harmBy_65 rfl ?_
          refine j_imul h dX12_harmBy_66 ?_
          refine j_iload_n h dX12_harmBy_67 rfl ?_
          refine j_iadd h dX12_harmBy_68 ?_
          refine aM_36 h dX12_harmBy_69 (fun v13 hv13 => ?_)
          exact j_iret h rfl dX12_harmBy_70
        · refine j_iconst (v := (0 : Int32)) h dX12_harmBy_55 kiconst_0 ?_
          refine j_goto (tgt := 70) h dX12_harmBy_56 (by decide) ?_
          exact j_iret h rfl dX12_harmBy_70
theorem dX12_harmAt_0 : DD cX12_harmAt 0 (.iconst 0) 1 1 := ⟨by decide +kernel, rfl⟩
theorem dX12_harmAt_1 : DD cX12_harmAt 1 (.istore_n 3) 1 2 := ⟨by decide +kernel, rfl⟩
theorem dX12_harmAt_2 : DD cX12_harmAt 2 (.iconst 0) 1 3 := ⟨by decide +kernel, rfl⟩
theorem dX12_harmAt_3 : DD cX12_harmAt 3 (.istore 4) 2 5 := ⟨by decide +kernel, rfl⟩
theorem dX12_harmAt_5 : DD cX12_harmAt 5 (.iload 4) 2 7 := ⟨by decide +kernel, rfl⟩
theorem dX12_harmAt_7 : DD cX12_harmAt 7 (.aload_n 0) 1 8 := ⟨by decide +kernel, rfl⟩
theorem dX12_harmAt_8 : DD cX12_harmAt 8 (.getfield 384) 3 11 := ⟨by decide +kernel, rfl⟩
theorem dX12_harmAt_11 : DD cX12_harmAt 11 (.if_icmp .ge 34) 3 14 := ⟨by decide +kernel, rfl⟩
theorem dX12_harmAt_14 : DD cX12_harmAt 14 (.iload_n 3) 1 15 := ⟨by decide +kernel, rfl⟩
theorem dX12_harmAt_15 : DD cX12_harmAt 15 (.aload_n 0) 1 16 := ⟨by decide +kernel, rfl⟩
theorem dX12_harmAt_16 : DD cX12_harmAt 16 (.getfield 106) 3 19 := ⟨by decide +kernel, rfl⟩
theorem dX12_harmAt_19 : DD cX12_harmAt 19 (.iload 4) 2 21 := ⟨by decide +kernel, rfl⟩
theorem dX12_harmAt_21 : DD cX12_harmAt 21 (.iaload) 1 22 := ⟨by decide +kernel, rfl⟩
theorem dX12_harmAt_22 : DD cX12_harmAt 22 (.iload_n 2) 1 23 := ⟨by decide +kernel, rfl⟩
theorem dX12_harmAt_23 : DD cX12_harmAt 23 (.if_icmp .ne 13) 3 26 := ⟨by decide +kernel, rfl⟩
theorem dX12_harmAt_26 : DD cX12_harmAt 26 (.aload_n 0) 1 27 := ⟨by decide +kernel, rfl⟩
theorem dX12_harmAt_27 : DD cX12_harmAt 27 (.iload 4) 2 29 := ⟨by decide +kernel, rfl⟩
theorem dX12_harmAt_29 : DD cX12_harmAt 29 (.iload_n 1) 1 30 := ⟨by decide +kernel, rfl⟩
theorem dX12_harmAt_30 : DD cX12_harmAt 30 (.invokevirtual 435) 3 33 := ⟨by decide +kernel, rfl⟩
theorem dX12_harmAt_33 : DD cX12_harmAt 33 (.goto 4) 3 36 := ⟨by decide +kernel, rfl⟩
theorem dX12_harmAt_36 : DD cX12_harmAt 36 (.iconst 0) 1 37 := ⟨by decide +kernel, rfl⟩
theorem dX12_harmAt_37 : DD cX12_harmAt 37 (.iadd) 1 38 := ⟨by decide +kernel, rfl⟩
theorem dX12_harmAt_38 : DD cX12_harmAt 38 (.istore_n 3) 1 39 := ⟨by decide +kernel, rfl⟩
theorem dX12_harmAt_39 : DD cX12_harmAt 39 (.iinc 4 1) 3 42 := ⟨by decide +kernel, rfl⟩
theorem dX12_harmAt_42 : DD cX12_harmAt 42 (.goto (-37)) 3 45 := ⟨by decide +kernel, rfl⟩
theorem dX12_harmAt_45 : DD cX12_harmAt 45 (.iload_n 3) 1 46 := ⟨by decide +kernel, rfl⟩
theorem dX12_harmAt_46 : DD cX12_harmAt 46 (.ireturn) 1 47 := ⟨by decide +kernel, rfl⟩
def gX12_harmAt (m : Mem) : Nat → Int32 → Int32 → Int32 → Int32 → Option Int32
  | 0, _, _, _, _ => none
  | f + 1, x1, x2, x3, x4 => (if (m.1 0 53) ≤ x4 then (some x3) else (rd (m.1 31) 8 x4 fun v2 => (if v2 = x2 then (cP (fX12_harmBy m x4 x1) fun r5 => (nm (x3 + r5) fun v7 => (gX12_harmAt m f x1 x2 v7 (x4 + (1 : Int32))))) else (nm (x3 + (0 : Int32)) fun v4 => (gX12_harmAt m f x1 x2 v4 (x4 + (1 : Int32)))))))
def fX12_harmAt (m : Mem) (x1 : Int32) (x2 : Int32) : Option Int32 := (gX12_harmAt m 5000 x1 x2 (0 : Int32) (0 : Int32))
set_option maxHeartbeats 4000000 in
set_option maxRecDepth 100000 in
theorem wX12_harmAt {X : Cx} {G : Gt} (h : OkX (X, G, wM, nM) cX12_harmAt RX12 5 (some .int) 3) (m : Mem) : ∀ f : Nat, (∀ (x1 : Int32) (x2 : Int32) (x3 : Int32) (x4 : Int32), JR (X, G, wM, nM) (cvP m) m 5 [some (.ref (G.2.2 0)), some (.int x1), some (.int x2), some (.int x3), some (.int x4)] [] (gX12_harmAt m f x1 x2 x3 x4)) := by
  intro f
  induction f with
  | zero => exact (fun _ _ _ _ => j_none)
  | succ f ih =>
    intro x1 x2 x3 x4
    rw [gX12_harmAt]
    refine j_iload h dX12_harmAt_5 rfl ?_
    refine j_aload_n h dX12_harmAt_7 rfl ?_
    refine gM_53 h dX12_harmAt_8 ?_
    refine j_icmp_ge (tgt := 45) h dX12_harmAt_11 (by decide) (fun c1 => ?_) (fun c1 => ?_)
    · refine j_iload_n h dX12_harmAt_45 rfl ?_
      exact j_iret h rfl dX12_harmAt_46
    · refine j_iload_n h dX12_harmAt_14 rfl ?_
      refine j_aload_n h dX12_harmAt_15 rfl ?_
      refine gM_45 h dX12_harmAt_16 ?_
      refine j_iload h dX12_harmAt_19 rfl ?_
      refine aM_31 h dX12_harmAt_21 (fun v2 hv2 => ?_)
      refine j_iload_n h dX12_harmAt_22 rfl ?_
      refine j_icmp_ne (tgt := 36) h dX12_harmAt_23 (by decide) (fun c3 => ?_) (fun c3 => ?_)
      · refine j_iconst (v := (0 : Int32)) h dX12_harmAt_36 kiconst_0 ?_
        refine j_iadd h dX12_harmAt_37 ?_
        refine j_nm (fun v4 hv4 => ?_)
        refine j_istore_n h dX12_harmAt_38 rfl rfl ?_
        refine j_iinc (v := (x4 + (1 : Int32))) h dX12_harmAt_39 rfl (by rw [kiconst_1]) rfl ?_
        refine j_goto (tgt := 5) h dX12_harmAt_42 (by decide) ?_
        refine j_wk (ls' := [some (.ref (G.2.2 0)), some (.int x1), some (.int x2), some (.int v4), some (.int (x4 + (1 : Int32)))]) (And.intro rfl (And.intro rfl (And.intro rfl (And.intro rfl (And.intro rfl trivial))))) ?_
        exact ih x1 x2 v4 (x4 + (1 : Int32))
      · refine j_aload_n h dX12_harmAt_26 rfl ?_
        refine j_iload h dX12_harmAt_27 rfl ?_
        refine j_iload_n h dX12_harmAt_29 rfl ?_
        refine j_callVP (q0 := 0) (ci := 12) h [.int x4, .int x1] (kX12_harmBy _ G h.2.2.2.2.2.2.2.2.2.2 m x4 x1) okX12_harmBy inX12_harmBy ml12_435 rfl rfl rfl rfl (by decide) (by decide) (Nat.le_of_ble_eq_true rfl) rfl dX12_harmAt_30 (fun r5 hr5 => ?_)
        refine j_goto (tgt := 37) h dX12_harmAt_33 (by decide) ?_
        refine j_iadd h dX12_harmAt_37 ?_
        refine j_nm (fun v7 hv7 => ?_)
        refine j_istore_n h dX12_harmAt_38 rfl rfl ?_
        refine j_iinc (v := (x4 + (1 : Int32))) h dX12_harmAt_39 rfl (by rw [kiconst_1]) rfl ?_
        refine j_goto (tgt := 5) h dX12_harmAt_42 (by decide) ?_
        refine j_wk (ls' := [some (.ref (G.2.2 0)), some (.int x1), some (.int x2), some (.int v7), some (.int (x4 + (1 : Int32)))]) (And.intro rfl (And.intro rfl (And.intro rfl (And.intro rfl (And.intro rfl trivial))))) ?_
        exact ih x1 x2 v7 (x4 + (1 : Int32))
set_option maxHeartbeats 4000000 in
set_option maxRecDepth 100000 in
theorem kX12_harmAt (l : Launch) (G : Gt) (hD : ∀ m, va_D (inA G nM) (wM G m)) (m : Mem) (x1 : Int32) (x2 : Int32) : ∀ a, fX12_harmAt m x1 x2 = some a → Ct l G wM nM yX12_harmAt cX12_harmAt 5 (some .int) 3 [.ref (G.2.2 0), .int x1, .int x2] m ((cvP m) a) := by
  refine ct_of (own := RX12) (ls0 := [some (.ref (G.2.2 0)), some (.int x1), some (.int x2), none, none]) (by decide) rfl rfl rfl (Nat.le_of_ble_eq_true rfl) hD (fun X h => ?_) l
  unfold fX12_harmAt
  refine j_iconst (v := (0 : Int32)) h dX12_harmAt_0 kiconst_0 ?_
  refine j_istore_n h dX12_harmAt_1 rfl rfl ?_
  refine j_iconst (v := (0 : Int32)) h dX12_harmAt_2 kiconst_0 ?_
  refine j_istore h dX12_harmAt_3 rfl rfl ?_
  refine j_wk (ls' := [some (.ref (G.2.2 0)), some (.int x1), some (.int x2), some (.int (0 : Int32)), some (.int (0 : Int32))]) (And.intro rfl (And.intro rfl (And.intro rfl (And.intro rfl (And.intro rfl trivial))))) ?_
  exact (wX12_harmAt h m 5000) x1 x2 (0 : Int32) (0 : Int32)
theorem dX12_harmOf_0 : DD cX12_harmOf 0 (.iconst 0) 1 1 := ⟨by decide +kernel, rfl⟩
theorem dX12_harmOf_1 : DD cX12_harmOf 1 (.istore_n 2) 1 2 := ⟨by decide +kernel, rfl⟩
theorem dX12_harmOf_2 : DD cX12_harmOf 2 (.iconst 0) 1 3 := ⟨by decide +kernel, rfl⟩
theorem dX12_harmOf_3 : DD cX12_harmOf 3 (.istore_n 3) 1 4 := ⟨by decide +kernel, rfl⟩
theorem dX12_harmOf_4 : DD cX12_harmOf 4 (.iload_n 3) 1 5 := ⟨by decide +kernel, rfl⟩
theorem dX12_harmOf_5 : DD cX12_harmOf 5 (.aload_n 0) 1 6 := ⟨by decide +kernel, rfl⟩
theorem dX12_harmOf_6 : DD cX12_harmOf 6 (.getfield 384) 3 9 := ⟨by decide +kernel, rfl⟩
theorem dX12_harmOf_9 : DD cX12_harmOf 9 (.if_icmp .ge 18) 3 12 := ⟨by decide +kernel, rfl⟩
theorem dX12_harmOf_12 : DD cX12_harmOf 12 (.iload_n 2) 1 13 := ⟨by decide +kernel, rfl⟩
theorem dX12_harmOf_13 : DD cX12_harmOf 13 (.aload_n 0) 1 14 := ⟨by decide +kernel, rfl⟩
theorem dX12_harmOf_14 : DD cX12_harmOf 14 (.iload_n 3) 1 15 := ⟨by decide +kernel, rfl⟩
theorem dX12_harmOf_15 : DD cX12_harmOf 15 (.iload_n 1) 1 16 := ⟨by decide +kernel, rfl⟩
theorem dX12_harmOf_16 : DD cX12_harmOf 16 (.invokevirtual 435) 3 19 := ⟨by decide +kernel, rfl⟩
theorem dX12_harmOf_19 : DD cX12_harmOf 19 (.iadd) 1 20 := ⟨by decide +kernel, rfl⟩
theorem dX12_harmOf_20 : DD cX12_harmOf 20 (.istore_n 2) 1 21 := ⟨by decide +kernel, rfl⟩
theorem dX12_harmOf_21 : DD cX12_harmOf 21 (.iinc 3 1) 3 24 := ⟨by decide +kernel, rfl⟩
theorem dX12_harmOf_24 : DD cX12_harmOf 24 (.goto (-20)) 3 27 := ⟨by decide +kernel, rfl⟩
theorem dX12_harmOf_27 : DD cX12_harmOf 27 (.iload_n 2) 1 28 := ⟨by decide +kernel, rfl⟩
theorem dX12_harmOf_28 : DD cX12_harmOf 28 (.ireturn) 1 29 := ⟨by decide +kernel, rfl⟩
def gX12_harmOf (m : Mem) : Nat → Int32 → Int32 → Int32 → Option Int32
  | 0, _, _, _ => none
  | f + 1, x1, x2, x3 => (if (m.1 0 53) ≤ x3 then (some x2) else (cP (fX12_harmBy m x3 x1) fun r2 => (nm (x2 + r2) fun v4 => (gX12_harmOf m f x1 v4 (x3 + (1 : Int32))))))
def fX12_harmOf (m : Mem) (x1 : Int32) : Option Int32 := (gX12_harmOf m 5000 x1 (0 : Int32) (0 : Int32))
set_option maxHeartbeats 4000000 in
set_option maxRecDepth 100000 in
theorem wX12_harmOf {X : Cx} {G : Gt} (h : OkX (X, G, wM, nM) cX12_harmOf RX12 4 (some .int) 3) (m : Mem) : ∀ f : Nat, (∀ (x1 : Int32) (x2 : Int32) (x3 : Int32), JR (X, G, wM, nM) (cvP m) m 4 [some (.ref (G.2.2 0)), some (.int x1), some (.int x2), some (.int x3)] [] (gX12_harmOf m f x1 x2 x3)) := by
  intro f
  induction f with
  | zero => exact (fun _ _ _ => j_none)
  | succ f ih =>
    intro x1 x2 x3
    rw [gX12_harmOf]
    refine j_iload_n h dX12_harmOf_4 rfl ?_
    refine j_aload_n h dX12_harmOf_5 rfl ?_
    refine gM_53 h dX12_harmOf_6 ?_
    refine j_icmp_ge (tgt := 27) h dX12_harmOf_9 (by decide) (fun c1 => ?_) (fun c1 => ?_)
    · refine j_iload_n h dX12_harmOf_27 rfl ?_
      exact j_iret h rfl dX12_harmOf_28
    · refine j_iload_n h dX12_harmOf_12 rfl ?_
      refine j_aload_n h dX12_harmOf_13 rfl ?_
      refine j_iload_n h dX12_harmOf_14 rfl ?_
      refine j_iload_n h dX12_harmOf_15 rfl ?_
      refine j_callVP (q0 := 0) (ci := 12) h [.int x3, .int x1] (kX12_harmBy _ G h.2.2.2.2.2.2.2.2.2.2 m x3 x1) okX12_harmBy inX12_harmBy ml12_435 rfl rfl rfl rfl (by decide) (by decide) (Nat.le_of_ble_eq_true rfl) rfl dX12_harmOf_16 (fun r2 hr2 => ?_)
      refine j_iadd h dX12_harmOf_19 ?_
      refine j_nm (fun v4 hv4 => ?_)
      refine j_istore_n h dX12_harmOf_20 rfl rfl ?_
      refine j_iinc (v := (x3 + (1 : Int32))) h dX12_harmOf_21 rfl (by rw [kiconst_1]) rfl ?_
      refine j_goto (tgt := 4) h dX12_harmOf_24 (by decide) ?_
      refine j_wk (ls' := [some (.ref (G.2.2 0)), some (.int x1), some (.int v4), some (.int (x3 + (1 : Int32)))]) (And.intro rfl (And.intro rfl (And.intro rfl (And.intro rfl trivial)))) ?_
      exact ih x1 v4 (x3 + (1 : Int32))
set_option maxHeartbeats 4000000 in
set_option maxRecDepth 100000 in
theorem kX12_harmOf (l : Launch) (G : Gt) (hD : ∀ m, va_D (inA G nM) (wM G m)) (m : Mem) (x1 : Int32) : ∀ a, fX12_harmOf m x1 = some a → Ct l G wM nM yX12_harmOf cX12_harmOf 4 (some .int) 3 [.ref (G.2.2 0), .int x1] m ((cvP m) a) := by
  refine ct_of (own := RX12) (ls0 := [some (.ref (G.2.2 0)), some (.int x1), none, none]) (by decide) rfl rfl rfl (Nat.le_of_ble_eq_true rfl) hD (fun X h => ?_) l
  unfold fX12_harmOf
  refine j_iconst (v := (0 : Int32)) h dX12_harmOf_0 kiconst_0 ?_
  refine j_istore_n h dX12_harmOf_1 rfl rfl ?_
  refine j_iconst (v := (0 : Int32)) h dX12_harmOf_2 kiconst_0 ?_
  refine j_istore_n h dX12_harmOf_3 rfl rfl ?_
  refine j_wk (ls' := [some (.ref (G.2.2 0)), some (.int x1), some (.int (0 : Int32)), some (.int (0 : Int32))]) (And.intro rfl (And.intro rfl (And.intro rfl (And.intro rfl trivial)))) ?_
  exact (wX12_harmOf h m 5000) x1 (0 : Int32) (0 : Int32)
theorem dX12_allHarm_0 : DD cX12_allHarm 0 (.iconst 0) 1 1 := ⟨by decide +kernel, rfl⟩
theorem dX12_allHarm_1 : DD cX12_allHarm 1 (.istore_n 1) 1 2 := ⟨by decide +kernel, rfl⟩
theorem dX12_allHarm_2 : DD cX12_allHarm 2 (.iconst 0) 1 3 := ⟨by decide +kernel, rfl⟩
theorem dX12_allHarm_3 : DD cX12_allHarm 3 (.istore_n 2) 1 4 := ⟨by decide +kernel, rfl⟩
theorem dX12_allHarm_4 : DD cX12_allHarm 4 (.iload_n 2) 1 5 := ⟨by decide +kernel, rfl⟩
theorem dX12_allHarm_5 : DD cX12_allHarm 5 (.aload_n 0) 1 6 := ⟨by decide +kernel, rfl⟩
theorem dX12_allHarm_6 : DD cX12_allHarm 6 (.getfield 378) 3 9 := ⟨by decide +kernel, rfl⟩
theorem dX12_allHarm_9 : DD cX12_allHarm 9 (.if_icmp .ge 17) 3 12 := ⟨by decide +kernel, rfl⟩
theorem dX12_allHarm_12 : DD cX12_allHarm 12 (.iload_n 1) 1 13 := ⟨by decide +kernel, rfl⟩
theorem dX12_allHarm_13 : DD cX12_allHarm 13 (.aload_n 0) 1 14 := ⟨by decide +kernel, rfl⟩
theorem dX12_allHarm_14 : DD cX12_allHarm 14 (.iload_n 2) 1 15 := ⟨by decide +kernel, rfl⟩
theorem dX12_allHarm_15 : DD cX12_allHarm 15 (.invokevirtual 438) 3 18 := ⟨by decide +kernel, rfl⟩
theorem dX12_allHarm_18 : DD cX12_allHarm 18 (.iadd) 1 19 := ⟨by decide +kernel, rfl⟩
theorem dX12_allHarm_19 : DD cX12_allHarm 19 (.istore_n 1) 1 20 := ⟨by decide +kernel, rfl⟩
theorem dX12_allHarm_20 : DD cX12_allHarm 20 (.iinc 2 1) 3 23 := ⟨by decide +kernel, rfl⟩
theorem dX12_allHarm_23 : DD cX12_allHarm 23 (.goto (-19)) 3 26 := ⟨by decide +kernel, rfl⟩
theorem dX12_allHarm_26 : DD cX12_allHarm 26 (.iload_n 1) 1 27 := ⟨by decide +kernel, rfl⟩
theorem dX12_allHarm_27 : DD cX12_allHarm 27 (.ireturn) 1 28 := ⟨by decide +kernel, rfl⟩
def gX12_allHarm (m : Mem) : Nat → Int32 → Int32 → Option Int32
  | 0, _, _ => none
  | f + 1, x1, x2 => (if (m.1 0 51) ≤ x2 then (some x1) else (cP (fX12_harmOf m x2) fun r2 => (nm (x1 + r2) fun v4 => (gX12_allHarm m f v4 (x2 + (1 : Int32))))))
def fX12_allHarm (m : Mem) : Option Int32 := (gX12_allHarm m 5000 (0 : Int32) (0 : Int32))
set_option maxHeartbeats 4000000 in
set_option maxRecDepth 100000 in
theorem wX12_allHarm {X : Cx} {G : Gt} (h : OkX (X, G, wM, nM) cX12_allHarm RX12 3 (some .int) 4) (m : Mem) : ∀ f : Nat, (∀ (x1 : Int32) (x2 : Int32), JR (X, G, wM, nM) (cvP m) m 4 [some (.ref (G.2.2 0)), some (.int x1), some (.int x2)] [] (gX12_allHarm m f x1 x2)) := by
  intro f
  induction f with
  | zero => exact (fun _ _ => j_none)
  | succ f ih =>
    intro x1 x2
    rw [gX12_allHarm]
    refine j_iload_n h dX12_allHarm_4 rfl ?_
    refine j_aload_n h dX12_allHarm_5 rfl ?_
    refine gM_51 h dX12_allHarm_6 ?_
    refine j_icmp_ge (tgt := 26) h dX12_allHarm_9 (by decide) (fun c1 => ?_) (fun c1 => ?_)
    · refine j_iload_n h dX12_allHarm_26 rfl ?_
      exact j_iret h rfl dX12_allHarm_27
    · refine j_iload_n h dX12_allHarm_12 rfl ?_
      refine j_aload_n h dX12_allHarm_13 rfl ?_
      refine j_iload_n h dX12_allHarm_14 rfl ?_
      refine j_callVP (q0 := 0) (ci := 12) h [.int x2] (kX12_harmOf _ G h.2.2.2.2.2.2.2.2.2.2 m x2) okX12_harmOf inX12_harmOf ml12_438 rfl rfl rfl rfl (by decide) (by decide) (Nat.le_of_ble_eq_true rfl) rfl dX12_allHarm_15 (fun r2 hr2 => ?_)
      refine j_iadd h dX12_allHarm_18 ?_
      refine j_nm (fun v4 hv4 => ?_)
      refine j_istore_n h dX12_allHarm_19 rfl rfl ?_
      refine j_iinc (v := (x2 + (1 : Int32))) h dX12_allHarm_20 rfl (by rw [kiconst_1]) rfl ?_
      refine j_goto (tgt := 4) h dX12_allHarm_23 (by decide) ?_
      refine j_wk (ls' := [some (.ref (G.2.2 0)), some (.int v4), some (.int (x2 + (1 : Int32)))]) (And.intro rfl (And.intro rfl (And.intro rfl trivial))) ?_
      exact ih v4 (x2 + (1 : Int32))
set_option maxHeartbeats 4000000 in
set_option maxRecDepth 100000 in
theorem kX12_allHarm (l : Launch) (G : Gt) (hD : ∀ m, va_D (inA G nM) (wM G m)) (m : Mem) : ∀ a, fX12_allHarm m = some a → Ct l G wM nM yX12_allHarm cX12_allHarm 3 (some .int) 4 [.ref (G.2.2 0)] m ((cvP m) a) := by
  refine ct_of (own := RX12) (ls0 := [some (.ref (G.2.2 0)), none, none]) (by decide) rfl rfl rfl (Nat.le_of_ble_eq_true rfl) hD (fun X h => ?_) l
  unfold fX12_allHarm
  refine j_iconst (v := (0 : Int32)) h dX12_allHarm_0 kiconst_0 ?_
  refine j_istore_n h dX12_allHarm_1 rfl rfl ?_
  refine j_iconst (v := (0 : Int32)) h dX12_allHarm_2 kiconst_0 ?_
  refine j_istore_n h dX12_allHarm_3 rfl rfl ?_
  refine j_wk (ls' := [some (.ref (G.2.2 0)), some (.int (0 : Int32)), some (.int (0 : Int32))]) (And.intro rfl (And.intro rfl (And.intro rfl trivial))) ?_
  exact (wX12_allHarm h m 5000) (0 : Int32) (0 : Int32)
theorem dX12_members_0 : DD cX12_members 0 (.iconst 0) 1 1 := ⟨by decide +kernel, rfl⟩
theorem dX12_members_1 : DD cX12_members 1 (.istore_n 1) 1 2 := ⟨by decide +kernel, rfl⟩
theorem dX12_members_2 : DD cX12_members 2 (.iconst 0) 1 3 := ⟨by decide +kernel, rfl⟩
theorem dX12_members_3 : DD cX12_members 3 (.istore_n 2) 1 4 := ⟨by decide +kernel, rfl⟩
theorem dX12_members_4 : DD cX12_members 4 (.iload_n 2) 1 5 := ⟨by decide +kernel, rfl⟩
theorem dX12_members_5 : DD cX12_members 5 (.bipush 24) 2 7 := ⟨by decide +kernel, rfl⟩
theorem dX12_members_7 : DD cX12_members 7 (.if_icmp .ge 17) 3 10 := ⟨by decide +kernel, rfl⟩
theorem dX12_members_10 : DD cX12_members 10 (.iload_n 1) 1 11 := ⟨by decide +kernel, rfl⟩
theorem dX12_members_11 : DD cX12_members 11 (.iload_n 0) 1 12 := ⟨by decide +kernel, rfl⟩
theorem dX12_members_12 : DD cX12_members 12 (.iload_n 2) 1 13 := ⟨by decide +kernel, rfl⟩
theorem dX12_members_13 : DD cX12_members 13 (.ishr) 1 14 := ⟨by decide +kernel, rfl⟩
theorem dX12_members_14 : DD cX12_members 14 (.iconst 1) 1 15 := ⟨by decide +kernel, rfl⟩
theorem dX12_members_15 : DD cX12_members 15 (.iand) 1 16 := ⟨by decide +kernel, rfl⟩
theorem dX12_members_16 : DD cX12_members 16 (.iadd) 1 17 := ⟨by decide +kernel, rfl⟩
theorem dX12_members_17 : DD cX12_members 17 (.istore_n 1) 1 18 := ⟨by decide +kernel, rfl⟩
theorem dX12_members_18 : DD cX12_members 18 (.iinc 2 1) 3 21 := ⟨by decide +kernel, rfl⟩
theorem dX12_members_21 : DD cX12_members 21 (.goto (-17)) 3 24 := ⟨by decide +kernel, rfl⟩
theorem dX12_members_24 : DD cX12_members 24 (.iload_n 1) 1 25 := ⟨by decide +kernel, rfl⟩
theorem dX12_members_25 : DD cX12_members 25 (.ireturn) 1 26 := ⟨by decide +kernel, rfl⟩
def gX12_members : Nat → Int32 → Int32 → Int32 → Option Int32
  | 0, _, _, _ => none
  | f + 1, x0, x1, x2 => (if (24 : Int32) ≤ x2 then (some x1) else (nm (x1 + ((x0 >>> (x2 &&& 31)) &&& (1 : Int32))) fun v2 => (gX12_members f x0 v2 (x2 + (1 : Int32)))))
def fX12_members (x0 : Int32) : Option Int32 := (gX12_members 5000 x0 (0 : Int32) (0 : Int32))
set_option maxHeartbeats 4000000 in
set_option maxRecDepth 100000 in
theorem wX12_members {X : Cx} {G : Gt} (h : OkX (X, G, wM, nM) cX12_members RX12 3 (some .int) 1) (m : Mem) : ∀ f : Nat, (∀ (x0 : Int32) (x1 : Int32) (x2 : Int32), JR (X, G, wM, nM) (cvP m) m 4 [some (.int x0), some (.int x1), some (.int x2)] [] (gX12_members f x0 x1 x2)) := by
  intro f
  induction f with
  | zero => exact (fun _ _ _ => j_none)
  | succ f ih =>
    intro x0 x1 x2
    rw [gX12_members]
    refine j_iload_n h dX12_members_4 rfl ?_
    refine j_bipush (v := (24 : Int32)) h dX12_members_5 kbipush_24 ?_
    refine j_icmp_ge (tgt := 24) h dX12_members_7 (by decide) (fun c1 => ?_) (fun c1 => ?_)
    · refine j_iload_n h dX12_members_24 rfl ?_
      exact j_iret h rfl dX12_members_25
    · refine j_iload_n h dX12_members_10 rfl ?_
      refine j_iload_n h dX12_members_11 rfl ?_
      refine j_iload_n h dX12_members_12 rfl ?_
      refine j_ishr h dX12_members_13 ?_
      refine j_iconst (v := (1 : Int32)) h dX12_members_14 kiconst_1 ?_
      refine j_iand h dX12_members_15 ?_
      refine j_iadd h dX12_members_16 ?_
      refine j_nm (fun v2 hv2 => ?_)
      refine j_istore_n h dX12_members_17 rfl rfl ?_
      refine j_iinc (v := (x2 + (1 : Int32))) h dX12_members_18 rfl (by rw [kiconst_1]) rfl ?_
      refine j_goto (tgt := 4) h dX12_members_21 (by decide) ?_
      refine j_wk (ls' := [some (.int x0), some (.int v2), some (.int (x2 + (1 : Int32)))]) (And.intro rfl (And.intro rfl (And.intro rfl trivial))) ?_
      exact ih x0 v2 (x2 + (1 : Int32))
set_option maxHeartbeats 4000000 in
set_option maxRecDepth 100000 in
theorem kX12_members (l : Launch) (G : Gt) (hD : ∀ m, va_D (inA G nM) (wM G m)) (m : Mem) (x0 : Int32) : ∀ a, fX12_members x0 = some a → Ct l G wM nM yX12_members cX12_members 3 (some .int) 1 [.int x0] m ((cvP m) a) := by
  refine ct_of (own := RX12) (ls0 := [some (.int x0), none, none]) (by decide) rfl rfl rfl (Nat.le_of_ble_eq_true rfl) hD (fun X h => ?_) l
  unfold fX12_members
  refine j_iconst (v := (0 : Int32)) h dX12_members_0 kiconst_0 ?_
  refine j_istore_n h dX12_members_1 rfl rfl ?_
  refine j_iconst (v := (0 : Int32)) h dX12_members_2 kiconst_0 ?_
  refine j_istore_n h dX12_members_3 rfl rfl ?_
  refine j_wk (ls' := [some (.int x0), some (.int (0 : Int32)), some (.int (0 : Int32))]) (And.intro rfl (And.intro rfl (And.intro rfl trivial))) ?_
  exact (wX12_members h m 5000) x0 (0 : Int32) (0 : Int32)
theorem dX12_commonOf_0 : DD cX12_commonOf 0 (.aload_n 0) 1 1 := ⟨by decide +kernel, rfl⟩
theorem dX12_commonOf_1 : DD cX12_commonOf 1 (.getfield 118) 3 4 := ⟨by decide +kernel, rfl⟩
theorem dX12_commonOf_4 : DD cX12_commonOf 4 (.aload_n 0) 1 5 := ⟨by decide +kernel, rfl⟩
theorem dX12_commonOf_5 : DD cX12_commonOf 5 (.getfield 115) 3 8 := ⟨by decide +kernel, rfl⟩
theorem dX12_commonOf_8 : DD cX12_commonOf 8 (.iload_n 1) 1 9 := ⟨by decide +kernel, rfl⟩
theorem dX12_commonOf_9 : DD cX12_commonOf 9 (.iaload) 1 10 := ⟨by decide +kernel, rfl⟩
theorem dX12_commonOf_10 : DD cX12_commonOf 10 (.iaload) 1 11 := ⟨by decide +kernel, rfl⟩
theorem dX12_commonOf_11 : DD cX12_commonOf 11 (.aload_n 0) 1 12 := ⟨by decide +kernel, rfl⟩
theorem dX12_commonOf_12 : DD cX12_commonOf 12 (.getfield 118) 3 15 := ⟨by decide +kernel, rfl⟩
theorem dX12_commonOf_15 : DD cX12_commonOf 15 (.aload_n 0) 1 16 := ⟨by decide +kernel, rfl⟩
theorem dX12_commonOf_16 : DD cX12_commonOf 16 (.getfield 115) 3 19 := ⟨by decide +kernel, rfl⟩
theorem dX12_commonOf_19 : DD cX12_commonOf 19 (.iload_n 2) 1 20 := ⟨by decide +kernel, rfl⟩
theorem dX12_commonOf_20 : DD cX12_commonOf 20 (.iaload) 1 21 := ⟨by decide +kernel, rfl⟩
theorem dX12_commonOf_21 : DD cX12_commonOf 21 (.iaload) 1 22 := ⟨by decide +kernel, rfl⟩
theorem dX12_commonOf_22 : DD cX12_commonOf 22 (.iand) 1 23 := ⟨by decide +kernel, rfl⟩
theorem dX12_commonOf_23 : DD cX12_commonOf 23 (.invokestatic 441) 3 26 := ⟨by decide +kernel, rfl⟩
theorem dX12_commonOf_26 : DD cX12_commonOf 26 (.ireturn) 1 27 := ⟨by decide +kernel, rfl⟩
def fX12_commonOf (m : Mem) (x1 : Int32) (x2 : Int32) : Option Int32 := (rd (m.1 34) 37 x1 fun v1 => (rd (m.1 35) 3 v1 fun v2 => (rd (m.1 34) 37 x2 fun v3 => (rd (m.1 35) 3 v3 fun v4 => (cP (fX12_members (v2 &&& v4)) fun r5 => (some r5))))))
set_option maxHeartbeats 4000000 in
set_option maxRecDepth 100000 in
theorem kX12_commonOf (l : Launch) (G : Gt) (hD : ∀ m, va_D (inA G nM) (wM G m)) (m : Mem) (x1 : Int32) (x2 : Int32) : ∀ a, fX12_commonOf m x1 x2 = some a → Ct l G wM nM yX12_commonOf cX12_commonOf 3 (some .int) 2 [.ref (G.2.2 0), .int x1, .int x2] m ((cvP m) a) := by
  refine ct_of (own := RX12) (ls0 := [some (.ref (G.2.2 0)), some (.int x1), some (.int x2)]) (by decide) rfl rfl rfl (Nat.le_of_ble_eq_true rfl) hD (fun X h => ?_) l
  unfold fX12_commonOf
  refine j_aload_n h dX12_commonOf_0 rfl ?_
  refine gM_57 h dX12_commonOf_1 ?_
  refine j_aload_n h dX12_commonOf_4 rfl ?_
  refine gM_56 h dX12_commonOf_5 ?_
  refine j_iload_n h dX12_commonOf_8 rfl ?_
  refine aM_34 h dX12_commonOf_9 (fun v1 hv1 => ?_)
  refine aM_35 h dX12_commonOf_10 (fun v2 hv2 => ?_)
  refine j_aload_n h dX12_commonOf_11 rfl ?_
  refine gM_57 h dX12_commonOf_12 ?_
  refine j_aload_n h dX12_commonOf_15 rfl ?_
  refine gM_56 h dX12_commonOf_16 ?_
  refine j_iload_n h dX12_commonOf_19 rfl ?_
  refine aM_34 h dX12_commonOf_20 (fun v3 hv3 => ?_)
  refine aM_35 h dX12_commonOf_21 (fun v4 hv4 => ?_)
  refine j_iand h dX12_commonOf_22 ?_
  refine j_callSP h [.int (v2 &&& v4)] (kX12_members _ G h.2.2.2.2.2.2.2.2.2.2 m (v2 &&& v4)) okX12_members stX12_members ml12_441 rfl rfl (by decide) (by decide) (Nat.le_of_ble_eq_true rfl) rfl dX12_commonOf_23 (fun r5 hr5 => ?_)
  exact j_iret h rfl dX12_commonOf_26
theorem dX12_canMeet_0 : DD cX12_canMeet 0 (.aload_n 0) 1 1 := ⟨by decide +kernel, rfl⟩
theorem dX12_canMeet_1 : DD cX12_canMeet 1 (.aload_n 0) 1 2 := ⟨by decide +kernel, rfl⟩
theorem dX12_canMeet_2 : DD cX12_canMeet 2 (.getfield 82) 3 5 := ⟨by decide +kernel, rfl⟩
theorem dX12_canMeet_5 : DD cX12_canMeet 5 (.iload_n 1) 1 6 := ⟨by decide +kernel, rfl⟩
theorem dX12_canMeet_6 : DD cX12_canMeet 6 (.iaload) 1 7 := ⟨by decide +kernel, rfl⟩
theorem dX12_canMeet_7 : DD cX12_canMeet 7 (.aload_n 0) 1 8 := ⟨by decide +kernel, rfl⟩
theorem dX12_canMeet_8 : DD cX12_canMeet 8 (.getfield 85) 3 11 := ⟨by decide +kernel, rfl⟩
theorem dX12_canMeet_11 : DD cX12_canMeet 11 (.iload_n 1) 1 12 := ⟨by decide +kernel, rfl⟩
theorem dX12_canMeet_12 : DD cX12_canMeet 12 (.iaload) 1 13 := ⟨by decide +kernel, rfl⟩
theorem dX12_canMeet_13 : DD cX12_canMeet 13 (.invokevirtual 444) 3 16 := ⟨by decide +kernel, rfl⟩
theorem dX12_canMeet_16 : DD cX12_canMeet 16 (.aload_n 0) 1 17 := ⟨by decide +kernel, rfl⟩
theorem dX12_canMeet_17 : DD cX12_canMeet 17 (.getfield 88) 3 20 := ⟨by decide +kernel, rfl⟩
theorem dX12_canMeet_20 : DD cX12_canMeet 20 (.iload_n 1) 1 21 := ⟨by decide +kernel, rfl⟩
theorem dX12_canMeet_21 : DD cX12_canMeet 21 (.iaload) 1 22 := ⟨by decide +kernel, rfl⟩
theorem dX12_canMeet_22 : DD cX12_canMeet 22 (.if_icmp .lt 7) 3 25 := ⟨by decide +kernel, rfl⟩
theorem dX12_canMeet_25 : DD cX12_canMeet 25 (.iconst 1) 1 26 := ⟨by decide +kernel, rfl⟩
theorem dX12_canMeet_26 : DD cX12_canMeet 26 (.goto 4) 3 29 := ⟨by decide +kernel, rfl⟩
theorem dX12_canMeet_29 : DD cX12_canMeet 29 (.iconst 0) 1 30 := ⟨by decide +kernel, rfl⟩
theorem dX12_canMeet_30 : DD cX12_canMeet 30 (.ireturn) 1 31 := ⟨by decide +kernel, rfl⟩
def fX12_canMeet (m : Mem) (x1 : Int32) : Option Int32 := (rd (m.1 23) 10 x1 fun v1 => (rd (m.1 24) 10 x1 fun v2 => (cP (fX12_commonOf m v1 v2) fun r3 => (rd (m.1 25) 10 x1 fun v5 => (if r3 < v5 then (some (0 : Int32)) else (some (1 : Int32)))))))
set_option maxHeartbeats 4000000 in
set_option maxRecDepth 100000 in
theorem kX12_canMeet (l : Launch) (G : Gt) (hD : ∀ m, va_D (inA G nM) (wM G m)) (m : Mem) (x1 : Int32) : ∀ a, fX12_canMeet m x1 = some a → Ct l G wM nM yX12_canMeet cX12_canMeet 2 (some .boolean) 3 [.ref (G.2.2 0), .int x1] m ((cvP m) a) := by
  refine ct_of (own := RX12) (ls0 := [some (.ref (G.2.2 0)), some (.int x1)]) (by decide) rfl rfl rfl (Nat.le_of_ble_eq_true rfl) hD (fun X h => ?_) l
  unfold fX12_canMeet
  refine j_aload_n h dX12_canMeet_0 rfl ?_
  refine j_aload_n h dX12_canMeet_1 rfl ?_
  refine gM_37 h dX12_canMeet_2 ?_
  refine j_iload_n h dX12_canMeet_5 rfl ?_
  refine aM_23 h dX12_canMeet_6 (fun v1 hv1 => ?_)
  refine j_aload_n h dX12_canMeet_7 rfl ?_
  refine gM_38 h dX12_canMeet_8 ?_
  refine j_iload_n h dX12_canMeet_11 rfl ?_
  refine aM_24 h dX12_canMeet_12 (fun v2 hv2 => ?_)
  refine j_callVP (q0 := 0) (ci := 12) h [.int v1, .int v2] (kX12_commonOf _ G h.2.2.2.2.2.2.2.2.2.2 m v1 v2) okX12_commonOf inX12_commonOf ml12_444 rfl rfl rfl rfl (by decide) (by decide) (Nat.le_of_ble_eq_true rfl) rfl dX12_canMeet_13 (fun r3 hr3 => ?_)
  refine j_aload_n h dX12_canMeet_16 rfl ?_
  refine gM_39 h dX12_canMeet_17 ?_
  refine j_iload_n h dX12_canMeet_20 rfl ?_
  refine aM_25 h dX12_canMeet_21 (fun v5 hv5 => ?_)
  refine j_icmp_lt (tgt := 29) h dX12_canMeet_22 (by decide) (fun c6 => ?_) (fun c6 => ?_)
  · refine j_iconst (v := (0 : Int32)) h dX12_canMeet_29 kiconst_0 ?_
    exact j_zretB h rfl rfl dX12_canMeet_30
  · refine j_iconst (v := (1 : Int32)) h dX12_canMeet_25 kiconst_1 ?_
    refine j_goto (tgt := 30) h dX12_canMeet_26 (by decide) ?_
    exact j_zretB h rfl rfl dX12_canMeet_30
theorem dX12_canSet_0 : DD cX12_canSet 0 (.iconst 0) 1 1 := ⟨by decide +kernel, rfl⟩
theorem dX12_canSet_1 : DD cX12_canSet 1 (.istore_n 1) 1 2 := ⟨by decide +kernel, rfl⟩
theorem dX12_canSet_2 : DD cX12_canSet 2 (.iconst 0) 1 3 := ⟨by decide +kernel, rfl⟩
theorem dX12_canSet_3 : DD cX12_canSet 3 (.istore_n 2) 1 4 := ⟨by decide +kernel, rfl⟩
theorem dX12_canSet_4 : DD cX12_canSet 4 (.iload_n 2) 1 5 := ⟨by decide +kernel, rfl⟩
theorem dX12_canSet_5 : DD cX12_canSet 5 (.aload_n 0) 1 6 := ⟨by decide +kernel, rfl⟩
theorem dX12_canSet_6 : DD cX12_canSet 6 (.getfield 381) 3 9 := ⟨by decide +kernel, rfl⟩
theorem dX12_canSet_9 : DD cX12_canSet 9 (.if_icmp .ge 22) 3 12 := ⟨by decide +kernel, rfl⟩
theorem dX12_canSet_12 : DD cX12_canSet 12 (.iload_n 1) 1 13 := ⟨by decide +kernel, rfl⟩
theorem dX12_canSet_13 : DD cX12_canSet 13 (.aload_n 0) 1 14 := ⟨by decide +kernel, rfl⟩
theorem dX12_canSet_14 : DD cX12_canSet 14 (.iload_n 2) 1 15 := ⟨by decide +kernel, rfl⟩
theorem dX12_canSet_15 : DD cX12_canSet 15 (.invokevirtual 447) 3 18 := ⟨by decide +kernel, rfl⟩
theorem dX12_canSet_18 : DD cX12_canSet 18 (.invokestatic 322) 3 21 := ⟨by decide +kernel, rfl⟩
theorem dX12_canSet_21 : DD cX12_canSet 21 (.iload_n 2) 1 22 := ⟨by decide +kernel, rfl⟩
theorem dX12_canSet_22 : DD cX12_canSet 22 (.ishl) 1 23 := ⟨by decide +kernel, rfl⟩
theorem dX12_canSet_23 : DD cX12_canSet 23 (.ior) 1 24 := ⟨by decide +kernel, rfl⟩
theorem dX12_canSet_24 : DD cX12_canSet 24 (.istore_n 1) 1 25 := ⟨by decide +kernel, rfl⟩
theorem dX12_canSet_25 : DD cX12_canSet 25 (.iinc 2 1) 3 28 := ⟨by decide +kernel, rfl⟩
theorem dX12_canSet_28 : DD cX12_canSet 28 (.goto (-24)) 3 31 := ⟨by decide +kernel, rfl⟩
theorem dX12_canSet_31 : DD cX12_canSet 31 (.iload_n 1) 1 32 := ⟨by decide +kernel, rfl⟩
theorem dX12_canSet_32 : DD cX12_canSet 32 (.ireturn) 1 33 := ⟨by decide +kernel, rfl⟩
def gX12_canSet (m : Mem) : Nat → Int32 → Int32 → Option Int32
  | 0, _, _ => none
  | f + 1, x1, x2 => (if (m.1 0 52) ≤ x2 then (some x1) else (cP (fX12_canMeet m x2) fun r2 => (cP (fX12_truth r2) fun r4 => (nm (x1 ||| (r4 <<< (x2 &&& 31))) fun v6 => (gX12_canSet m f v6 (x2 + (1 : Int32)))))))
def fX12_canSet (m : Mem) : Option Int32 := (gX12_canSet m 5000 (0 : Int32) (0 : Int32))
set_option maxHeartbeats 4000000 in
set_option maxRecDepth 100000 in
theorem wX12_canSet {X : Cx} {G : Gt} (h : OkX (X, G, wM, nM) cX12_canSet RX12 3 (some .int) 4) (m : Mem) : ∀ f : Nat, (∀ (x1 : Int32) (x2 : Int32), JR (X, G, wM, nM) (cvP m) m 4 [some (.ref (G.2.2 0)), some (.int x1), some (.int x2)] [] (gX12_canSet m f x1 x2)) := by
  intro f
  induction f with
  | zero => exact (fun _ _ => j_none)
  | succ f ih =>
    intro x1 x2
    rw [gX12_canSet]
    refine j_iload_n h dX12_canSet_4 rfl ?_
    refine j_aload_n h dX12_canSet_5 rfl ?_
    refine gM_52 h dX12_canSet_6 ?_
    refine j_icmp_ge (tgt := 31) h dX12_canSet_9 (by decide) (fun c1 => ?_) (fun c1 => ?_)
    · refine j_iload_n h dX12_canSet_31 rfl ?_
      exact j_iret h rfl dX12_canSet_32
    · refine j_iload_n h dX12_canSet_12 rfl ?_
      refine j_aload_n h dX12_canSet_13 rfl ?_
      refine j_iload_n h dX12_canSet_14 rfl ?_
      refine j_callVP (q0 := 0) (ci := 12) h [.int x2] (kX12_canMeet _ G h.2.2.2.2.2.2.2.2.2.2 m x2) okX12_canMeet inX12_canMeet ml12_447 rfl rfl rfl rfl (by decide) (by decide) (Nat.le_of_ble_eq_true rfl) rfl dX12_canSet_15 (fun r2 hr2 => ?_)
      refine j_callSP h [.int r2] (kX12_truth _ G h.2.2.2.2.2.2.2.2.2.2 m r2) okX12_truth stX12_truth ml12_322 rfl rfl (by decide) (by decide) (Nat.le_of_ble_eq_true rfl) rfl dX12_canSet_18 (fun r4 hr4 => ?_)
      refine j_iload_n h dX12_canSet_21 rfl ?_
      refine j_ishl h dX12_canSet_22 ?_
      refine j_ior h dX12_canSet_23 ?_
      refine j_nm (fun v6 hv6 => ?_)
      refine j_istore_n h dX12_canSet_24 rfl rfl ?_
      refine j_iinc (v := (x2 + (1 : Int32))) h dX12_canSet_25 rfl (by rw [kiconst_1]) rfl ?_
      refine j_goto (tgt := 4) h dX12_canSet_28 (by decide) ?_
      refine j_wk (ls' := [some (.ref (G.2.2 0)), some (.int v6), some (.int (x2 + (1 : Int32)))]) (And.intro rfl (And.intro rfl (And.intro rfl trivial))) ?_
      exact ih v6 (x2 + (1 : Int32))
set_option maxHeartbeats 4000000 in
set_option maxRecDepth 100000 in
theorem kX12_canSet (l : Launch) (G : Gt) (hD : ∀ m, va_D (inA G nM) (wM G m)) (m : Mem) : ∀ a, fX12_canSet m = some a → Ct l G wM nM yX12_canSet cX12_canSet 3 (some .int) 4 [.ref (G.2.2 0)] m ((cvP m) a) := by
  refine ct_of (own := RX12) (ls0 := [some (.ref (G.2.2 0)), none, none]) (by decide) rfl rfl rfl (Nat.le_of_ble_eq_true rfl) hD (fun X h => ?_) l
  unfold fX12_canSet
  refine j_iconst (v := (0 : Int32)) h dX12_canSet_0 kiconst_0 ?_
  refine j_istore_n h dX12_canSet_1 rfl rfl ?_
  refine j_iconst (v := (0 : Int32)) h dX12_canSet_2 kiconst_0 ?_
  refine j_istore_n h dX12_canSet_3 rfl rfl ?_
  refine j_wk (ls' := [some (.ref (G.2.2 0)), some (.int (0 : Int32)), some (.int (0 : Int32))]) (And.intro rfl (And.intro rfl (And.intro rfl trivial))) ?_
  exact (wX12_canSet h m 5000) (0 : Int32) (0 : Int32)
theorem dX12_awakeSet_0 : DD cX12_awakeSet 0 (.iconst 0) 1 1 := ⟨by decide +kernel, rfl⟩
theorem dX12_awakeSet_1 : DD cX12_awakeSet 1 (.istore_n 2) 1 2 := ⟨by decide +kernel, rfl⟩
theorem dX12_awakeSet_2 : DD cX12_awakeSet 2 (.iconst 0) 1 3 := ⟨by decide +kernel, rfl⟩
theorem dX12_awakeSet_3 : DD cX12_awakeSet 3 (.istore_n 3) 1 4 := ⟨by decide +kernel, rfl⟩
theorem dX12_awakeSet_4 : DD cX12_awakeSet 4 (.iload_n 3) 1 5 := ⟨by decide +kernel, rfl⟩
theorem dX12_awakeSet_5 : DD cX12_awakeSet 5 (.aload_n 0) 1 6 := ⟨by decide +kernel, rfl⟩
theorem dX12_awakeSet_6 : DD cX12_awakeSet 6 (.getfield 378) 3 9 := ⟨by decide +kernel, rfl⟩
theorem dX12_awakeSet_9 : DD cX12_awakeSet 9 (.if_icmp .ge 23) 3 12 := ⟨by decide +kernel, rfl⟩
theorem dX12_awakeSet_12 : DD cX12_awakeSet 12 (.iload_n 2) 1 13 := ⟨by decide +kernel, rfl⟩
theorem dX12_awakeSet_13 : DD cX12_awakeSet 13 (.aload_n 0) 1 14 := ⟨by decide +kernel, rfl⟩
theorem dX12_awakeSet_14 : DD cX12_awakeSet 14 (.iload_n 3) 1 15 := ⟨by decide +kernel, rfl⟩
theorem dX12_awakeSet_15 : DD cX12_awakeSet 15 (.iload_n 1) 1 16 := ⟨by decide +kernel, rfl⟩
theorem dX12_awakeSet_16 : DD cX12_awakeSet 16 (.invokevirtual 432) 3 19 := ⟨by decide +kernel, rfl⟩
theorem dX12_awakeSet_19 : DD cX12_awakeSet 19 (.invokestatic 322) 3 22 := ⟨by decide +kernel, rfl⟩
theorem dX12_awakeSet_22 : DD cX12_awakeSet 22 (.iload_n 3) 1 23 := ⟨by decide +kernel, rfl⟩
theorem dX12_awakeSet_23 : DD cX12_awakeSet 23 (.ishl) 1 24 := ⟨by decide +kernel, rfl⟩
theorem dX12_awakeSet_24 : DD cX12_awakeSet 24 (.ior) 1 25 := ⟨by decide +kernel, rfl⟩
theorem dX12_awakeSet_25 : DD cX12_awakeSet 25 (.istore_n 2) 1 26 := ⟨by decide +kernel, rfl⟩
theorem dX12_awakeSet_26 : DD cX12_awakeSet 26 (.iinc 3 1) 3 29 := ⟨by decide +kernel, rfl⟩
theorem dX12_awakeSet_29 : DD cX12_awakeSet 29 (.goto (-25)) 3 32 := ⟨by decide +kernel, rfl⟩
theorem dX12_awakeSet_32 : DD cX12_awakeSet 32 (.iload_n 2) 1 33 := ⟨by decide +kernel, rfl⟩
theorem dX12_awakeSet_33 : DD cX12_awakeSet 33 (.ireturn) 1 34 := ⟨by decide +kernel, rfl⟩
def gX12_awakeSet (m : Mem) : Nat → Int32 → Int32 → Int32 → Option Int32
  | 0, _, _, _ => none
  | f + 1, x1, x2, x3 => (if (m.1 0 51) ≤ x3 then (some x2) else (cP (fX12_isAwake m x3 x1) fun r2 => (cP (fX12_truth r2) fun r4 => (nm (x2 ||| (r4 <<< (x3 &&& 31))) fun v6 => (gX12_awakeSet m f x1 v6 (x3 + (1 : Int32)))))))
def fX12_awakeSet (m : Mem) (x1 : Int32) : Option Int32 := (gX12_awakeSet m 5000 x1 (0 : Int32) (0 : Int32))
set_option maxHeartbeats 4000000 in
set_option maxRecDepth 100000 in
theorem wX12_awakeSet {X : Cx} {G : Gt} (h : OkX (X, G, wM, nM) cX12_awakeSet RX12 4 (some .int) 2) (m : Mem) : ∀ f : Nat, (∀ (x1 : Int32) (x2 : Int32) (x3 : Int32), JR (X, G, wM, nM) (cvP m) m 4 [some (.ref (G.2.2 0)), some (.int x1), some (.int x2), some (.int x3)] [] (gX12_awakeSet m f x1 x2 x3)) := by
  intro f
  induction f with
  | zero => exact (fun _ _ _ => j_none)
  | succ f ih =>
    intro x1 x2 x3
    rw [gX12_awakeSet]
    refine j_iload_n h dX12_awakeSet_4 rfl ?_
    refine j_aload_n h dX12_awakeSet_5 rfl ?_
    refine gM_51 h dX12_awakeSet_6 ?_
    refine j_icmp_ge (tgt := 32) h dX12_awakeSet_9 (by decide) (fun c1 => ?_) (fun c1 => ?_)
    · refine j_iload_n h dX12_awakeSet_32 rfl ?_
      exact j_iret h rfl dX12_awakeSet_33
    · refine j_iload_n h dX12_awakeSet_12 rfl ?_
      refine j_aload_n h dX12_awakeSet_13 rfl ?_
      refine j_iload_n h dX12_awakeSet_14 rfl ?_
      refine j_iload_n h dX12_awakeSet_15 rfl ?_
      refine j_callVP (q0 := 0) (ci := 12) h [.int x3, .int x1] (kX12_isAwake _ G h.2.2.2.2.2.2.2.2.2.2 m x3 x1) okX12_isAwake inX12_isAwake ml12_432 rfl rfl rfl rfl (by decide) (by decide) (Nat.le_of_ble_eq_true rfl) rfl dX12_awakeSet_16 (fun r2 hr2 => ?_)
      refine j_callSP h [.int r2] (kX12_truth _ G h.2.2.2.2.2.2.2.2.2.2 m r2) okX12_truth stX12_truth ml12_322 rfl rfl (by decide) (by decide) (Nat.le_of_ble_eq_true rfl) rfl dX12_awakeSet_19 (fun r4 hr4 => ?_)
      refine j_iload_n h dX12_awakeSet_22 rfl ?_
      refine j_ishl h dX12_awakeSet_23 ?_
      refine j_ior h dX12_awakeSet_24 ?_
      refine j_nm (fun v6 hv6 => ?_)
      refine j_istore_n h dX12_awakeSet_25 rfl rfl ?_
      refine j_iinc (v := (x3 + (1 : Int32))) h dX12_awakeSet_26 rfl (by rw [kiconst_1]) rfl ?_
      refine j_goto (tgt := 4) h dX12_awakeSet_29 (by decide) ?_
      refine j_wk (ls' := [some (.ref (G.2.2 0)), some (.int x1), some (.int v6), some (.int (x3 + (1 : Int32)))]) (And.intro rfl (And.intro rfl (And.intro rfl (And.intro rfl trivial)))) ?_
      exact ih x1 v6 (x3 + (1 : Int32))
set_option maxHeartbeats 4000000 in
set_option maxRecDepth 100000 in
theorem kX12_awakeSet (l : Launch) (G : Gt) (hD : ∀ m, va_D (inA G nM) (wM G m)) (m : Mem) (x1 : Int32) : ∀ a, fX12_awakeSet m x1 = some a → Ct l G wM nM yX12_awakeSet cX12_awakeSet 4 (some .int) 2 [.ref (G.2.2 0), .int x1] m ((cvP m) a) := by
  refine ct_of (own := RX12) (ls0 := [some (.ref (G.2.2 0)), some (.int x1), none, none]) (by decide) rfl rfl rfl (Nat.le_of_ble_eq_true rfl) hD (fun X h => ?_) l
  unfold fX12_awakeSet
  refine j_iconst (v := (0 : Int32)) h dX12_awakeSet_0 kiconst_0 ?_
  refine j_istore_n h dX12_awakeSet_1 rfl rfl ?_
  refine j_iconst (v := (0 : Int32)) h dX12_awakeSet_2 kiconst_0 ?_
  refine j_istore_n h dX12_awakeSet_3 rfl rfl ?_
  refine j_wk (ls' := [some (.ref (G.2.2 0)), some (.int x1), some (.int (0 : Int32)), some (.int (0 : Int32))]) (And.intro rfl (And.intro rfl (And.intro rfl (And.intro rfl trivial)))) ?_
  exact (wX12_awakeSet h m 5000) x1 (0 : Int32) (0 : Int32)
theorem dX12_person_0 : DD cX12_person 0 (.aload_n 0) 1 1 := ⟨by decide +kernel, rfl⟩
theorem dX12_person_1 : DD cX12_person 1 (.iload_n 1) 1 2 := ⟨by decide +kernel, rfl⟩
theorem dX12_person_2 : DD cX12_person 2 (.invokevirtual 450) 3 5 := ⟨by decide +kernel, rfl⟩
theorem dX12_person_5 : DD cX12_person 5 (.ifCond .ne 5) 3 8 := ⟨by decide +kernel, rfl⟩
theorem dX12_person_8 : DD cX12_person 8 (.iconst (-1)) 1 9 := ⟨by decide +kernel, rfl⟩
theorem dX12_person_9 : DD cX12_person 9 (.ireturn) 1 10 := ⟨by decide +kernel, rfl⟩
theorem dX12_person_10 : DD cX12_person 10 (.aload_n 0) 1 11 := ⟨by decide +kernel, rfl⟩
theorem dX12_person_11 : DD cX12_person 11 (.aload_n 0) 1 12 := ⟨by decide +kernel, rfl⟩
theorem dX12_person_12 : DD cX12_person 12 (.getfield 112) 3 15 := ⟨by decide +kernel, rfl⟩
theorem dX12_person_15 : DD cX12_person 15 (.bipush 36) 2 17 := ⟨by decide +kernel, rfl⟩
theorem dX12_person_17 : DD cX12_person 17 (.iaload) 1 18 := ⟨by decide +kernel, rfl⟩
theorem dX12_person_18 : DD cX12_person 18 (.invokevirtual 453) 3 21 := ⟨by decide +kernel, rfl⟩
theorem dX12_person_21 : DD cX12_person 21 (.iload_n 2) 1 22 := ⟨by decide +kernel, rfl⟩
theorem dX12_person_22 : DD cX12_person 22 (.tableswitch 114 0 6 #[42, 49, 56, 68, 84, 94, 101]) 42 64 := ⟨by decide +kernel, rfl⟩
theorem dX12_person_64 : DD cX12_person 64 (.aload_n 0) 1 65 := ⟨by decide +kernel, rfl⟩
theorem dX12_person_65 : DD cX12_person 65 (.getfield 64) 3 68 := ⟨by decide +kernel, rfl⟩
theorem dX12_person_68 : DD cX12_person 68 (.iload_n 1) 1 69 := ⟨by decide +kernel, rfl⟩
theorem dX12_person_69 : DD cX12_person 69 (.iaload) 1 70 := ⟨by decide +kernel, rfl⟩
theorem dX12_person_70 : DD cX12_person 70 (.ireturn) 1 71 := ⟨by decide +kernel, rfl⟩
theorem dX12_person_71 : DD cX12_person 71 (.aload_n 0) 1 72 := ⟨by decide +kernel, rfl⟩
theorem dX12_person_72 : DD cX12_person 72 (.getfield 115) 3 75 := ⟨by decide +kernel, rfl⟩
theorem dX12_person_75 : DD cX12_person 75 (.iload_n 1) 1 76 := ⟨by decide +kernel, rfl⟩
theorem dX12_person_76 : DD cX12_person 76 (.iaload) 1 77 := ⟨by decide +kernel, rfl⟩
theorem dX12_person_77 : DD cX12_person 77 (.ireturn) 1 78 := ⟨by decide +kernel, rfl⟩
theorem dX12_person_78 : DD cX12_person 78 (.aload_n 0) 1 79 := ⟨by decide +kernel, rfl⟩
theorem dX12_person_79 : DD cX12_person 79 (.getfield 115) 3 82 := ⟨by decide +kernel, rfl⟩
theorem dX12_person_82 : DD cX12_person 82 (.bipush 34) 2 84 := ⟨by decide +kernel, rfl⟩
theorem dX12_person_84 : DD cX12_person 84 (.iaload) 1 85 := ⟨by decide +kernel, rfl⟩
theorem dX12_person_85 : DD cX12_person 85 (.iload_n 1) 1 86 := ⟨by decide +kernel, rfl⟩
theorem dX12_person_86 : DD cX12_person 86 (.ishr) 1 87 := ⟨by decide +kernel, rfl⟩
theorem dX12_person_87 : DD cX12_person 87 (.iconst 1) 1 88 := ⟨by decide +kernel, rfl⟩
theorem dX12_person_88 : DD cX12_person 88 (.iand) 1 89 := ⟨by decide +kernel, rfl⟩
theorem dX12_person_89 : DD cX12_person 89 (.ireturn) 1 90 := ⟨by decide +kernel, rfl⟩
theorem dX12_person_90 : DD cX12_person 90 (.aload_n 0) 1 91 := ⟨by decide +kernel, rfl⟩
theorem dX12_person_91 : DD cX12_person 91 (.iload_n 1) 1 92 := ⟨by decide +kernel, rfl⟩
theorem dX12_person_92 : DD cX12_person 92 (.aload_n 0) 1 93 := ⟨by decide +kernel, rfl⟩
theorem dX12_person_93 : DD cX12_person 93 (.getfield 115) 3 96 := ⟨by decide +kernel, rfl⟩
theorem dX12_person_96 : DD cX12_person 96 (.bipush 35) 2 98 := ⟨by decide +kernel, rfl⟩
theorem dX12_person_98 : DD cX12_person 98 (.iaload) 1 99 := ⟨by decide +kernel, rfl⟩
theorem dX12_person_99 : DD cX12_person 99 (.invokevirtual 432) 3 102 := ⟨by decide +kernel, rfl⟩
theorem dX12_person_102 : DD cX12_person 102 (.invokestatic 322) 3 105 := ⟨by decide +kernel, rfl⟩
theorem dX12_person_105 : DD cX12_person 105 (.ireturn) 1 106 := ⟨by decide +kernel, rfl⟩
theorem dX12_person_106 : DD cX12_person 106 (.aload_n 0) 1 107 := ⟨by decide +kernel, rfl⟩
theorem dX12_person_107 : DD cX12_person 107 (.getfield 115) 3 110 := ⟨by decide +kernel, rfl⟩
theorem dX12_person_110 : DD cX12_person 110 (.bipush 7) 2 112 := ⟨by decide +kernel, rfl⟩
theorem dX12_person_112 : DD cX12_person 112 (.iload_n 1) 1 113 := ⟨by decide +kernel, rfl⟩
theorem dX12_person_113 : DD cX12_person 113 (.iadd) 1 114 := ⟨by decide +kernel, rfl⟩
theorem dX12_person_114 : DD cX12_person 114 (.iaload) 1 115 := ⟨by decide +kernel, rfl⟩
theorem dX12_person_115 : DD cX12_person 115 (.ireturn) 1 116 := ⟨by decide +kernel, rfl⟩
theorem dX12_person_116 : DD cX12_person 116 (.aload_n 0) 1 117 := ⟨by decide +kernel, rfl⟩
theorem dX12_person_117 : DD cX12_person 117 (.getfield 67) 3 120 := ⟨by decide +kernel, rfl⟩
theorem dX12_person_120 : DD cX12_person 120 (.iload_n 1) 1 121 := ⟨by decide +kernel, rfl⟩
theorem dX12_person_121 : DD cX12_person 121 (.iaload) 1 122 := ⟨by decide +kernel, rfl⟩
theorem dX12_person_122 : DD cX12_person 122 (.ireturn) 1 123 := ⟨by decide +kernel, rfl⟩
theorem dX12_person_123 : DD cX12_person 123 (.aload_n 0) 1 124 := ⟨by decide +kernel, rfl⟩
theorem dX12_person_124 : DD cX12_person 124 (.iload_n 1) 1 125 := ⟨by decide +kernel, rfl⟩
theorem dX12_person_125 : DD cX12_person 125 (.aload_n 0) 1 126 := ⟨by decide +kernel, rfl⟩
theorem dX12_person_126 : DD cX12_person 126 (.getfield 115) 3 129 := ⟨by decide +kernel, rfl⟩
theorem dX12_person_129 : DD cX12_person 129 (.bipush 35) 2 131 := ⟨by decide +kernel, rfl⟩
theorem dX12_person_131 : DD cX12_person 131 (.iaload) 1 132 := ⟨by decide +kernel, rfl⟩
theorem dX12_person_132 : DD cX12_person 132 (.invokevirtual 456) 3 135 := ⟨by decide +kernel, rfl⟩
theorem dX12_person_135 : DD cX12_person 135 (.ireturn) 1 136 := ⟨by decide +kernel, rfl⟩
theorem dX12_person_136 : DD cX12_person 136 (.iconst (-1)) 1 137 := ⟨by decide +kernel, rfl⟩
theorem dX12_person_137 : DD cX12_person 137 (.ireturn) 1 138 := ⟨by decide +kernel, rfl⟩
def fX12_person (m : Mem) (x1 : Int32) (x2 : Int32) : Option (Int32 × Mem) := (cP (fX12_isPerson m x1) fun r1 => (if r1 = 0 then (some ((-1 : Int32), m)) else (rd (m.1 33) 37 (36 : Int32) fun v4 => (cV (fX12_loadDate m v4) fun m6 => (if x2 = (0 : Int32) then (rd (m6.1 17) 7 x1 fun v8 => (some (v8, m6))) else (if x2 = (1 : Int32) then (rd (m6.1 34) 37 x1 fun v10 => (some (v10, m6))) else (if x2 = (2 : Int32) then (rd (m6.1 34) 37 (34 : Int32) fun v12 => (some (((v12 >>> (x1 &&& 31)) &&& (1 : Int32)), m6))) else (if x2 = (3 : Int32) then (rd (m6.1 34) 37 (35 : Int32) fun v14 => (cP (fX12_isAwake m6 x1 v14) fun r15 => (cP (fX12_truth r15) fun r17 => (some (r17, m6))))) else (if x2 = (4 : Int32) then (rd (m6.1 34) 37 ((7 : Int32) + x1) fun v20 => (some (v20, m6))) else (if x2 = (5 : Int32) then (rd (m6.1 18) 7 x1 fun v22 => (some (v22, m6))) else (if x2 = (6 : Int32) then (rd (m6.1 34) 37 (35 : Int32) fun v24 => (cP (fX12_harmAt m6 x1 v24) fun r25 => (some (r25, m6)))) else (some ((-1 : Int32), m6)))))))))))))
set_option maxHeartbeats 4000000 in
set_option maxRecDepth 100000 in
theorem kX12_person (l : Launch) (G : Gt) (hD : ∀ m, va_D (inA G nM) (wM G m)) (m : Mem) (x1 : Int32) (x2 : Int32) : ∀ a, fX12_person m x1 x2 = some a → Ct l G wM nM yX12_person cX12_person 3 (some .int) 7 [.ref (G.2.2 0), .int x1, .int x2] m (cvI a) := by
  refine ct_of (own := RX12) (ls0 := [some (.ref (G.2.2 0)), some (.int x1), some (.int x2)]) (by decide) rfl rfl rfl (Nat.le_of_ble_eq_true rfl) hD (fun X h => ?_) l
  unfold fX12_person
  refine j_aload_n h dX12_person_0 rfl ?_
  refine j_iload_n h dX12_person_1 rfl ?_
  refine j_callVP (q0 := 0) (ci := 12) h [.int x1] (kX12_isPerson _ G h.2.2.2.2.2.2.2.2.2.2 m x1) okX12_isPerson inX12_isPerson ml12_450 rfl rfl rfl rfl (by decide) (by decide) (Nat.le_of_ble_eq_true rfl) rfl dX12_person_2 (fun r1 hr1 => ?_)
  refine j_if_ne (tgt := 10) h dX12_person_5 (by decide) (fun c3 => ?_) (fun c3 => ?_)
  · refine j_aload_n h dX12_person_10 rfl ?_
    refine j_aload_n h dX12_person_11 rfl ?_
    refine gM_55 h dX12_person_12 ?_
    refine j_bipush (v := (36 : Int32)) h dX12_person_15 kbipush_36 ?_
    refine aM_33 h dX12_person_17 (fun v4 hv4 => ?_)
    refine j_callVV (q0 := 0) (ci := 12) h [.int v4] (kX12_loadDate _ G h.2.2.2.2.2.2.2.2.2.2 m v4) okX12_loadDate inX12_loadDate ml12_453 rfl rfl rfl rfl (by decide) (by decide) (Nat.le_of_ble_eq_true rfl) rfl dX12_person_18 (fun m6 hm6 => ?_)
    refine j_iload_n h dX12_person_21 rfl ?_
    by_cases c7 : x2 = (0 : Int32)
    · rw [if_pos c7]
      refine j_tabIn (off := 42) (tgt := 64) h c7 dX12_person_22 (by decide) (by decide) (by decide) (by decide) ?_
      refine j_aload_n h dX12_person_64 rfl ?_
      refine gM_31 h dX12_person_65 ?_
      refine j_iload_n h dX12_person_68 rfl ?_
      refine aM_17 h dX12_person_69 (fun v8 hv8 => ?_)
      exact j_iret h rfl dX12_person_70
    · rw [if_neg c7]
      by_cases c9 : x2 = (1 : Int32)
      · rw [if_pos c9]
        refine j_tabIn (off := 49) (tgt := 71) h c9 dX12_person_22 (by decide) (by decide) (by decide) (by decide) ?_
        refine j_aload_n h dX12_person_71 rfl ?_
        refine gM_56 h dX12_person_72 ?_
        refine j_iload_n h dX12_person_75 rfl ?_
        refine aM_34 h dX12_person_76 (fun v10 hv10 => ?_)
        exact j_iret h rfl dX12_person_77
      · rw [if_neg c9]
        by_cases c11 : x2 = (2 : Int32)
        · rw [if_pos c11]
          refine j_tabIn (off := 56) (tgt := 78) h c11 dX12_person_22 (by decide) (by decide) (by decide) (by decide) ?_
          refine j_aload_n h dX12_person_78 rfl ?_
          refine gM_56 h dX12_person_79 ?_
          refine j_bipush (v := (34 : Int32)) h dX12_person_82 kbipush_34 ?_
          refine aM_34 h dX12_person_84 (fun v12 hv12 => ?_)
          refine j_iload_n h dX12_person_85 rfl ?_
          refine j_ishr h dX12_person_86 ?_
          refine j_iconst (v := (1 : Int32)) h dX12_person_87 kiconst_1 ?_
          refine j_iand h dX12_person_88 ?_
          exact j_iret h rfl dX12_person_89
        · rw [if_neg c11]
          by_cases c13 : x2 = (3 : Int32)
          · rw [if_pos c13]
            refine j_tabIn (off := 68) (tgt := 90) h c13 dX12_person_22 (by decide) (by decide) (by decide) (by decide) ?_
            refine j_aload_n h dX12_person_90 rfl ?_
            refine j_iload_n h dX12_person_91 rfl ?_
            refine j_aload_n h dX12_person_92 rfl ?_
            refine gM_56 h dX12_person_93 ?_
            refine j_bipush (v := (35 : Int32)) h dX12_person_96 kbipush_35 ?_
            refine aM_34 h dX12_person_98 (fun v14 hv14 => ?_)
            refine j_callVP (q0 := 0) (ci := 12) h [.int x1, .int v14] (kX12_isAwake _ G h.2.2.2.2.2.2.2.2.2.2 m6 x1 v14) okX12_isAwake inX12_isAwake ml12_432 rfl rfl rfl rfl (by decide) (by decide) (Nat.le_of_ble_eq_true rfl) rfl dX12_person_99 (fun r15 hr15 => ?_)
            refine j_callSP h [.int r15] (kX12_truth _ G h.2.2.2.2.2.2.2.2.2.2 m6 r15) okX12_truth stX12_truth ml12_322 rfl rfl (by decide) (by decide) (Nat.le_of_ble_eq_true rfl) rfl dX12_person_102 (fun r17 hr17 => ?_)
            exact j_iret h rfl dX12_person_105
          · rw [if_neg c13]
            by_cases c19 : x2 = (4 : Int32)
            · rw [if_pos c19]
              refine j_tabIn (off := 84) (tgt := 106) h c19 dX12_person_22 (by decide) (by decide) (by decide) (by decide) ?_
              refine j_aload_n h dX12_person_106 rfl ?_
              refine gM_56 h dX12_person_107 ?_
              refine j_bipush (v := (7 : Int32)) h dX12_person_110 kbipush_7 ?_
              refine j_iload_n h dX12_person_112 rfl ?_
              refine j_iadd h dX12_person_113 ?_
              refine aM_34 h dX12_person_114 (fun v20 hv20 => ?_)
              exact j_iret h rfl dX12_person_115
            · rw [if_neg c19]
              by_cases c21 : x2 = (5 : Int32)
              · rw [if_pos c21]
                refine j_tabIn (off := 94) (tgt := 116) h c21 dX12_person_22 (by decide) (by decide) (by decide) (by decide) ?_
                refine j_aload_n h dX12_person_116 rfl ?_
                refine gM_32 h dX12_person_117 ?_
                refine j_iload_n h dX12_person_120 rfl ?_
                refine aM_18 h dX12_person_121 (fun v22 hv22 => ?_)
                exact j_iret h rfl dX12_person_122
              · rw [if_neg c21]
                by_cases c23 : x2 = (6 : Int32)
                · rw [if_pos c23]
                  refine j_tabIn (off := 101) (tgt := 123) h c23 dX12_person_22 (by decide) (by decide) (by decide) (by decide) ?_
                  refine j_aload_n h dX12_person_123 rfl ?_
                  refine j_iload_n h dX12_person_124 rfl ?_
                  refine j_aload_n h dX12_person_125 rfl ?_
                  refine gM_56 h dX12_person_126 ?_
                  refine j_bipush (v := (35 : Int32)) h dX12_person_129 kbipush_35 ?_
                  refine aM_34 h dX12_person_131 (fun v24 hv24 => ?_)
                  refine j_callVP (q0 := 0) (ci := 12) h [.int x1, .int v24] (kX12_harmAt _ G h.2.2.2.2.2.2.2.2.2.2 m6 x1 v24) okX12_harmAt inX12_harmAt ml12_456 rfl rfl rfl rfl (by decide) (by decide) (Nat.le_of_ble_eq_true rfl) rfl dX12_person_132 (fun r25 hr25 => ?_)
                  exact j_iret h rfl dX12_person_135
                · rw [if_neg c23]
                  refine j_tabOut (tgt := 136) h [(0 : Int32), (1 : Int32), (2 : Int32), (3 : Int32), (4 : Int32), (5 : Int32), (6 : Int32)] dX12_person_22 (by intro v hv; simp only [List.mem_cons, List.not_mem_nil, or_false] at hv; rcases hv with rfl | rfl | rfl | rfl | rfl | rfl | rfl <;> assumption) (by decide) (by decide) (by decide) ?_
                  refine j_iconst (v := (-1 : Int32)) h dX12_person_136 kiconst_m1 ?_
                  exact j_iret h rfl dX12_person_137
  · refine j_iconst (v := (-1 : Int32)) h dX12_person_8 kiconst_m1 ?_
    exact j_iret h rfl dX12_person_9
