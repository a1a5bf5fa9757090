theorem dX12_bliss_0 : DD cX12_bliss 0 (.iload_n 1) 1 1 := ⟨by decide +kernel, rfl⟩
theorem dX12_bliss_1 : DD cX12_bliss 1 (.invokestatic 462) 3 4 := ⟨by decide +kernel, rfl⟩
theorem dX12_bliss_4 : DD cX12_bliss 4 (.ifCond .ne 7) 3 7 := ⟨by decide +kernel, rfl⟩
theorem dX12_bliss_7 : DD cX12_bliss 7 (.ldc_w 486) 3 10 := ⟨by decide +kernel, rfl⟩
theorem dX12_bliss_10 : DD cX12_bliss 10 (.ireturn) 1 11 := ⟨by decide +kernel, rfl⟩
theorem dX12_bliss_11 : DD cX12_bliss 11 (.aload_n 0) 1 12 := ⟨by decide +kernel, rfl⟩
theorem dX12_bliss_12 : DD cX12_bliss 12 (.iload_n 1) 1 13 := ⟨by decide +kernel, rfl⟩
theorem dX12_bliss_13 : DD cX12_bliss 13 (.invokevirtual 453) 3 16 := ⟨by decide +kernel, rfl⟩
theorem dX12_bliss_16 : DD cX12_bliss 16 (.aload_n 0) 1 17 := ⟨by decide +kernel, rfl⟩
theorem dX12_bliss_17 : DD cX12_bliss 17 (.invokevirtual 487) 3 20 := ⟨by decide +kernel, rfl⟩
theorem dX12_bliss_20 : DD cX12_bliss 20 (.ireturn) 1 21 := ⟨by decide +kernel, rfl⟩
def fX12_bliss (m : Mem) (x1 : Int32) : Option (Int32 × Mem) := (cP (fX12_isDate x1) fun r1 => (if r1 = 0 then (some ((-1000000 : Int32), m)) else (cV (fX12_loadDate m x1) fun m5 => (cP (fX12_blissHere m5) fun r6 => (some (r6, m5))))))
set_option maxHeartbeats 4000000 in
set_option maxRecDepth 100000 in
theorem kX12_bliss (l : Launch) (G : Gt) (hD : ∀ m, va_D (inA G nM) (wM G m)) (m : Mem) (x1 : Int32) : ∀ a, fX12_bliss m x1 = some a → Ct l G wM nM yX12_bliss cX12_bliss 2 (some .int) 7 [.ref (G.2.2 0), .int x1] m (cvI a) := by
  refine ct_of (own := RX12) (ls0 := [some (.ref (G.2.2 0)), some (.int x1)]) (by decide) rfl rfl rfl (Nat.le_of_ble_eq_true rfl) hD (fun X h => ?_) l
  unfold fX12_bliss
  refine j_iload_n h dX12_bliss_0 rfl ?_
  refine j_callSP h [.int x1] (kX12_isDate _ G h.2.2.2.2.2.2.2.2.2.2 m x1) okX12_isDate stX12_isDate ml12_462 rfl rfl (by decide) (by decide) (Nat.le_of_ble_eq_true rfl) rfl dX12_bliss_1 (fun r1 hr1 => ?_)
  refine j_if_ne (tgt := 11) h dX12_bliss_4 (by decide) (fun c3 => ?_) (fun c3 => ?_)
  · refine j_aload_n h dX12_bliss_11 rfl ?_
    refine j_iload_n h dX12_bliss_12 rfl ?_
    refine j_callVV (q0 := 0) (ci := 12) h [.int x1] (kX12_loadDate _ G h.2.2.2.2.2.2.2.2.2.2 m x1) okX12_loadDate inX12_loadDate ml12_453 rfl rfl rfl rfl (by decide) (by decide) (Nat.le_of_ble_eq_true rfl) rfl dX12_bliss_13 (fun m5 hm5 => ?_)
    refine j_aload_n h dX12_bliss_16 rfl ?_
    refine j_callVP (q0 := 0) (ci := 12) h [] (kX12_blissHere _ G h.2.2.2.2.2.2.2.2.2.2 m5) okX12_blissHere inX12_blissHere ml12_487 rfl rfl rfl rfl (by decide) (by decide) (Nat.le_of_ble_eq_true rfl) rfl dX12_bliss_17 (fun r6 hr6 => ?_)
    exact j_iret h rfl dX12_bliss_20
  · refine j_ldcw (v := (-1000000 : Int32)) h dX12_bliss_7 cn12_486 ?_
    exact j_iret h rfl dX12_bliss_10
theorem dX12_laySides_0 : DD cX12_laySides 0 (.iload_n 1) 1 1 := ⟨by decide +kernel, rfl⟩
theorem dX12_laySides_1 : DD cX12_laySides 1 (.istore_n 2) 1 2 := ⟨by decide +kernel, rfl⟩
theorem dX12_laySides_2 : DD cX12_laySides 2 (.iconst 0) 1 3 := ⟨by decide +kernel, rfl⟩
theorem dX12_laySides_3 : DD cX12_laySides 3 (.istore_n 3) 1 4 := ⟨by decide +kernel, rfl⟩
theorem dX12_laySides_4 : DD cX12_laySides 4 (.aload_n 0) 1 5 := ⟨by decide +kernel, rfl⟩
theorem dX12_laySides_5 : DD cX12_laySides 5 (.getfield 378) 3 8 := ⟨by decide +kernel, rfl⟩
theorem dX12_laySides_8 : DD cX12_laySides 8 (.iconst 1) 1 9 := ⟨by decide +kernel, rfl⟩
theorem dX12_laySides_9 : DD cX12_laySides 9 (.isub) 1 10 := ⟨by decide +kernel, rfl⟩
theorem dX12_laySides_10 : DD cX12_laySides 10 (.istore 4) 2 12 := ⟨by decide +kernel, rfl⟩
theorem dX12_laySides_12 : DD cX12_laySides 12 (.iload 4) 2 14 := ⟨by decide +kernel, rfl⟩
theorem dX12_laySides_14 : DD cX12_laySides 14 (.ifCond .lt 51) 3 17 := ⟨by decide +kernel, rfl⟩
theorem dX12_laySides_17 : DD cX12_laySides 17 (.aload_n 0) 1 18 := ⟨by decide +kernel, rfl⟩
theorem dX12_laySides_18 : DD cX12_laySides 18 (.getfield 115) 3 21 := ⟨by decide +kernel, rfl⟩
theorem dX12_laySides_21 : DD cX12_laySides 21 (.iload 4) 2 23 := ⟨by decide +kernel, rfl⟩
theorem dX12_laySides_23 : DD cX12_laySides 23 (.iload_n 2) 1 24 := ⟨by decide +kernel, rfl⟩
theorem dX12_laySides_24 : DD cX12_laySides 24 (.iconst 3) 1 25 := ⟨by decide +kernel, rfl⟩
theorem dX12_laySides_25 : DD cX12_laySides 25 (.irem) 1 26 := ⟨by decide +kernel, rfl⟩
theorem dX12_laySides_26 : DD cX12_laySides 26 (.iastore) 1 27 := ⟨by decide +kernel, rfl⟩
theorem dX12_laySides_27 : DD cX12_laySides 27 (.iload_n 2) 1 28 := ⟨by decide +kernel, rfl⟩
theorem dX12_laySides_28 : DD cX12_laySides 28 (.iconst 3) 1 29 := ⟨by decide +kernel, rfl⟩
theorem dX12_laySides_29 : DD cX12_laySides 29 (.idiv) 1 30 := ⟨by decide +kernel, rfl⟩
theorem dX12_laySides_30 : DD cX12_laySides 30 (.istore_n 2) 1 31 := ⟨by decide +kernel, rfl⟩
theorem dX12_laySides_31 : DD cX12_laySides 31 (.iload_n 3) 1 32 := ⟨by decide +kernel, rfl⟩
theorem dX12_laySides_32 : DD cX12_laySides 32 (.aload_n 0) 1 33 := ⟨by decide +kernel, rfl⟩
theorem dX12_laySides_33 : DD cX12_laySides 33 (.getfield 115) 3 36 := ⟨by decide +kernel, rfl⟩
theorem dX12_laySides_36 : DD cX12_laySides 36 (.iload 4) 2 38 := ⟨by decide +kernel, rfl⟩
theorem dX12_laySides_38 : DD cX12_laySides 38 (.iaload) 1 39 := ⟨by decide +kernel, rfl⟩
theorem dX12_laySides_39 : DD cX12_laySides 39 (.aload_n 0) 1 40 := ⟨by decide +kernel, rfl⟩
theorem dX12_laySides_40 : DD cX12_laySides 40 (.getfield 112) 3 43 := ⟨by decide +kernel, rfl⟩
theorem dX12_laySides_43 : DD cX12_laySides 43 (.iload 4) 2 45 := ⟨by decide +kernel, rfl⟩
theorem dX12_laySides_45 : DD cX12_laySides 45 (.iaload) 1 46 := ⟨by decide +kernel, rfl⟩
theorem dX12_laySides_46 : DD cX12_laySides 46 (.if_icmp .eq 7) 3 49 := ⟨by decide +kernel, rfl⟩
theorem dX12_laySides_49 : DD cX12_laySides 49 (.iconst 1) 1 50 := ⟨by decide +kernel, rfl⟩
theorem dX12_laySides_50 : DD cX12_laySides 50 (.goto 4) 3 53 := ⟨by decide +kernel, rfl⟩
theorem dX12_laySides_53 : DD cX12_laySides 53 (.iconst 0) 1 54 := ⟨by decide +kernel, rfl⟩
theorem dX12_laySides_54 : DD cX12_laySides 54 (.invokestatic 322) 3 57 := ⟨by decide +kernel, rfl⟩
theorem dX12_laySides_57 : DD cX12_laySides 57 (.iadd) 1 58 := ⟨by decide +kernel, rfl⟩
theorem dX12_laySides_58 : DD cX12_laySides 58 (.istore_n 3) 1 59 := ⟨by decide +kernel, rfl⟩
theorem dX12_laySides_59 : DD cX12_laySides 59 (.iinc 4 (-1)) 3 62 := ⟨by decide +kernel, rfl⟩
theorem dX12_laySides_62 : DD cX12_laySides 62 (.goto (-50)) 3 65 := ⟨by decide +kernel, rfl⟩
theorem dX12_laySides_65 : DD cX12_laySides 65 (.iload_n 3) 1 66 := ⟨by decide +kernel, rfl⟩
theorem dX12_laySides_66 : DD cX12_laySides 66 (.ireturn) 1 67 := ⟨by decide +kernel, rfl⟩
def gX12_laySides : Nat → Int32 → Int32 → Int32 → Mem → Option (Int32 × Mem)
  | 0, _, _, _, _ => none
  | f + 1, x2, x3, x4, m => (if x4 < 0 then (some (x3, m)) else (wr m 34 37 x4 (x2 - x2 / (3 : Int32) * (3 : Int32)) fun m2 => (nm (x2 / (3 : Int32)) fun v3 => (rd (m2.1 34) 37 x4 fun v4 => (rd (m2.1 33) 37 x4 fun v5 => (if v4 = v5 then (cP (fX12_truth (0 : Int32)) fun r7 => (nm (x3 + r7) fun v9 => (gX12_laySides f v3 v9 (x4 + (-1 : Int32)) m2))) else (cP (fX12_truth (1 : Int32)) fun r10 => (nm (x3 + r10) fun v12 => (gX12_laySides f v3 v12 (x4 + (-1 : Int32)) m2)))))))))
def fX12_laySides (m : Mem) (x1 : Int32) : Option (Int32 × Mem) := (nm ((m.1 0 51) - (1 : Int32)) fun v1 => (gX12_laySides 5000 x1 (0 : Int32) v1 m))
set_option maxHeartbeats 4000000 in
set_option maxRecDepth 100000 in
theorem wX12_laySides {X : Cx} {G : Gt} (h : OkX (X, G, wM, nM) cX12_laySides RX12 5 (some .int) 2) : ∀ f : Nat, (∀ (x2 : Int32) (x3 : Int32) (x4 : Int32) (m : Mem), JR (X, G, wM, nM) cvI m 12 [some (.ref (G.2.2 0)), none, some (.int x2), some (.int x3), some (.int x4)] [] (gX12_laySides f x2 x3 x4 m)) := by
  intro f
  induction f with
  | zero => exact (fun _ _ _ _ => j_none)
  | succ f ih =>
    intro x2 x3 x4 m
    rw [gX12_laySides]
    refine j_iload h dX12_laySides_12 rfl ?_
    refine j_if_lt (tgt := 65) h dX12_laySides_14 (by decide) (fun c1 => ?_) (fun c1 => ?_)
    · refine j_iload_n h dX12_laySides_65 rfl ?_
      exact j_iret h rfl dX12_laySides_66
    · refine j_aload_n h dX12_laySides_17 rfl ?_
      refine gM_56 h dX12_laySides_18 ?_
      refine j_iload h dX12_laySides_21 rfl ?_
      refine j_iload_n h dX12_laySides_23 rfl ?_
      refine j_iconst (v := (3 : Int32)) h dX12_laySides_24 kiconst_3 ?_
      refine j_iremB h dX12_laySides_25 (by decide) ?_
      refine bM_34 h dX12_laySides_26 (fun m2 hm2 => ?_)
      refine j_iload_n h dX12_laySides_27 rfl ?_
      refine j_iconst (v := (3 : Int32)) h dX12_laySides_28 kiconst_3 ?_
      refine j_idivB h dX12_laySides_29 (by decide) ?_
      refine j_nm (fun v3 hv3 => ?_)
      refine j_istore_n h dX12_laySides_30 rfl rfl ?_
      refine j_iload_n h dX12_laySides_31 rfl ?_
      refine j_aload_n h dX12_laySides_32 rfl ?_
      refine gM_56 h dX12_laySides_33 ?_
      refine j_iload h dX12_laySides_36 rfl ?_
      refine aM_34 h dX12_laySides_38 (fun v4 hv4 => ?_)
      refine j_aload_n h dX12_laySides_39 rfl ?_
      refine gM_55 h dX12_laySides_40 ?_
      refine j_iload h dX12_laySides_43 rfl ?_
      refine aM_33 h dX12_laySides_45 (fun v5 hv5 => ?_)
      refine j_icmp_eq (tgt := 53) h dX12_laySides_46 (by decide) (fun c6 => ?_) (fun c6 => ?_)
      · refine j_iconst (v := (0 : Int32)) h dX12_laySides_53 kiconst_0 ?_
        refine j_callSP h [.int (0 : Int32)] (kX12_truth _ G h.2.2.2.2.2.2.2.2.2.2 m2 (0 : Int32)) okX12_truth stX12_truth ml12_322 rfl rfl (by decide) (by decide) (Nat.le_of_ble_eq_true rfl) rfl dX12_laySides_54 (fun r7 hr7 => ?_)
        refine j_iadd h dX12_laySides_57 ?_
        refine j_nm (fun v9 hv9 => ?_)
        refine j_istore_n h dX12_laySides_58 rfl rfl ?_
        refine j_iinc (v := (x4 + (-1 : Int32))) h dX12_laySides_59 rfl (by rw [kiconst_m1]) rfl ?_
        refine j_goto (tgt := 12) h dX12_laySides_62 (by decide) ?_
        refine j_wk (ls' := [some (.ref (G.2.2 0)), none, some (.int v3), some (.int v9), some (.int (x4 + (-1 : Int32)))]) (And.intro rfl (And.intro rfl (And.intro rfl (And.intro rfl trivial)))) ?_
        exact ih v3 v9 (x4 + (-1 : Int32)) m2
      · refine j_iconst (v := (1 : Int32)) h dX12_laySides_49 kiconst_1 ?_
        refine j_goto (tgt := 54) h dX12_laySides_50 (by decide) ?_
        refine j_callSP h [.int (1 : Int32)] (kX12_truth _ G h.2.2.2.2.2.2.2.2.2.2 m2 (1 : Int32)) okX12_truth stX12_truth ml12_322 rfl rfl (by decide) (by decide) (Nat.le_of_ble_eq_true rfl) rfl dX12_laySides_54 (fun r10 hr10 => ?_)
        refine j_iadd h dX12_laySides_57 ?_
        refine j_nm (fun v12 hv12 => ?_)
        refine j_istore_n h dX12_laySides_58 rfl rfl ?_
        refine j_iinc (v := (x4 + (-1 : Int32))) h dX12_laySides_59 rfl (by rw [kiconst_m1]) rfl ?_
        refine j_goto (tgt := 12) h dX12_laySides_62 (by decide) ?_
        refine j_wk (ls' := [some (.ref (G.2.2 0)), none, some (.int v3), some (.int v12), some (.int (x4 + (-1 : Int32)))]) (And.intro rfl (And.intro rfl (And.intro rfl (And.intro rfl trivial)))) ?_
        exact ih v3 v12 (x4 + (-1 : Int32)) m2
set_option maxHeartbeats 4000000 in
set_option maxRecDepth 100000 in
theorem kX12_laySides (l : Launch) (G : Gt) (hD : ∀ m, va_D (inA G nM) (wM G m)) (m : Mem) (x1 : Int32) : ∀ a, fX12_laySides m x1 = some a → Ct l G wM nM yX12_laySides cX12_laySides 5 (some .int) 2 [.ref (G.2.2 0), .int x1] m (cvI a) := by
  refine ct_of (own := RX12) (ls0 := [some (.ref (G.2.2 0)), some (.int x1), none, none, none]) (by decide) rfl rfl rfl (Nat.le_of_ble_eq_true rfl) hD (fun X h => ?_) l
  unfold fX12_laySides
  refine j_iload_n h dX12_laySides_0 rfl ?_
  refine j_istore_n h dX12_laySides_1 rfl rfl ?_
  refine j_iconst (v := (0 : Int32)) h dX12_laySides_2 kiconst_0 ?_
  refine j_istore_n h dX12_laySides_3 rfl rfl ?_
  refine j_aload_n h dX12_laySides_4 rfl ?_
  refine gM_51 h dX12_laySides_5 ?_
  refine j_iconst (v := (1 : Int32)) h dX12_laySides_8 kiconst_1 ?_
  refine j_isub h dX12_laySides_9 ?_
  refine j_nm (fun v1 hv1 => ?_)
  refine j_istore h dX12_laySides_10 rfl rfl ?_
  refine j_wk (ls' := [some (.ref (G.2.2 0)), none, some (.int x1), some (.int (0 : Int32)), some (.int v1)]) (And.intro rfl (And.intro rfl (And.intro rfl (And.intro rfl trivial)))) ?_
  exact (wX12_laySides h 5000) x1 (0 : Int32) v1 m
theorem dX12_putSides_0 : DD cX12_putSides 0 (.iconst 0) 1 1 := ⟨by decide +kernel, rfl⟩
theorem dX12_putSides_1 : DD cX12_putSides 1 (.istore_n 1) 1 2 := ⟨by decide +kernel, rfl⟩
theorem dX12_putSides_2 : DD cX12_putSides 2 (.iload_n 1) 1 3 := ⟨by decide +kernel, rfl⟩
theorem dX12_putSides_3 : DD cX12_putSides 3 (.aload_n 0) 1 4 := ⟨by decide +kernel, rfl⟩
theorem dX12_putSides_4 : DD cX12_putSides 4 (.getfield 378) 3 7 := ⟨by decide +kernel, rfl⟩
theorem dX12_putSides_7 : DD cX12_putSides 7 (.if_icmp .ge 21) 3 10 := ⟨by decide +kernel, rfl⟩
theorem dX12_putSides_10 : DD cX12_putSides 10 (.aload_n 0) 1 11 := ⟨by decide +kernel, rfl⟩
theorem dX12_putSides_11 : DD cX12_putSides 11 (.getfield 127) 3 14 := ⟨by decide +kernel, rfl⟩
theorem dX12_putSides_14 : DD cX12_putSides 14 (.iload_n 1) 1 15 := ⟨by decide +kernel, rfl⟩
theorem dX12_putSides_15 : DD cX12_putSides 15 (.aload_n 0) 1 16 := ⟨by decide +kernel, rfl⟩
theorem dX12_putSides_16 : DD cX12_putSides 16 (.getfield 115) 3 19 := ⟨by decide +kernel, rfl⟩
theorem dX12_putSides_19 : DD cX12_putSides 19 (.iload_n 1) 1 20 := ⟨by decide +kernel, rfl⟩
theorem dX12_putSides_20 : DD cX12_putSides 20 (.iaload) 1 21 := ⟨by decide +kernel, rfl⟩
theorem dX12_putSides_21 : DD cX12_putSides 21 (.iastore) 1 22 := ⟨by decide +kernel, rfl⟩
theorem dX12_putSides_22 : DD cX12_putSides 22 (.iinc 1 1) 3 25 := ⟨by decide +kernel, rfl⟩
theorem dX12_putSides_25 : DD cX12_putSides 25 (.goto (-23)) 3 28 := ⟨by decide +kernel, rfl⟩
theorem dX12_putSides_28 : DD cX12_putSides 28 (.aload_n 0) 1 29 := ⟨by decide +kernel, rfl⟩
theorem dX12_putSides_29 : DD cX12_putSides 29 (.aload_n 0) 1 30 := ⟨by decide +kernel, rfl⟩
theorem dX12_putSides_30 : DD cX12_putSides 30 (.getfield 378) 3 33 := ⟨by decide +kernel, rfl⟩
theorem dX12_putSides_33 : DD cX12_putSides 33 (.putfield 399) 3 36 := ⟨by decide +kernel, rfl⟩
theorem dX12_putSides_36 : DD cX12_putSides 36 (.return_) 1 37 := ⟨by decide +kernel, rfl⟩
def gX12_putSides : Nat → Int32 → Mem → Option Mem
  | 0, _, _ => none
  | f + 1, x1, m => (if (m.1 0 51) ≤ x1 then (pt (sI m 0 63 (m.1 0 51)) fun m2 => (some m2)) else (rd (m.1 34) 37 x1 fun v3 => (wr m 38 7 x1 v3 fun m4 => (gX12_putSides f (x1 + (1 : Int32)) m4))))
def fX12_putSides (m : Mem) : Option Mem := (gX12_putSides 5000 (0 : Int32) m)
set_option maxHeartbeats 4000000 in
set_option maxRecDepth 100000 in
theorem wX12_putSides {X : Cx} {G : Gt} (h : OkX (X, G, wM, nM) cX12_putSides RX12 2 none 1) : ∀ f : Nat, (∀ (x1 : Int32) (m : Mem), JR (X, G, wM, nM) cvV m 2 [some (.ref (G.2.2 0)), some (.int x1)] [] (gX12_putSides f x1 m)) := by
  intro f
  induction f with
  | zero => exact (fun _ _ => j_none)
  | succ f ih =>
    intro x1 m
    rw [gX12_putSides]
    refine j_iload_n h dX12_putSides_2 rfl ?_
    refine j_aload_n h dX12_putSides_3 rfl ?_
    refine gM_51 h dX12_putSides_4 ?_
    refine j_icmp_ge (tgt := 28) h dX12_putSides_7 (by decide) (fun c1 => ?_) (fun c1 => ?_)
    · refine j_aload_n h dX12_putSides_28 rfl ?_
      refine j_aload_n h dX12_putSides_29 rfl ?_
      refine gM_51 h dX12_putSides_30 ?_
      refine pM_63 h dX12_putSides_33 (fun m2 hm2 => ?_)
      exact j_vret h rfl dX12_putSides_36
    · refine j_aload_n h dX12_putSides_10 rfl ?_
      refine gM_62 h dX12_putSides_11 ?_
      refine j_iload_n h dX12_putSides_14 rfl ?_
      refine j_aload_n h dX12_putSides_15 rfl ?_
      refine gM_56 h dX12_putSides_16 ?_
      refine j_iload_n h dX12_putSides_19 rfl ?_
      refine aM_34 h dX12_putSides_20 (fun v3 hv3 => ?_)
      refine bM_38 h dX12_putSides_21 (fun m4 hm4 => ?_)
      refine j_iinc (v := (x1 + (1 : Int32))) h dX12_putSides_22 rfl (by rw [kiconst_1]) rfl ?_
      refine j_goto (tgt := 2) h dX12_putSides_25 (by decide) ?_
      refine j_wk (ls' := [some (.ref (G.2.2 0)), some (.int (x1 + (1 : Int32)))]) (And.intro rfl (And.intro rfl trivial)) ?_
      exact ih (x1 + (1 : Int32)) m4
set_option maxHeartbeats 4000000 in
set_option maxRecDepth 100000 in
theorem kX12_putSides (l : Launch) (G : Gt) (hD : ∀ m, va_D (inA G nM) (wM G m)) (m : Mem) : ∀ a, fX12_putSides m = some a → Ct l G wM nM yX12_putSides cX12_putSides 2 none 1 [.ref (G.2.2 0)] m (cvV a) := by
  refine ct_of (own := RX12) (ls0 := [some (.ref (G.2.2 0)), none]) (by decide) rfl rfl rfl (Nat.le_of_ble_eq_true rfl) hD (fun X h => ?_) l
  unfold fX12_putSides
  refine j_iconst (v := (0 : Int32)) h dX12_putSides_0 kiconst_0 ?_
  refine j_istore_n h dX12_putSides_1 rfl rfl ?_
  refine j_wk (ls' := [some (.ref (G.2.2 0)), some (.int (0 : Int32))]) (And.intro rfl (And.intro rfl trivial)) ?_
  exact (wX12_putSides h 5000) (0 : Int32) m
theorem dX12_cut_0 : DD cX12_cut 0 (.aload_n 0) 1 1 := ⟨by decide +kernel, rfl⟩
theorem dX12_cut_1 : DD cX12_cut 1 (.aload_n 0) 1 2 := ⟨by decide +kernel, rfl⟩
theorem dX12_cut_2 : DD cX12_cut 2 (.getfield 112) 3 5 := ⟨by decide +kernel, rfl⟩
theorem dX12_cut_5 : DD cX12_cut 5 (.bipush 36) 2 7 := ⟨by decide +kernel, rfl⟩
theorem dX12_cut_7 : DD cX12_cut 7 (.iaload) 1 8 := ⟨by decide +kernel, rfl⟩
theorem dX12_cut_8 : DD cX12_cut 8 (.invokevirtual 453) 3 11 := ⟨by decide +kernel, rfl⟩
theorem dX12_cut_11 : DD cX12_cut 11 (.iconst 1) 1 12 := ⟨by decide +kernel, rfl⟩
theorem dX12_cut_12 : DD cX12_cut 12 (.istore_n 1) 1 13 := ⟨by decide +kernel, rfl⟩
theorem dX12_cut_13 : DD cX12_cut 13 (.iconst 0) 1 14 := ⟨by decide +kernel, rfl⟩
theorem dX12_cut_14 : DD cX12_cut 14 (.istore_n 2) 1 15 := ⟨by decide +kernel, rfl⟩
theorem dX12_cut_15 : DD cX12_cut 15 (.iload_n 2) 1 16 := ⟨by decide +kernel, rfl⟩
theorem dX12_cut_16 : DD cX12_cut 16 (.aload_n 0) 1 17 := ⟨by decide +kernel, rfl⟩
theorem dX12_cut_17 : DD cX12_cut 17 (.getfield 378) 3 20 := ⟨by decide +kernel, rfl⟩
theorem dX12_cut_20 : DD cX12_cut 20 (.if_icmp .ge 13) 3 23 := ⟨by decide +kernel, rfl⟩
theorem dX12_cut_23 : DD cX12_cut 23 (.iload_n 1) 1 24 := ⟨by decide +kernel, rfl⟩
theorem dX12_cut_24 : DD cX12_cut 24 (.iconst 3) 1 25 := ⟨by decide +kernel, rfl⟩
theorem dX12_cut_25 : DD cX12_cut 25 (.imul) 1 26 := ⟨by decide +kernel, rfl⟩
theorem dX12_cut_26 : DD cX12_cut 26 (.istore_n 1) 1 27 := ⟨by decide +kernel, rfl⟩
theorem dX12_cut_27 : DD cX12_cut 27 (.iinc 2 1) 3 30 := ⟨by decide +kernel, rfl⟩
theorem dX12_cut_30 : DD cX12_cut 30 (.goto (-15)) 3 33 := ⟨by decide +kernel, rfl⟩
theorem dX12_cut_33 : DD cX12_cut 33 (.iconst 0) 1 34 := ⟨by decide +kernel, rfl⟩
theorem dX12_cut_34 : DD cX12_cut 34 (.istore_n 2) 1 35 := ⟨by decide +kernel, rfl⟩
theorem dX12_cut_35 : DD cX12_cut 35 (.ldc_w 486) 3 38 := ⟨by decide +kernel, rfl⟩
theorem dX12_cut_38 : DD cX12_cut 38 (.istore_n 3) 1 39 := ⟨by decide +kernel, rfl⟩
theorem dX12_cut_39 : DD cX12_cut 39 (.iconst 0) 1 40 := ⟨by decide +kernel, rfl⟩
theorem dX12_cut_40 : DD cX12_cut 40 (.istore 4) 2 42 := ⟨by decide +kernel, rfl⟩
theorem dX12_cut_42 : DD cX12_cut 42 (.iconst 0) 1 43 := ⟨by decide +kernel, rfl⟩
theorem dX12_cut_43 : DD cX12_cut 43 (.istore 5) 2 45 := ⟨by decide +kernel, rfl⟩
theorem dX12_cut_45 : DD cX12_cut 45 (.iload 5) 2 47 := ⟨by decide +kernel, rfl⟩
theorem dX12_cut_47 : DD cX12_cut 47 (.iload_n 1) 1 48 := ⟨by decide +kernel, rfl⟩
theorem dX12_cut_48 : DD cX12_cut 48 (.if_icmp .ge 55) 3 51 := ⟨by decide +kernel, rfl⟩
theorem dX12_cut_51 : DD cX12_cut 51 (.aload_n 0) 1 52 := ⟨by decide +kernel, rfl⟩
theorem dX12_cut_52 : DD cX12_cut 52 (.iload 5) 2 54 := ⟨by decide +kernel, rfl⟩
theorem dX12_cut_54 : DD cX12_cut 54 (.invokevirtual 490) 3 57 := ⟨by decide +kernel, rfl⟩
theorem dX12_cut_57 : DD cX12_cut 57 (.istore 6) 2 59 := ⟨by decide +kernel, rfl⟩
theorem dX12_cut_59 : DD cX12_cut 59 (.aload_n 0) 1 60 := ⟨by decide +kernel, rfl⟩
theorem dX12_cut_60 : DD cX12_cut 60 (.invokevirtual 487) 3 63 := ⟨by decide +kernel, rfl⟩
theorem dX12_cut_63 : DD cX12_cut 63 (.istore 7) 2 65 := ⟨by decide +kernel, rfl⟩
theorem dX12_cut_65 : DD cX12_cut 65 (.iload 7) 2 67 := ⟨by decide +kernel, rfl⟩
theorem dX12_cut_67 : DD cX12_cut 67 (.iload_n 3) 1 68 := ⟨by decide +kernel, rfl⟩
theorem dX12_cut_68 : DD cX12_cut 68 (.if_icmp .lt 29) 3 71 := ⟨by decide +kernel, rfl⟩
theorem dX12_cut_71 : DD cX12_cut 71 (.iload 7) 2 73 := ⟨by decide +kernel, rfl⟩
theorem dX12_cut_73 : DD cX12_cut 73 (.iload_n 3) 1 74 := ⟨by decide +kernel, rfl⟩
theorem dX12_cut_74 : DD cX12_cut 74 (.if_icmp .ne 13) 3 77 := ⟨by decide +kernel, rfl⟩
theorem dX12_cut_77 : DD cX12_cut 77 (.iload 6) 2 79 := ⟨by decide +kernel, rfl⟩
theorem dX12_cut_79 : DD cX12_cut 79 (.iload 4) 2 81 := ⟨by decide +kernel, rfl⟩
theorem dX12_cut_81 : DD cX12_cut 81 (.if_icmp .lt 6) 3 84 := ⟨by decide +kernel, rfl⟩
theorem dX12_cut_84 : DD cX12_cut 84 (.goto 13) 3 87 := ⟨by decide +kernel, rfl⟩
theorem dX12_cut_87 : DD cX12_cut 87 (.iload 5) 2 89 := ⟨by decide +kernel, rfl⟩
theorem dX12_cut_89 : DD cX12_cut 89 (.istore_n 2) 1 90 := ⟨by decide +kernel, rfl⟩
theorem dX12_cut_90 : DD cX12_cut 90 (.iload 7) 2 92 := ⟨by decide +kernel, rfl⟩
theorem dX12_cut_92 : DD cX12_cut 92 (.istore_n 3) 1 93 := ⟨by decide +kernel, rfl⟩
theorem dX12_cut_93 : DD cX12_cut 93 (.iload 6) 2 95 := ⟨by decide +kernel, rfl⟩
theorem dX12_cut_95 : DD cX12_cut 95 (.istore 4) 2 97 := ⟨by decide +kernel, rfl⟩
theorem dX12_cut_97 : DD cX12_cut 97 (.iinc 5 1) 3 100 := ⟨by decide +kernel, rfl⟩
theorem dX12_cut_100 : DD cX12_cut 100 (.goto (-55)) 3 103 := ⟨by decide +kernel, rfl⟩
theorem dX12_cut_103 : DD cX12_cut 103 (.aload_n 0) 1 104 := ⟨by decide +kernel, rfl⟩
theorem dX12_cut_104 : DD cX12_cut 104 (.iload_n 2) 1 105 := ⟨by decide +kernel, rfl⟩
theorem dX12_cut_105 : DD cX12_cut 105 (.invokevirtual 490) 3 108 := ⟨by decide +kernel, rfl⟩
theorem dX12_cut_108 : DD cX12_cut 108 (.pop) 1 109 := ⟨by decide +kernel, rfl⟩
theorem dX12_cut_109 : DD cX12_cut 109 (.aload_n 0) 1 110 := ⟨by decide +kernel, rfl⟩
theorem dX12_cut_110 : DD cX12_cut 110 (.invokevirtual 493) 3 113 := ⟨by decide +kernel, rfl⟩
theorem dX12_cut_113 : DD cX12_cut 113 (.iload_n 3) 1 114 := ⟨by decide +kernel, rfl⟩
theorem dX12_cut_114 : DD cX12_cut 114 (.ireturn) 1 115 := ⟨by decide +kernel, rfl⟩
def gX12_cut : Nat → Nat → Int32 → Int32 → Int32 → Int32 → Int32 → Mem → Option (Int32 × Mem)
  | 0, _, _, _, _, _, _, _ => none
  | f + 1, 0, x1, x2, x3, x4, x5, m => (if (m.1 0 51) ≤ x2 then (gX12_cut f 1 x1 (0 : Int32) (-1000000 : Int32) (0 : Int32) (0 : Int32) m) else (nm (x1 * (3 : Int32)) fun v2 => (gX12_cut f 0 v2 (x2 + (1 : Int32)) 0 0 0 m)))
  | f + 1, 1, x1, x2, x3, x4, x5, m => (if x1 ≤ x5 then (cI (fX12_laySides m x2) fun r2 m3 => (cV (fX12_putSides m3) fun m5 => (some (x3, m5)))) else (cI (fX12_laySides m x5) fun r6 m7 => (cP (fX12_blissHere m7) fun r8 => (if r8 < x3 then (gX12_cut f 1 x1 x2 x3 x4 (x5 + (1 : Int32)) m7) else (if r8 = x3 then (if r6 < x4 then (gX12_cut f 1 x1 x5 r8 r6 (x5 + (1 : Int32)) m7) else (gX12_cut f 1 x1 x2 x3 x4 (x5 + (1 : Int32)) m7)) else (gX12_cut f 1 x1 x5 r8 r6 (x5 + (1 : Int32)) m7))))))
  | _ + 1, _ + 2, _, _, _, _, _, _ => none
def fX12_cut (m : Mem) : Option (Int32 × Mem) := (rd (m.1 33) 37 (36 : Int32) fun v1 => (cV (fX12_loadDate m v1) fun m3 => (gX12_cut 5000 0 (1 : Int32) (0 : Int32) 0 0 0 m3)))
set_option maxHeartbeats 4000000 in
set_option maxRecDepth 100000 in
theorem wX12_cut {X : Cx} {G : Gt} (h : OkX (X, G, wM, nM) cX12_cut RX12 8 (some .int) 7) : ∀ f : Nat, (∀ (x1 : Int32) (x2 : Int32) (x3 : Int32) (x4 : Int32) (x5 : Int32) (m : Mem), JR (X, G, wM, nM) cvI m 15 [some (.ref (G.2.2 0)), some (.int x1), some (.int x2), none, none, none, none, none] [] (gX12_cut f 0 x1 x2 x3 x4 x5 m)) ∧ (∀ (x1 : Int32) (x2 : Int32) (x3 : Int32) (x4 : Int32) (x5 : Int32) (m : Mem), JR (X, G, wM, nM) cvI m 45 [some (.ref (G.2.2 0)), some (.int x1), some (.int x2), some (.int x3), some (.int x4), some (.int x5), none, none] [] (gX12_cut f 1 x1 x2 x3 x4 x5 m)) := by
  intro f
  induction f with
  | zero => exact ⟨(fun _ _ _ _ _ _ => j_none), (fun _ _ _ _ _ _ => j_none)⟩
  | succ f ih =>
    refine ⟨?_, ?_⟩
    · intro x1 x2 x3 x4 x5 m
      rw [gX12_cut]
      refine j_iload_n h dX12_cut_15 rfl ?_
      refine j_aload_n h dX12_cut_16 rfl ?_
      refine gM_51 h dX12_cut_17 ?_
      refine j_icmp_ge (tgt := 33) h dX12_cut_20 (by decide) (fun c1 => ?_) (fun c1 => ?_)
      · refine j_iconst (v := (0 : Int32)) h dX12_cut_33 kiconst_0 ?_
        refine j_istore_n h dX12_cut_34 rfl rfl ?_
        refine j_ldcw (v := (-1000000 : Int32)) h dX12_cut_35 cn12_486 ?_
        refine j_istore_n h dX12_cut_38 rfl rfl ?_
        refine j_iconst (v := (0 : Int32)) h dX12_cut_39 kiconst_0 ?_
        refine j_istore h dX12_cut_40 rfl rfl ?_
        refine j_iconst (v := (0 : Int32)) h dX12_cut_42 kiconst_0 ?_
        refine j_istore h dX12_cut_43 rfl rfl ?_
        refine j_wk (ls' := [some (.ref (G.2.2 0)), some (.int x1), some (.int (0 : Int32)), some (.int (-1000000 : Int32)), some (.int (0 : Int32)), some (.int (0 : Int32)), none, none]) (And.intro rfl (And.intro rfl (And.intro rfl (And.intro rfl (And.intro rfl (And.intro rfl trivial)))))) ?_
        exact ih.2 x1 (0 : Int32) (-1000000 : Int32) (0 : Int32) (0 : Int32) m
      · refine j_iload_n h dX12_cut_23 rfl ?_
        refine j_iconst (v := (3 : Int32)) h dX12_cut_24 kiconst_3 ?_
        refine j_imul h dX12_cut_25 ?_
        refine j_nm (fun v2 hv2 => ?_)
        refine j_istore_n h dX12_cut_26 rfl rfl ?_
        refine j_iinc (v := (x2 + (1 : Int32))) h dX12_cut_27 rfl (by rw [kiconst_1]) rfl ?_
        refine j_goto (tgt := 15) h dX12_cut_30 (by decide) ?_
        refine j_wk (ls' := [some (.ref (G.2.2 0)), some (.int v2), some (.int (x2 + (1 : Int32))), none, none, none, none, none]) (And.intro rfl (And.intro rfl (And.intro rfl trivial))) ?_
        exact ih.1 v2 (x2 + (1 : Int32)) 0 0 0 m
    · intro x1 x2 x3 x4 x5 m
      rw [gX12_cut]
      refine j_iload h dX12_cut_45 rfl ?_
      refine j_iload_n h dX12_cut_47 rfl ?_
      refine j_icmp_ge (tgt := 103) h dX12_cut_48 (by decide) (fun c1 => ?_) (fun c1 => ?_)
      · refine j_aload_n h dX12_cut_103 rfl ?_
        refine j_iload_n h dX12_cut_104 rfl ?_
        refine j_callVI (q0 := 0) (ci := 12) h [.int x2] (kX12_laySides _ G h.2.2.2.2.2.2.2.2.2.2 m x2) okX12_laySides inX12_laySides ml12_490 rfl rfl rfl rfl (by decide) (by decide) (Nat.le_of_ble_eq_true rfl) rfl dX12_cut_105 (fun r2 m3 hr2 => ?_)
        refine j_pop h dX12_cut_108 rfl ?_
        refine j_aload_n h dX12_cut_109 rfl ?_
        refine j_callVV (q0 := 0) (ci := 12) h [] (kX12_putSides _ G h.2.2.2.2.2.2.2.2.2.2 m3) okX12_putSides inX12_putSides ml12_493 rfl rfl rfl rfl (by decide) (by decide) (Nat.le_of_ble_eq_true rfl) rfl dX12_cut_110 (fun m5 hm5 => ?_)
        refine j_iload_n h dX12_cut_113 rfl ?_
        exact j_iret h rfl dX12_cut_114
      · refine j_aload_n h dX12_cut_51 rfl ?_
        refine j_iload h dX12_cut_52 rfl ?_
        refine j_callVI (q0 := 0) (ci := 12) h [.int x5] (kX12_laySides _ G h.2.2.2.2.2.2.2.2.2.2 m x5) okX12_laySides inX12_laySides ml12_490 rfl rfl rfl rfl (by decide) (by decide) (Nat.le_of_ble_eq_true rfl) rfl dX12_cut_54 (fun r6 m7 hr6 => ?_)
        refine j_istore h dX12_cut_57 rfl rfl ?_
        refine j_aload_n h dX12_cut_59 rfl ?_
        refine j_callVP (q0 := 0) (ci := 12) h [] (kX12_blissHere _ G h.2.2.2.2.2.2.2.2.2.2 m7) okX12_blissHere inX12_blissHere ml12_487 rfl rfl rfl rfl (by decide) (by decide) (Nat.le_of_ble_eq_true rfl) rfl dX12_cut_60 (fun r8 hr8 => ?_)
        refine j_istore h dX12_cut_63 rfl rfl ?_
        refine j_iload h dX12_cut_65 rfl ?_
        refine j_iload_n h dX12_cut_67 rfl ?_
        refine j_icmp_lt (tgt := 97) h dX12_cut_68 (by decide) (fun c10 => ?_) (fun c10 => ?_)
        · refine j_iinc (v := (x5 + (1 : Int32))) h dX12_cut_97 rfl (by rw [kiconst_1]) rfl ?_
          refine j_goto (tgt := 45) h dX12_cut_100 (by decide) ?_
          refine j_wk (ls' := [some (.ref (G.2.2 0)), some (.int x1), some (.int x2), some (.int x3), some (.int x4), some (.int (x5 + (1 : Int32))), none, none]) (And.intro rfl (And.intro rfl (And.intro rfl (And.intro rfl (And.intro rfl (And.intro rfl trivial)))))) ?_
          exact ih.2 x1 x2 x3 x4 (x5 + (1 : Int32)) m7
        · refine j_iload h dX12_cut_71 rfl ?_
          refine j_iload_n h dX12_cut_73 rfl ?_
          refine j_icmp_ne (tgt := 87) h dX12_cut_74 (by decide) (fun c11 => ?_) (fun c11 => ?_)
          · refine j_iload h dX12_cut_87 rfl ?_
            refine j_istore_n h dX12_cut_89 rfl rfl ?_
            refine j_iload h dX12_cut_90 rfl ?_
            refine j_istore_n h dX12_cut_92 rfl rfl ?_
            refine j_iload h dX12_cut_93 rfl ?_
            refine j_istore h dX12_cut_95 rfl rfl ?_
            refine j_iinc (v := (x5 + (1 : Int32))) h dX12_cut_97 rfl (by rw [kiconst_1]) rfl ?_
            refine j_goto (tgt := 45) h dX12_cut_100 (by decide) ?_
            refine j_wk (ls' := [some (.ref (G.2.2 0)), some (.int x1), some (.int x5), some (.int r8), some (.int r6), some (.int (x5 + (1 : Int32))), none, none]) (And.intro rfl (And.intro rfl (And.intro rfl (And.intro rfl (And.intro rfl (And.intro rfl trivial)))))) ?_
            exact ih.2 x1 x5 r8 r6 (x5 + (1 : Int32)) m7
          · refine j_iload h dX12_cut_77 rfl ?_
            refine j_iload h dX12_cut_79 rfl ?_
            refine j_icmp_lt (tgt := 87) h dX12_cut_81 (by decide) (fun c12 => ?_) (fun c12 => ?_)
            · refine j_iload h dX12_cut_87 rfl ?_
              refine j_istore_n h dX12_cut_89 rfl rfl ?_
              refine j_iload h dX12_cut_90 rfl ?_
              refine j_istore_n h dX12_cut_92 rfl rfl ?_
              refine j_iload h dX12_cut_93 rfl ?_
              refine j_istore h dX12_cut_95 rfl rfl ?_
              refine j_iinc (v := (x5 + (1 : Int32))) h dX12_cut_97 rfl (by rw [kiconst_1]) rfl ?_
              refine j_goto (tgt := 45) h dX12_cut_100 (by decide) ?_
              refine j_wk (ls' := [some (.ref (G.2.2 0)), some (.int x1), some (.int x5), some (.int r8), some (.int r6), some (.int (x5 + (1 : Int32))), none, none]) (And.intro rfl (And.intro rfl (And.intro rfl (And.intro rfl (And.intro rfl (And.intro rfl trivial)))))) ?_
              exact ih.2 x1 x5 r8 r6 (x5 + (1 : Int32)) m7
            · refine j_goto (tgt := 97) h dX12_cut_84 (by decide) ?_
              refine j_iinc (v := (x5 + (1 : Int32))) h dX12_cut_97 rfl (by rw [kiconst_1]) rfl ?_
              refine j_goto (tgt := 45) h dX12_cut_100 (by decide) ?_
              refine j_wk (ls' := [some (.ref (G.2.2 0)), some (.int x1), some (.int x2), some (.int x3), some (.int x4), some (.int (x5 + (1 : Int32))), none, none]) (And.intro rfl (And.intro rfl (And.intro rfl (And.intro rfl (And.intro rfl (And.intro rfl trivial)))))) ?_
              exact ih.2 x1 x2 x3 x4 (x5 + (1 : Int32)) m7
set_option maxHeartbeats 4000000 in
set_option maxRecDepth 100000 in
theorem kX12_cut (l : Launch) (G : Gt) (hD : ∀ m, va_D (inA G nM) (wM G m)) (m : Mem) : ∀ a, fX12_cut m = some a → Ct l G wM nM yX12_cut cX12_cut 8 (some .int) 7 [.ref (G.2.2 0)] m (cvI a) := by
  refine ct_of (own := RX12) (ls0 := [some (.ref (G.2.2 0)), none, none, none, none, none, none, none]) (by decide) rfl rfl rfl (Nat.le_of_ble_eq_true rfl) hD (fun X h => ?_) l
  unfold fX12_cut
  refine j_aload_n h dX12_cut_0 rfl ?_
  refine j_aload_n h dX12_cut_1 rfl ?_
  refine gM_55 h dX12_cut_2 ?_
  refine j_bipush (v := (36 : Int32)) h dX12_cut_5 kbipush_36 ?_
  refine aM_33 h dX12_cut_7 (fun v1 hv1 => ?_)
  refine j_callVV (q0 := 0) (ci := 12) h [.int v1] (kX12_loadDate _ G h.2.2.2.2.2.2.2.2.2.2 m v1) okX12_loadDate inX12_loadDate ml12_453 rfl rfl rfl rfl (by decide) (by decide) (Nat.le_of_ble_eq_true rfl) rfl dX12_cut_8 (fun m3 hm3 => ?_)
  refine j_iconst (v := (1 : Int32)) h dX12_cut_11 kiconst_1 ?_
  refine j_istore_n h dX12_cut_12 rfl rfl ?_
  refine j_iconst (v := (0 : Int32)) h dX12_cut_13 kiconst_0 ?_
  refine j_istore_n h dX12_cut_14 rfl rfl ?_
  refine j_wk (ls' := [some (.ref (G.2.2 0)), some (.int (1 : Int32)), some (.int (0 : Int32)), none, none, none, none, none]) (And.intro rfl (And.intro rfl (And.intro rfl trivial))) ?_
  exact (wX12_cut h 5000).1 (1 : Int32) (0 : Int32) 0 0 0 m3
theorem dX12_joyHere_0 : DD cX12_joyHere 0 (.aload_n 0) 1 1 := ⟨by decide +kernel, rfl⟩
theorem dX12_joyHere_1 : DD cX12_joyHere 1 (.iload_n 1) 1 2 := ⟨by decide +kernel, rfl⟩
theorem dX12_joyHere_2 : DD cX12_joyHere 2 (.invokevirtual 438) 3 5 := ⟨by decide +kernel, rfl⟩
theorem dX12_joyHere_5 : DD cX12_joyHere 5 (.ineg) 1 6 := ⟨by decide +kernel, rfl⟩
theorem dX12_joyHere_6 : DD cX12_joyHere 6 (.istore_n 2) 1 7 := ⟨by decide +kernel, rfl⟩
theorem dX12_joyHere_7 : DD cX12_joyHere 7 (.iconst 0) 1 8 := ⟨by decide +kernel, rfl⟩
theorem dX12_joyHere_8 : DD cX12_joyHere 8 (.istore_n 3) 1 9 := ⟨by decide +kernel, rfl⟩
theorem dX12_joyHere_9 : DD cX12_joyHere 9 (.iload_n 3) 1 10 := ⟨by decide +kernel, rfl⟩
theorem dX12_joyHere_10 : DD cX12_joyHere 10 (.aload_n 0) 1 11 := ⟨by decide +kernel, rfl⟩
theorem dX12_joyHere_11 : DD cX12_joyHere 11 (.getfield 381) 3 14 := ⟨by decide +kernel, rfl⟩
theorem dX12_joyHere_14 : DD cX12_joyHere 14 (.if_icmp .ge 50) 3 17 := ⟨by decide +kernel, rfl⟩
theorem dX12_joyHere_17 : DD cX12_joyHere 17 (.iload_n 2) 1 18 := ⟨by decide +kernel, rfl⟩
theorem dX12_joyHere_18 : DD cX12_joyHere 18 (.aload_n 0) 1 19 := ⟨by decide +kernel, rfl⟩
theorem dX12_joyHere_19 : DD cX12_joyHere 19 (.getfield 82) 3 22 := ⟨by decide +kernel, rfl⟩
theorem dX12_joyHere_22 : DD cX12_joyHere 22 (.iload_n 3) 1 23 := ⟨by decide +kernel, rfl⟩
theorem dX12_joyHere_23 : DD cX12_joyHere 23 (.iaload) 1 24 := ⟨by decide +kernel, rfl⟩
theorem dX12_joyHere_24 : DD cX12_joyHere 24 (.iload_n 1) 1 25 := ⟨by decide +kernel, rfl⟩
theorem dX12_joyHere_25 : DD cX12_joyHere 25 (.if_icmp .eq 13) 3 28 := ⟨by decide +kernel, rfl⟩
theorem dX12_joyHere_28 : DD cX12_joyHere 28 (.aload_n 0) 1 29 := ⟨by decide +kernel, rfl⟩
theorem dX12_joyHere_29 : DD cX12_joyHere 29 (.getfield 85) 3 32 := ⟨by decide +kernel, rfl⟩
theorem dX12_joyHere_32 : DD cX12_joyHere 32 (.iload_n 3) 1 33 := ⟨by decide +kernel, rfl⟩
theorem dX12_joyHere_33 : DD cX12_joyHere 33 (.iaload) 1 34 := ⟨by decide +kernel, rfl⟩
theorem dX12_joyHere_34 : DD cX12_joyHere 34 (.iload_n 1) 1 35 := ⟨by decide +kernel, rfl⟩
theorem dX12_joyHere_35 : DD cX12_joyHere 35 (.if_icmp .ne 20) 3 38 := ⟨by decide +kernel, rfl⟩
theorem dX12_joyHere_38 : DD cX12_joyHere 38 (.aload_n 0) 1 39 := ⟨by decide +kernel, rfl⟩
theorem dX12_joyHere_39 : DD cX12_joyHere 39 (.iload_n 3) 1 40 := ⟨by decide +kernel, rfl⟩
theorem dX12_joyHere_40 : DD cX12_joyHere 40 (.invokevirtual 447) 3 43 := ⟨by decide +kernel, rfl⟩
theorem dX12_joyHere_43 : DD cX12_joyHere 43 (.ifCond .eq 12) 3 46 := ⟨by decide +kernel, rfl⟩
theorem dX12_joyHere_46 : DD cX12_joyHere 46 (.aload_n 0) 1 47 := ⟨by decide +kernel, rfl⟩
theorem dX12_joyHere_47 : DD cX12_joyHere 47 (.getfield 91) 3 50 := ⟨by decide +kernel, rfl⟩
theorem dX12_joyHere_50 : DD cX12_joyHere 50 (.iload_n 3) 1 51 := ⟨by decide +kernel, rfl⟩
theorem dX12_joyHere_51 : DD cX12_joyHere 51 (.iaload) 1 52 := ⟨by decide +kernel, rfl⟩
theorem dX12_joyHere_52 : DD cX12_joyHere 52 (.goto 4) 3 55 := ⟨by decide +kernel, rfl⟩
theorem dX12_joyHere_55 : DD cX12_joyHere 55 (.iconst 0) 1 56 := ⟨by decide +kernel, rfl⟩
theorem dX12_joyHere_56 : DD cX12_joyHere 56 (.iadd) 1 57 := ⟨by decide +kernel, rfl⟩
theorem dX12_joyHere_57 : DD cX12_joyHere 57 (.istore_n 2) 1 58 := ⟨by decide +kernel, rfl⟩
theorem dX12_joyHere_58 : DD cX12_joyHere 58 (.iinc 3 1) 3 61 := ⟨by decide +kernel, rfl⟩
theorem dX12_joyHere_61 : DD cX12_joyHere 61 (.goto (-52)) 3 64 := ⟨by decide +kernel, rfl⟩
theorem dX12_joyHere_64 : DD cX12_joyHere 64 (.iload_n 2) 1 65 := ⟨by decide +kernel, rfl⟩
theorem dX12_joyHere_65 : DD cX12_joyHere 65 (.ireturn) 1 66 := ⟨by decide +kernel, rfl⟩
def gX12_joyHere (m : Mem) : Nat → Int32 → Int32 → Int32 → Option Int32
  | 0, _, _, _ => none
  | f + 1, x1, x2, x3 => (if (m.1 0 52) ≤ x3 then (some x2) else (rd (m.1 23) 10 x3 fun v2 => (if v2 = x1 then (cP (fX12_canMeet m x3) fun r4 => (if r4 = 0 then (nm (x2 + (0 : Int32)) fun v7 => (gX12_joyHere m f x1 v7 (x3 + (1 : Int32)))) else (rd (m.1 26) 10 x3 fun v8 => (nm (x2 + v8) fun v9 => (gX12_joyHere m f x1 v9 (x3 + (1 : Int32))))))) else (rd (m.1 24) 10 x3 fun v10 => (if v10 = x1 then (cP (fX12_canMeet m x3) fun r13 => (if r13 = 0 then (nm (x2 + (0 : Int32)) fun v16 => (gX12_joyHere m f x1 v16 (x3 + (1 : Int32)))) else (rd (m.1 26) 10 x3 fun v17 => (nm (x2 + v17) fun v18 => (gX12_joyHere m f x1 v18 (x3 + (1 : Int32))))))) else (nm (x2 + (0 : Int32)) fun v12 => (gX12_joyHere m f x1 v12 (x3 + (1 : Int32)))))))))
def fX12_joyHere (m : Mem) (x1 : Int32) : Option Int32 := (cP (fX12_harmOf m x1) fun r1 => (gX12_joyHere m 5000 x1 (-r1) (0 : Int32)))
set_option maxHeartbeats 4000000 in
set_option maxRecDepth 100000 in
theorem wX12_joyHere {X : Cx} {G : Gt} (h : OkX (X, G, wM, nM) cX12_joyHere RX12 4 (some .int) 4) (m : Mem) : ∀ f : Nat, (∀ (x1 : Int32) (x2 : Int32) (x3 : Int32), JR (X, G, wM, nM) (cvP m) m 9 [some (.ref (G.2.2 0)), some (.int x1), some (.int x2), some (.int x3)] [] (gX12_joyHere m f x1 x2 x3)) := by
  intro f
  induction f with
  | zero => exact (fun _ _ _ => j_none)
  | succ f ih =>
    intro x1 x2 x3
    rw [gX12_joyHere]
    refine j_iload_n h dX12_joyHere_9 rfl ?_
    refine j_aload_n h dX12_joyHere_10 rfl ?_
    refine gM_52 h dX12_joyHere_11 ?_
    refine j_icmp_ge (tgt := 64) h dX12_joyHere_14 (by decide) (fun c1 => ?_) (fun c1 => ?_)
    · refine j_iload_n h dX12_joyHere_64 rfl ?_
      exact j_iret h rfl dX12_joyHere_65
    · refine j_iload_n h dX12_joyHere_17 rfl ?_
      refine j_aload_n h dX12_joyHere_18 rfl ?_
      refine gM_37 h dX12_joyHere_19 ?_
      refine j_iload_n h dX12_joyHere_22 rfl ?_
      refine aM_23 h dX12_joyHere_23 (fun v2 hv2 => ?_)
      refine j_iload_n h dX12_joyHere_24 rfl ?_
      refine j_icmp_eq (tgt := 38) h dX12_joyHere_25 (by decide) (fun c3 => ?_) (fun c3 => ?_)
      · refine j_aload_n h dX12_joyHere_38 rfl ?_
        refine j_iload_n h dX12_joyHere_39 rfl ?_
        refine j_callVP (q0 := 0) (ci := 12) h [.int x3] (kX12_canMeet _ G h.2.2.2.2.2.2.2.2.2.2 m x3) okX12_canMeet inX12_canMeet ml12_447 rfl rfl rfl rfl (by decide) (by decide) (Nat.le_of_ble_eq_true rfl) rfl dX12_joyHere_40 (fun r4 hr4 => ?_)
        refine j_if_eq (tgt := 55) h dX12_joyHere_43 (by decide) (fun c6 => ?_) (fun c6 => ?_)
        · refine j_iconst (v := (0 : Int32)) h dX12_joyHere_55 kiconst_0 ?_
          refine j_iadd h dX12_joyHere_56 ?_
          refine j_nm (fun v7 hv7 => ?_)
          refine j_istore_n h dX12_joyHere_57 rfl rfl ?_
          refine j_iinc (v := (x3 + (1 : Int32))) h dX12_joyHere_58 rfl (by rw [kiconst_1]) rfl ?_
          refine j_goto (tgt := 9) h dX12_joyHere_61 (by decide) ?_
          refine j_wk (ls' := [some (.ref (G.2.2 0)), some (.int x1), some (.int v7), some (.int (x3 + (1 : Int32)))]) (And.intro rfl (And.intro rfl (And.intro rfl (And.intro rfl trivial)))) ?_
          exact ih x1 v7 (x3 + (1 : Int32))
        · refine j_aload_n h dX12_joyHere_46 rfl ?_
          refine gM_40 h dX12_joyHere_47 ?_
          refine j_iload_n h dX12_joyHere_50 rfl ?_
          refine aM_26 h dX12_joyHere_51 (fun v8 hv8 => ?_)
          refine j_goto (tgt := 56) h dX12_joyHere_52 (by decide) ?_
          refine j_iadd h dX12_joyHere_56 ?_
          refine j_nm (fun v9 hv9 => ?_)
          refine j_istore_n h dX12_joyHere_57 rfl rfl ?_
          refine j_iinc (v := (x3 + (1 : Int32))) h dX12_joyHere_58 rfl (by rw [kiconst_1]) rfl ?_
          refine j_goto (tgt := 9) h dX12_joyHere_61 (by decide) ?_
          refine j_wk (ls' := [some (.ref (G.2.2 0)), some (.int x1), some (.int v9), some (.int (x3 + (1 : Int32)))]) (And.intro rfl (And.intro rfl (And.intro rfl (And.intro rfl trivial)))) ?_
          exact ih x1 v9 (x3 + (1 : Int32))
      · refine j_aload_n h dX12_joyHere_28 rfl ?_
        refine gM_38 h dX12_joyHere_29 ?_
        refine j_iload_n h dX12_joyHere_32 rfl ?_
        refine aM_24 h dX12_joyHere_33 (fun v10 hv10 => ?_)
        refine j_iload_n h dX12_joyHere_34 rfl ?_
        refine j_icmp_ne (tgt := 55) h dX12_joyHere_35 (by decide) (fun c11 => ?_) (fun c11 => ?_)
        · refine j_iconst (v := (0 : Int32)) h dX12_joyHere_55 kiconst_0 ?_
          refine j_iadd h dX12_joyHere_56 ?_
          refine j_nm (fun v12 hv12 => ?_)
          refine j_istore_n h dX12_joyHere_57 rfl rfl ?_
          refine j_iinc (v := (x3 + (1 : Int32))) h dX12_joyHere_58 rfl (by rw [kiconst_1]) rfl ?_
          refine j_goto (tgt := 9) h dX12_joyHere_61 (by decide) ?_
          refine j_wk (ls' := [some (.ref (G.2.2 0)), some (.int x1), some (.int v12), some (.int (x3 + (1 : Int32)))]) (And.intro rfl (And.intro rfl (And.intro rfl (And.intro rfl trivial)))) ?_
          exact ih x1 v12 (x3 + (1 : Int32))
        · refine j_aload_n h dX12_joyHere_38 rfl ?_
          refine j_iload_n h dX12_joyHere_39 rfl ?_
          refine j_callVP (q0 := 0) (ci := 12) h [.int x3] (kX12_canMeet _ G h.2.2.2.2.2.2.2.2.2.2 m x3) okX12_canMeet inX12_canMeet ml12_447 rfl rfl rfl rfl (by decide) (by decide) (Nat.le_of_ble_eq_true rfl) rfl dX12_joyHere_40 (fun r13 hr13 => ?_)
          refine j_if_eq (tgt := 55) h dX12_joyHere_43 (by decide) (fun c15 => ?_) (fun c15 => ?_)
          · refine j_iconst (v := (0 : Int32)) h dX12_joyHere_55 kiconst_0 ?_
            refine j_iadd h dX12_joyHere_56 ?_
            refine j_nm (fun v16 hv16 => ?_)
            refine j_istore_n h dX12_joyHere_57 rfl rfl ?_
            refine j_iinc (v := (x3 + (1 : Int32))) h dX12_joyHere_58 rfl (by rw [kiconst_1]) rfl ?_
            refine j_goto (tgt := 9) h dX12_joyHere_61 (by decide) ?_
            refine j_wk (ls' := [some (.ref (G.2.2 0)), some (.int x1), some (.int v16), some (.int (x3 + (1 : Int32)))]) (And.intro rfl (And.intro rfl (And.intro rfl (And.intro rfl trivial)))) ?_
            exact ih x1 v16 (x3 + (1 : Int32))
          · refine j_aload_n h dX12_joyHere_46 rfl ?_
            refine gM_40 h dX12_joyHere_47 ?_
            refine j_iload_n h dX12_joyHere_50 rfl ?_
            refine aM_26 h dX12_joyHere_51 (fun v17 hv17 => ?_)
            refine j_goto (tgt := 56) h dX12_joyHere_52 (by decide) ?_
            refine j_iadd h dX12_joyHere_56 ?_
            refine j_nm (fun v18 hv18 => ?_)
            refine j_istore_n h dX12_joyHere_57 rfl rfl ?_
            refine j_iinc (v := (x3 + (1 : Int32))) h dX12_joyHere_58 rfl (by rw [kiconst_1]) rfl ?_
            refine j_goto (tgt := 9) h dX12_joyHere_61 (by decide) ?_
            refine j_wk (ls' := [some (.ref (G.2.2 0)), some (.int x1), some (.int v18), some (.int (x3 + (1 : Int32)))]) (And.intro rfl (And.intro rfl (And.intro rfl (And.intro rfl trivial)))) ?_
            exact ih x1 v18 (x3 + (1 : Int32))
set_option maxHeartbeats 4000000 in
set_option maxRecDepth 100000 in
theorem kX12_joyHere (l : Launch) (G : Gt) (hD : ∀ m, va_D (inA G nM) (wM G m)) (m : Mem) (x1 : Int32) : ∀ a, fX12_joyHere m x1 = some a → Ct l G wM nM yX12_joyHere cX12_joyHere 4 (some .int) 4 [.ref (G.2.2 0), .int x1] m ((cvP m) a) := by
  refine ct_of (own := RX12) (ls0 := [some (.ref (G.2.2 0)), some (.int x1), none, none]) (by decide) rfl rfl rfl (Nat.le_of_ble_eq_true rfl) hD (fun X h => ?_) l
  unfold fX12_joyHere
  refine j_aload_n h dX12_joyHere_0 rfl ?_
  refine j_iload_n h dX12_joyHere_1 rfl ?_
  refine j_callVP (q0 := 0) (ci := 12) h [.int x1] (kX12_harmOf _ G h.2.2.2.2.2.2.2.2.2.2 m x1) okX12_harmOf inX12_harmOf ml12_438 rfl rfl rfl rfl (by decide) (by decide) (Nat.le_of_ble_eq_true rfl) rfl dX12_joyHere_2 (fun r1 hr1 => ?_)
  refine j_ineg h dX12_joyHere_5 ?_
  refine j_istore_n h dX12_joyHere_6 rfl rfl ?_
  refine j_iconst (v := (0 : Int32)) h dX12_joyHere_7 kiconst_0 ?_
  refine j_istore_n h dX12_joyHere_8 rfl rfl ?_
  refine j_wk (ls' := [some (.ref (G.2.2 0)), some (.int x1), some (.int (-r1)), some (.int (0 : Int32))]) (And.intro rfl (And.intro rfl (And.intro rfl (And.intro rfl trivial)))) ?_
  exact (wX12_joyHere h m 5000) x1 (-r1) (0 : Int32)
theorem dX12_joy_0 : DD cX12_joy 0 (.aload_n 0) 1 1 := ⟨by decide +kernel, rfl⟩
theorem dX12_joy_1 : DD cX12_joy 1 (.iload_n 1) 1 2 := ⟨by decide +kernel, rfl⟩
theorem dX12_joy_2 : DD cX12_joy 2 (.invokevirtual 450) 3 5 := ⟨by decide +kernel, rfl⟩
theorem dX12_joy_5 : DD cX12_joy 5 (.ifCond .eq 10) 3 8 := ⟨by decide +kernel, rfl⟩
theorem dX12_joy_8 : DD cX12_joy 8 (.iload_n 2) 1 9 := ⟨by decide +kernel, rfl⟩
theorem dX12_joy_9 : DD cX12_joy 9 (.invokestatic 462) 3 12 := ⟨by decide +kernel, rfl⟩
theorem dX12_joy_12 : DD cX12_joy 12 (.ifCond .ne 7) 3 15 := ⟨by decide +kernel, rfl⟩
theorem dX12_joy_15 : DD cX12_joy 15 (.ldc_w 486) 3 18 := ⟨by decide +kernel, rfl⟩
theorem dX12_joy_18 : DD cX12_joy 18 (.ireturn) 1 19 := ⟨by decide +kernel, rfl⟩
theorem dX12_joy_19 : DD cX12_joy 19 (.aload_n 0) 1 20 := ⟨by decide +kernel, rfl⟩
theorem dX12_joy_20 : DD cX12_joy 20 (.iload_n 2) 1 21 := ⟨by decide +kernel, rfl⟩
theorem dX12_joy_21 : DD cX12_joy 21 (.invokevirtual 453) 3 24 := ⟨by decide +kernel, rfl⟩
theorem dX12_joy_24 : DD cX12_joy 24 (.aload_n 0) 1 25 := ⟨by decide +kernel, rfl⟩
theorem dX12_joy_25 : DD cX12_joy 25 (.iload_n 1) 1 26 := ⟨by decide +kernel, rfl⟩
theorem dX12_joy_26 : DD cX12_joy 26 (.invokevirtual 496) 3 29 := ⟨by decide +kernel, rfl⟩
theorem dX12_joy_29 : DD cX12_joy 29 (.ireturn) 1 30 := ⟨by decide +kernel, rfl⟩
def fX12_joy (m : Mem) (x1 : Int32) (x2 : Int32) : Option (Int32 × Mem) := (cP (fX12_isPerson m x1) fun r1 => (if r1 = 0 then (some ((-1000000 : Int32), m)) else (cP (fX12_isDate x2) fun r4 => (if r4 = 0 then (some ((-1000000 : Int32), m)) else (cV (fX12_loadDate m x2) fun m8 => (cP (fX12_joyHere m8 x1) fun r9 => (some (r9, m8))))))))
set_option maxHeartbeats 4000000 in
set_option maxRecDepth 100000 in
theorem kX12_joy (l : Launch) (G : Gt) (hD : ∀ m, va_D (inA G nM) (wM G m)) (m : Mem) (x1 : Int32) (x2 : Int32) : ∀ a, fX12_joy m x1 x2 = some a → Ct l G wM nM yX12_joy cX12_joy 3 (some .int) 7 [.ref (G.2.2 0), .int x1, .int x2] m (cvI a) := by
  refine ct_of (own := RX12) (ls0 := [some (.ref (G.2.2 0)), some (.int x1), some (.int x2)]) (by decide) rfl rfl rfl (Nat.le_of_ble_eq_true rfl) hD (fun X h => ?_) l
  unfold fX12_joy
  refine j_aload_n h dX12_joy_0 rfl ?_
  refine j_iload_n h dX12_joy_1 rfl ?_
  refine j_callVP (q0 := 0) (ci := 12) h [.int x1] (kX12_isPerson _ G h.2.2.2.2.2.2.2.2.2.2 m x1) okX12_isPerson inX12_isPerson ml12_450 rfl rfl rfl rfl (by decide) (by decide) (Nat.le_of_ble_eq_true rfl) rfl dX12_joy_2 (fun r1 hr1 => ?_)
  refine j_if_eq (tgt := 15) h dX12_joy_5 (by decide) (fun c3 => ?_) (fun c3 => ?_)
  · refine j_ldcw (v := (-1000000 : Int32)) h dX12_joy_15 cn12_486 ?_
    exact j_iret h rfl dX12_joy_18
  · refine j_iload_n h dX12_joy_8 rfl ?_
    refine j_callSP h [.int x2] (kX12_isDate _ G h.2.2.2.2.2.2.2.2.2.2 m x2) okX12_isDate stX12_isDate ml12_462 rfl rfl (by decide) (by decide) (Nat.le_of_ble_eq_true rfl) rfl dX12_joy_9 (fun r4 hr4 => ?_)
    refine j_if_ne (tgt := 19) h dX12_joy_12 (by decide) (fun c6 => ?_) (fun c6 => ?_)
    · refine j_aload_n h dX12_joy_19 rfl ?_
      refine j_iload_n h dX12_joy_20 rfl ?_
      refine j_callVV (q0 := 0) (ci := 12) h [.int x2] (kX12_loadDate _ G h.2.2.2.2.2.2.2.2.2.2 m x2) okX12_loadDate inX12_loadDate ml12_453 rfl rfl rfl rfl (by decide) (by decide) (Nat.le_of_ble_eq_true rfl) rfl dX12_joy_21 (fun m8 hm8 => ?_)
      refine j_aload_n h dX12_joy_24 rfl ?_
      refine j_iload_n h dX12_joy_25 rfl ?_
      refine j_callVP (q0 := 0) (ci := 12) h [.int x1] (kX12_joyHere _ G h.2.2.2.2.2.2.2.2.2.2 m8 x1) okX12_joyHere inX12_joyHere ml12_496 rfl rfl rfl rfl (by decide) (by decide) (Nat.le_of_ble_eq_true rfl) rfl dX12_joy_26 (fun r9 hr9 => ?_)
      exact j_iret h rfl dX12_joy_29
    · refine j_ldcw (v := (-1000000 : Int32)) h dX12_joy_15 cn12_486 ?_
      exact j_iret h rfl dX12_joy_18
theorem dX12_lonely_0 : DD cX12_lonely 0 (.iload_n 1) 1 1 := ⟨by decide +kernel, rfl⟩
theorem dX12_lonely_1 : DD cX12_lonely 1 (.invokestatic 462) 3 4 := ⟨by decide +kernel, rfl⟩
theorem dX12_lonely_4 : DD cX12_lonely 4 (.ifCond .ne 5) 3 7 := ⟨by decide +kernel, rfl⟩
theorem dX12_lonely_7 : DD cX12_lonely 7 (.iconst (-1)) 1 8 := ⟨by decide +kernel, rfl⟩
theorem dX12_lonely_8 : DD cX12_lonely 8 (.ireturn) 1 9 := ⟨by decide +kernel, rfl⟩
theorem dX12_lonely_9 : DD cX12_lonely 9 (.aload_n 0) 1 10 := ⟨by decide +kernel, rfl⟩
theorem dX12_lonely_10 : DD cX12_lonely 10 (.iload_n 1) 1 11 := ⟨by decide +kernel, rfl⟩
theorem dX12_lonely_11 : DD cX12_lonely 11 (.invokevirtual 453) 3 14 := ⟨by decide +kernel, rfl⟩
theorem dX12_lonely_14 : DD cX12_lonely 14 (.iconst 1) 1 15 := ⟨by decide +kernel, rfl⟩
theorem dX12_lonely_15 : DD cX12_lonely 15 (.aload_n 0) 1 16 := ⟨by decide +kernel, rfl⟩
theorem dX12_lonely_16 : DD cX12_lonely 16 (.getfield 378) 3 19 := ⟨by decide +kernel, rfl⟩
theorem dX12_lonely_19 : DD cX12_lonely 19 (.ishl) 1 20 := ⟨by decide +kernel, rfl⟩
theorem dX12_lonely_20 : DD cX12_lonely 20 (.iconst 1) 1 21 := ⟨by decide +kernel, rfl⟩
theorem dX12_lonely_21 : DD cX12_lonely 21 (.isub) 1 22 := ⟨by decide +kernel, rfl⟩
theorem dX12_lonely_22 : DD cX12_lonely 22 (.istore_n 2) 1 23 := ⟨by decide +kernel, rfl⟩
theorem dX12_lonely_23 : DD cX12_lonely 23 (.iconst 0) 1 24 := ⟨by decide +kernel, rfl⟩
theorem dX12_lonely_24 : DD cX12_lonely 24 (.istore_n 3) 1 25 := ⟨by decide +kernel, rfl⟩
theorem dX12_lonely_25 : DD cX12_lonely 25 (.iload_n 3) 1 26 := ⟨by decide +kernel, rfl⟩
theorem dX12_lonely_26 : DD cX12_lonely 26 (.aload_n 0) 1 27 := ⟨by decide +kernel, rfl⟩
theorem dX12_lonely_27 : DD cX12_lonely 27 (.getfield 381) 3 30 := ⟨by decide +kernel, rfl⟩
theorem dX12_lonely_30 : DD cX12_lonely 30 (.if_icmp .ge 39) 3 33 := ⟨by decide +kernel, rfl⟩
theorem dX12_lonely_33 : DD cX12_lonely 33 (.aload_n 0) 1 34 := ⟨by decide +kernel, rfl⟩
theorem dX12_lonely_34 : DD cX12_lonely 34 (.iload_n 3) 1 35 := ⟨by decide +kernel, rfl⟩
theorem dX12_lonely_35 : DD cX12_lonely 35 (.invokevirtual 447) 3 38 := ⟨by decide +kernel, rfl⟩
theorem dX12_lonely_38 : DD cX12_lonely 38 (.ifCond .eq 25) 3 41 := ⟨by decide +kernel, rfl⟩
theorem dX12_lonely_41 : DD cX12_lonely 41 (.iload_n 2) 1 42 := ⟨by decide +kernel, rfl⟩
theorem dX12_lonely_42 : DD cX12_lonely 42 (.iconst 1) 1 43 := ⟨by decide +kernel, rfl⟩
theorem dX12_lonely_43 : DD cX12_lonely 43 (.aload_n 0) 1 44 := ⟨by decide +kernel, rfl⟩
theorem dX12_lonely_44 : DD cX12_lonely 44 (.getfield 82) 3 47 := ⟨by decide +kernel, rfl⟩
theorem dX12_lonely_47 : DD cX12_lonely 47 (.iload_n 3) 1 48 := ⟨by decide +kernel, rfl⟩
theorem dX12_lonely_48 : DD cX12_lonely 48 (.iaload) 1 49 := ⟨by decide +kernel, rfl⟩
theorem dX12_lonely_49 : DD cX12_lonely 49 (.ishl) 1 50 := ⟨by decide +kernel, rfl⟩
theorem dX12_lonely_50 : DD cX12_lonely 50 (.iconst 1) 1 51 := ⟨by decide +kernel, rfl⟩
theorem dX12_lonely_51 : DD cX12_lonely 51 (.aload_n 0) 1 52 := ⟨by decide +kernel, rfl⟩
theorem dX12_lonely_52 : DD cX12_lonely 52 (.getfield 85) 3 55 := ⟨by decide +kernel, rfl⟩
theorem dX12_lonely_55 : DD cX12_lonely 55 (.iload_n 3) 1 56 := ⟨by decide +kernel, rfl⟩
theorem dX12_lonely_56 : DD cX12_lonely 56 (.iaload) 1 57 := ⟨by decide +kernel, rfl⟩
theorem dX12_lonely_57 : DD cX12_lonely 57 (.ishl) 1 58 := ⟨by decide +kernel, rfl⟩
theorem dX12_lonely_58 : DD cX12_lonely 58 (.ior) 1 59 := ⟨by decide +kernel, rfl⟩
theorem dX12_lonely_59 : DD cX12_lonely 59 (.iconst (-1)) 1 60 := ⟨by decide +kernel, rfl⟩
theorem dX12_lonely_60 : DD cX12_lonely 60 (.ixor) 1 61 := ⟨by decide +kernel, rfl⟩
theorem dX12_lonely_61 : DD cX12_lonely 61 (.iand) 1 62 := ⟨by decide +kernel, rfl⟩
theorem dX12_lonely_62 : DD cX12_lonely 62 (.istore_n 2) 1 63 := ⟨by decide +kernel, rfl⟩
theorem dX12_lonely_63 : DD cX12_lonely 63 (.iinc 3 1) 3 66 := ⟨by decide +kernel, rfl⟩
theorem dX12_lonely_66 : DD cX12_lonely 66 (.goto (-41)) 3 69 := ⟨by decide +kernel, rfl⟩
theorem dX12_lonely_69 : DD cX12_lonely 69 (.iload_n 2) 1 70 := ⟨by decide +kernel, rfl⟩
theorem dX12_lonely_70 : DD cX12_lonely 70 (.ireturn) 1 71 := ⟨by decide +kernel, rfl⟩
def gX12_lonely : Nat → Int32 → Int32 → Mem → Option (Int32 × Mem)
  | 0, _, _, _ => none
  | f + 1, x2, x3, m => (if (m.1 0 52) ≤ x3 then (some (x2, m)) else (cP (fX12_canMeet m x3) fun r2 => (if r2 = 0 then (gX12_lonely f x2 (x3 + (1 : Int32)) m) else (rd (m.1 23) 10 x3 fun v5 => (rd (m.1 24) 10 x3 fun v6 => (nm (x2 &&& ((((1 : Int32) <<< (v5 &&& 31)) ||| ((1 : Int32) <<< (v6 &&& 31))) ^^^ (-1 : Int32))) fun v7 => (gX12_lonely f v7 (x3 + (1 : Int32)) m)))))))
def fX12_lonely (m : Mem) (x1 : Int32) : Option (Int32 × Mem) := (cP (fX12_isDate x1) fun r1 => (if r1 = 0 then (some ((-1 : Int32), m)) else (cV (fX12_loadDate m x1) fun m5 => (nm (((1 : Int32) <<< ((m5.1 0 51) &&& 31)) - (1 : Int32)) fun v6 => (gX12_lonely 5000 v6 (0 : Int32) m5)))))
set_option maxHeartbeats 4000000 in
set_option maxRecDepth 100000 in
theorem wX12_lonely {X : Cx} {G : Gt} (h : OkX (X, G, wM, nM) cX12_lonely RX12 4 (some .int) 7) : ∀ f : Nat, (∀ (x2 : Int32) (x3 : Int32) (m : Mem), JR (X, G, wM, nM) cvI m 25 [some (.ref (G.2.2 0)), none, some (.int x2), some (.int x3)] [] (gX12_lonely f x2 x3 m)) := by
  intro f
  induction f with
  | zero => exact (fun _ _ _ => j_none)
  | succ f ih =>
    intro x2 x3 m
    rw [gX12_lonely]
    refine j_iload_n h dX12_lonely_25 rfl ?_
    refine j_aload_n h dX12_lonely_26 rfl ?_
    refine gM_52 h dX12_lonely_27 ?_
    refine j_icmp_ge (tgt := 69) h dX12_lonely_30 (by decide) (fun c1 => ?_) (fun c1 => ?_)
    · refine j_iload_n h dX12_lonely_69 rfl ?_
      exact j_iret h rfl dX12_lonely_70
    · refine j_aload_n h dX12_lonely_33 rfl ?_
      refine j_iload_n h dX12_lonely_34 rfl ?_
      refine j_callVP (q0 := 0) (ci := 12) h [.int x3] (kX12_canMeet _ G h.2.2.2.2.2.2.2.2.2.2 m x3) okX12_canMeet inX12_canMeet ml12_447 rfl rfl rfl rfl (by decide) (by decide) (Nat.le_of_ble_eq_true rfl) rfl dX12_lonely_35 (fun r2 hr2 => ?_)
      refine j_if_eq (tgt := 63) h dX12_lonely_38 (by decide) (fun c4 => ?_) (fun c4 => ?_)
      · refine j_iinc (v := (x3 + (1 : Int32))) h dX12_lonely_63 rfl (by rw [kiconst_1]) rfl ?_
        refine j_goto (tgt := 25) h dX12_lonely_66 (by decide) ?_
        refine j_wk (ls' := [some (.ref (G.2.2 0)), none, some (.int x2), some (.int (x3 + (1 : Int32)))]) (And.intro rfl (And.intro rfl (And.intro rfl trivial))) ?_
        exact ih x2 (x3 + (1 : Int32)) m
      · refine j_iload_n h dX12_lonely_41 rfl ?_
        refine j_iconst (v := (1 : Int32)) h dX12_lonely_42 kiconst_1 ?_
        refine j_aload_n h dX12_lonely_43 rfl ?_
        refine gM_37 h dX12_lonely_44 ?_
        refine j_iload_n h dX12_lonely_47 rfl ?_
        refine aM_23 h dX12_lonely_48 (fun v5 hv5 => ?_)
        refine j_ishl h dX12_lonely_49 ?_
        refine j_iconst (v := (1 : Int32)) h dX12_lonely_50 kiconst_1 ?_
        refine j_aload_n h dX12_lonely_51 rfl ?_
        refine gM_38 h dX12_lonely_52 ?_
        refine j_iload_n h dX12_lonely_55 rfl ?_
        refine aM_24 h dX12_lonely_56 (fun v6 hv6 => ?_)
        refine j_ishl h dX12_lonely_57 ?_
        refine j_ior h dX12_lonely_58 ?_
        refine j_iconst (v := (-1 : Int32)) h dX12_lonely_59 kiconst_m1 ?_
        refine j_ixor h dX12_lonely_60 ?_
        refine j_iand h dX12_lonely_61 ?_
        refine j_nm (fun v7 hv7 => ?_)
        refine j_istore_n h dX12_lonely_62 rfl rfl ?_
        refine j_iinc (v := (x3 + (1 : Int32))) h dX12_lonely_63 rfl (by rw [kiconst_1]) rfl ?_
        refine j_goto (tgt := 25) h dX12_lonely_66 (by decide) ?_
        refine j_wk (ls' := [some (.ref (G.2.2 0)), none, some (.int v7), some (.int (x3 + (1 : Int32)))]) (And.intro rfl (And.intro rfl (And.intro rfl trivial))) ?_
        exact ih v7 (x3 + (1 : Int32)) m
set_option maxHeartbeats 4000000 in
set_option maxRecDepth 100000 in
theorem kX12_lonely (l : Launch) (G : Gt) (hD : ∀ m, va_D (inA G nM) (wM G m)) (m : Mem) (x1 : Int32) : ∀ a, fX12_lonely m x1 = some a → Ct l G wM nM yX12_lonely cX12_lonely 4 (some .int) 7 [.ref (G.2.2 0), .int x1] m (cvI a) := by
  refine ct_of (own := RX12) (ls0 := [some (.ref (G.2.2 0)), some (.int x1), none, none]) (by decide) rfl rfl rfl (Nat.le_of_ble_eq_true rfl) hD (fun X h => ?_) l
  unfold fX12_lonely
  refine j_iload_n h dX12_lonely_0 rfl ?_
  refine j_callSP h [.int x1] (kX12_isDate _ G h.2.2.2.2.2.2.2.2.2.2 m x1) okX12_isDate stX12_isDate ml12_462 rfl rfl (by decide) (by decide) (Nat.le_of_ble_eq_true rfl) rfl dX12_lonely_1 (fun r1 hr1 => ?_)
  refine j_if_ne (tgt := 9) h dX12_lonely_4 (by decide) (fun c3 => ?_) (fun c3 => ?_)
  · refine j_aload_n h dX12_lonely_9 rfl ?_
    refine j_iload_n h dX12_lonely_10 rfl ?_
    refine j_callVV (q0 := 0) (ci := 12) h [.int x1] (kX12_loadDate _ G h.2.2.2.2.2.2.2.2.2.2 m x1) okX12_loadDate inX12_loadDate ml12_453 rfl rfl rfl rfl (by decide) (by decide) (Nat.le_of_ble_eq_true rfl) rfl dX12_lonely_11 (fun m5 hm5 => ?_)
    refine j_iconst (v := (1 : Int32)) h dX12_lonely_14 kiconst_1 ?_
    refine j_aload_n h dX12_lonely_15 rfl ?_
    refine gM_51 h dX12_lonely_16 ?_
    refine j_ishl h dX12_lonely_19 ?_
    refine j_iconst (v := (1 : Int32)) h dX12_lonely_20 kiconst_1 ?_
    refine j_isub h dX12_lonely_21 ?_
    refine j_nm (fun v6 hv6 => ?_)
    refine j_istore_n h dX12_lonely_22 rfl rfl ?_
    refine j_iconst (v := (0 : Int32)) h dX12_lonely_23 kiconst_0 ?_
    refine j_istore_n h dX12_lonely_24 rfl rfl ?_
    refine j_wk (ls' := [some (.ref (G.2.2 0)), none, some (.int v6), some (.int (0 : Int32))]) (And.intro rfl (And.intro rfl (And.intro rfl trivial))) ?_
    exact (wX12_lonely h 5000) v6 (0 : Int32) m5
  · refine j_iconst (v := (-1 : Int32)) h dX12_lonely_7 kiconst_m1 ?_
    exact j_iret h rfl dX12_lonely_8
theorem dX12_hinges_0 : DD cX12_hinges 0 (.iload_n 1) 1 1 := ⟨by decide +kernel, rfl⟩
theorem dX12_hinges_1 : DD cX12_hinges 1 (.invokestatic 462) 3 4 := ⟨by decide +kernel, rfl⟩
theorem dX12_hinges_4 : DD cX12_hinges 4 (.ifCond .ne 5) 3 7 := ⟨by decide +kernel, rfl⟩
theorem dX12_hinges_7 : DD cX12_hinges 7 (.iconst (-1)) 1 8 := ⟨by decide +kernel, rfl⟩
theorem dX12_hinges_8 : DD cX12_hinges 8 (.ireturn) 1 9 := ⟨by decide +kernel, rfl⟩
theorem dX12_hinges_9 : DD cX12_hinges 9 (.aload_n 0) 1 10 := ⟨by decide +kernel, rfl⟩
theorem dX12_hinges_10 : DD cX12_hinges 10 (.iload_n 1) 1 11 := ⟨by decide +kernel, rfl⟩
theorem dX12_hinges_11 : DD cX12_hinges 11 (.invokevirtual 453) 3 14 := ⟨by decide +kernel, rfl⟩
theorem dX12_hinges_14 : DD cX12_hinges 14 (.ldc_w 499) 3 17 := ⟨by decide +kernel, rfl⟩
theorem dX12_hinges_17 : DD cX12_hinges 17 (.istore_n 2) 1 18 := ⟨by decide +kernel, rfl⟩
theorem dX12_hinges_18 : DD cX12_hinges 18 (.iconst 0) 1 19 := ⟨by decide +kernel, rfl⟩
theorem dX12_hinges_19 : DD cX12_hinges 19 (.istore_n 3) 1 20 := ⟨by decide +kernel, rfl⟩
theorem dX12_hinges_20 : DD cX12_hinges 20 (.iload_n 3) 1 21 := ⟨by decide +kernel, rfl⟩
theorem dX12_hinges_21 : DD cX12_hinges 21 (.aload_n 0) 1 22 := ⟨by decide +kernel, rfl⟩
theorem dX12_hinges_22 : DD cX12_hinges 22 (.getfield 378) 3 25 := ⟨by decide +kernel, rfl⟩
theorem dX12_hinges_25 : DD cX12_hinges 25 (.if_icmp .ge 23) 3 28 := ⟨by decide +kernel, rfl⟩
theorem dX12_hinges_28 : DD cX12_hinges 28 (.iload_n 2) 1 29 := ⟨by decide +kernel, rfl⟩
theorem dX12_hinges_29 : DD cX12_hinges 29 (.aload_n 0) 1 30 := ⟨by decide +kernel, rfl⟩
theorem dX12_hinges_30 : DD cX12_hinges 30 (.getfield 118) 3 33 := ⟨by decide +kernel, rfl⟩
theorem dX12_hinges_33 : DD cX12_hinges 33 (.aload_n 0) 1 34 := ⟨by decide +kernel, rfl⟩
theorem dX12_hinges_34 : DD cX12_hinges 34 (.getfield 115) 3 37 := ⟨by decide +kernel, rfl⟩
theorem dX12_hinges_37 : DD cX12_hinges 37 (.iload_n 3) 1 38 := ⟨by decide +kernel, rfl⟩
theorem dX12_hinges_38 : DD cX12_hinges 38 (.iaload) 1 39 := ⟨by decide +kernel, rfl⟩
theorem dX12_hinges_39 : DD cX12_hinges 39 (.iaload) 1 40 := ⟨by decide +kernel, rfl⟩
theorem dX12_hinges_40 : DD cX12_hinges 40 (.iand) 1 41 := ⟨by decide +kernel, rfl⟩
theorem dX12_hinges_41 : DD cX12_hinges 41 (.istore_n 2) 1 42 := ⟨by decide +kernel, rfl⟩
theorem dX12_hinges_42 : DD cX12_hinges 42 (.iinc 3 1) 3 45 := ⟨by decide +kernel, rfl⟩
theorem dX12_hinges_45 : DD cX12_hinges 45 (.goto (-25)) 3 48 := ⟨by decide +kernel, rfl⟩
theorem dX12_hinges_48 : DD cX12_hinges 48 (.iload_n 2) 1 49 := ⟨by decide +kernel, rfl⟩
theorem dX12_hinges_49 : DD cX12_hinges 49 (.ireturn) 1 50 := ⟨by decide +kernel, rfl⟩
def gX12_hinges : Nat → Int32 → Int32 → Mem → Option (Int32 × Mem)
  | 0, _, _, _ => none
  | f + 1, x2, x3, m => (if (m.1 0 51) ≤ x3 then (some (x2, m)) else (rd (m.1 34) 37 x3 fun v2 => (rd (m.1 35) 3 v2 fun v3 => (nm (x2 &&& v3) fun v4 => (gX12_hinges f v4 (x3 + (1 : Int32)) m)))))
def fX12_hinges (m : Mem) (x1 : Int32) : Option (Int32 × Mem) := (cP (fX12_isDate x1) fun r1 => (if r1 = 0 then (some ((-1 : Int32), m)) else (cV (fX12_loadDate m x1) fun m5 => (gX12_hinges 5000 (16777215 : Int32) (0 : Int32) m5))))
set_option maxHeartbeats 4000000 in
set_option maxRecDepth 100000 in
theorem wX12_hinges {X : Cx} {G : Gt} (h : OkX (X, G, wM, nM) cX12_hinges RX12 4 (some .int) 7) : ∀ f : Nat, (∀ (x2 : Int32) (x3 : Int32) (m : Mem), JR (X, G, wM, nM) cvI m 20 [some (.ref (G.2.2 0)), none, some (.int x2), some (.int x3)] [] (gX12_hinges f x2 x3 m)) := by
  intro f
  induction f with
  | zero => exact (fun _ _ _ => j_none)
  | succ f ih =>
    intro x2 x3 m
    rw [gX12_hinges]
    refine j_iload_n h dX12_hinges_20 rfl ?_
    refine j_aload_n h dX12_hinges_21 rfl ?_
    refine gM_51 h dX12_hinges_22 ?_
    refine j_icmp_ge (tgt := 48) h dX12_hinges_25 (by decide) (fun c1 => ?_) (fun c1 => ?_)
    · refine j_iload_n h dX12_hinges_48 rfl ?_
      exact j_iret h rfl dX12_hinges_49
    · refine j_iload_n h dX12_hinges_28 rfl ?_
      refine j_aload_n h dX12_hinges_29 rfl ?_
      refine gM_57 h dX12_hinges_30 ?_
      refine j_aload_n h dX12_hinges_33 rfl ?_
      refine gM_56 h dX12_hinges_34 ?_
      refine j_iload_n h dX12_hinges_37 rfl ?_
      refine aM_34 h dX12_hinges_38 (fun v2 hv2 => ?_)
      refine aM_35 h dX12_hinges_39 (fun v3 hv3 => ?_)
      refine j_iand h dX12_hinges_40 ?_
      refine j_nm (fun v4 hv4 => ?_)
      refine j_istore_n h dX12_hinges_41 rfl rfl ?_
      refine j_iinc (v := (x3 + (1 : Int32))) h dX12_hinges_42 rfl (by rw [kiconst_1]) rfl ?_
      refine j_goto (tgt := 20) h dX12_hinges_45 (by decide) ?_
      refine j_wk (ls' := [some (.ref (G.2.2 0)), none, some (.int v4), some (.int (x3 + (1 : Int32)))]) (And.intro rfl (And.intro rfl (And.intro rfl trivial))) ?_
      exact ih v4 (x3 + (1 : Int32)) m
set_option maxHeartbeats 4000000 in
set_option maxRecDepth 100000 in
theorem kX12_hinges (l : Launch) (G : Gt) (hD : ∀ m, va_D (inA G nM) (wM G m)) (m : Mem) (x1 : Int32) : ∀ a, fX12_hinges m x1 = some a → Ct l G wM nM yX12_hinges cX12_hinges 4 (some .int) 7 [.ref (G.2.2 0), .int x1] m (cvI a) := by
  refine ct_of (own := RX12) (ls0 := [some (.ref (G.2.2 0)), some (.int x1), none, none]) (by decide) rfl rfl rfl (Nat.le_of_ble_eq_true rfl) hD (fun X h => ?_) l
  unfold fX12_hinges
  refine j_iload_n h dX12_hinges_0 rfl ?_
  refine j_callSP h [.int x1] (kX12_isDate _ G h.2.2.2.2.2.2.2.2.2.2 m x1) okX12_isDate stX12_isDate ml12_462 rfl rfl (by decide) (by decide) (Nat.le_of_ble_eq_true rfl) rfl dX12_hinges_1 (fun r1 hr1 => ?_)
  refine j_if_ne (tgt := 9) h dX12_hinges_4 (by decide) (fun c3 => ?_) (fun c3 => ?_)
  · refine j_aload_n h dX12_hinges_9 rfl ?_
    refine j_iload_n h dX12_hinges_10 rfl ?_
    refine j_callVV (q0 := 0) (ci := 12) h [.int x1] (kX12_loadDate _ G h.2.2.2.2.2.2.2.2.2.2 m x1) okX12_loadDate inX12_loadDate ml12_453 rfl rfl rfl rfl (by decide) (by decide) (Nat.le_of_ble_eq_true rfl) rfl dX12_hinges_11 (fun m5 hm5 => ?_)
    refine j_ldcw (v := (16777215 : Int32)) h dX12_hinges_14 cn12_499 ?_
    refine j_istore_n h dX12_hinges_17 rfl rfl ?_
    refine j_iconst (v := (0 : Int32)) h dX12_hinges_18 kiconst_0 ?_
    refine j_istore_n h dX12_hinges_19 rfl rfl ?_
    refine j_wk (ls' := [some (.ref (G.2.2 0)), none, some (.int (16777215 : Int32)), some (.int (0 : Int32))]) (And.intro rfl (And.intro rfl (And.intro rfl trivial))) ?_
    exact (wX12_hinges h 5000) (16777215 : Int32) (0 : Int32) m5
  · refine j_iconst (v := (-1 : Int32)) h dX12_hinges_7 kiconst_m1 ?_
    exact j_iret h rfl dX12_hinges_8
theorem dX12_loudest_0 : DD cX12_loudest 0 (.iload_n 1) 1 1 := ⟨by decide +kernel, rfl⟩
theorem dX12_loudest_1 : DD cX12_loudest 1 (.invokestatic 462) 3 4 := ⟨by decide +kernel, rfl⟩
theorem dX12_loudest_4 : DD cX12_loudest 4 (.ifCond .eq 12) 3 7 := ⟨by decide +kernel, rfl⟩
theorem dX12_loudest_7 : DD cX12_loudest 7 (.iload_n 2) 1 8 := ⟨by decide +kernel, rfl⟩
theorem dX12_loudest_8 : DD cX12_loudest 8 (.iconst 0) 1 9 := ⟨by decide +kernel, rfl⟩
theorem dX12_loudest_9 : DD cX12_loudest 9 (.iconst 1) 1 10 := ⟨by decide +kernel, rfl⟩
theorem dX12_loudest_10 : DD cX12_loudest 10 (.invokestatic 402) 3 13 := ⟨by decide +kernel, rfl⟩
theorem dX12_loudest_13 : DD cX12_loudest 13 (.ifCond .ne 5) 3 16 := ⟨by decide +kernel, rfl⟩
theorem dX12_loudest_16 : DD cX12_loudest 16 (.iconst (-1)) 1 17 := ⟨by decide +kernel, rfl⟩
theorem dX12_loudest_17 : DD cX12_loudest 17 (.ireturn) 1 18 := ⟨by decide +kernel, rfl⟩
theorem dX12_loudest_18 : DD cX12_loudest 18 (.aload_n 0) 1 19 := ⟨by decide +kernel, rfl⟩
theorem dX12_loudest_19 : DD cX12_loudest 19 (.iload_n 1) 1 20 := ⟨by decide +kernel, rfl⟩
theorem dX12_loudest_20 : DD cX12_loudest 20 (.invokevirtual 453) 3 23 := ⟨by decide +kernel, rfl⟩
theorem dX12_loudest_23 : DD cX12_loudest 23 (.aload_n 0) 1 24 := ⟨by decide +kernel, rfl⟩
theorem dX12_loudest_24 : DD cX12_loudest 24 (.invokevirtual 483) 3 27 := ⟨by decide +kernel, rfl⟩
theorem dX12_loudest_27 : DD cX12_loudest 27 (.istore_n 3) 1 28 := ⟨by decide +kernel, rfl⟩
theorem dX12_loudest_28 : DD cX12_loudest 28 (.iconst (-1)) 1 29 := ⟨by decide +kernel, rfl⟩
theorem dX12_loudest_29 : DD cX12_loudest 29 (.istore 4) 2 31 := ⟨by decide +kernel, rfl⟩
theorem dX12_loudest_31 : DD cX12_loudest 31 (.iconst (-1)) 1 32 := ⟨by decide +kernel, rfl⟩
theorem dX12_loudest_32 : DD cX12_loudest 32 (.istore 5) 2 34 := ⟨by decide +kernel, rfl⟩
theorem dX12_loudest_34 : DD cX12_loudest 34 (.iconst 0) 1 35 := ⟨by decide +kernel, rfl⟩
theorem dX12_loudest_35 : DD cX12_loudest 35 (.istore 6) 2 37 := ⟨by decide +kernel, rfl⟩
theorem dX12_loudest_37 : DD cX12_loudest 37 (.iload 6) 2 39 := ⟨by decide +kernel, rfl⟩
theorem dX12_loudest_39 : DD cX12_loudest 39 (.aload_n 0) 1 40 := ⟨by decide +kernel, rfl⟩
theorem dX12_loudest_40 : DD cX12_loudest 40 (.getfield 378) 3 43 := ⟨by decide +kernel, rfl⟩
theorem dX12_loudest_43 : DD cX12_loudest 43 (.if_icmp .ge 73) 3 46 := ⟨by decide +kernel, rfl⟩
theorem dX12_loudest_46 : DD cX12_loudest 46 (.aload_n 0) 1 47 := ⟨by decide +kernel, rfl⟩
theorem dX12_loudest_47 : DD cX12_loudest 47 (.getfield 112) 3 50 := ⟨by decide +kernel, rfl⟩
theorem dX12_loudest_50 : DD cX12_loudest 50 (.bipush 34) 2 52 := ⟨by decide +kernel, rfl⟩
theorem dX12_loudest_52 : DD cX12_loudest 52 (.iaload) 1 53 := ⟨by decide +kernel, rfl⟩
theorem dX12_loudest_53 : DD cX12_loudest 53 (.iload 6) 2 55 := ⟨by decide +kernel, rfl⟩
theorem dX12_loudest_55 : DD cX12_loudest 55 (.ishr) 1 56 := ⟨by decide +kernel, rfl⟩
theorem dX12_loudest_56 : DD cX12_loudest 56 (.iconst 1) 1 57 := ⟨by decide +kernel, rfl⟩
theorem dX12_loudest_57 : DD cX12_loudest 57 (.iand) 1 58 := ⟨by decide +kernel, rfl⟩
theorem dX12_loudest_58 : DD cX12_loudest 58 (.iconst 1) 1 59 := ⟨by decide +kernel, rfl⟩
theorem dX12_loudest_59 : DD cX12_loudest 59 (.if_icmp .ne 6) 3 62 := ⟨by decide +kernel, rfl⟩
theorem dX12_loudest_62 : DD cX12_loudest 62 (.goto 48) 3 65 := ⟨by decide +kernel, rfl⟩
theorem dX12_loudest_65 : DD cX12_loudest 65 (.aload_n 0) 1 66 := ⟨by decide +kernel, rfl⟩
theorem dX12_loudest_66 : DD cX12_loudest 66 (.getfield 115) 3 69 := ⟨by decide +kernel, rfl⟩
theorem dX12_loudest_69 : DD cX12_loudest 69 (.bipush 34) 2 71 := ⟨by decide +kernel, rfl⟩
theorem dX12_loudest_71 : DD cX12_loudest 71 (.aload_n 0) 1 72 := ⟨by decide +kernel, rfl⟩
theorem dX12_loudest_72 : DD cX12_loudest 72 (.getfield 112) 3 75 := ⟨by decide +kernel, rfl⟩
theorem dX12_loudest_75 : DD cX12_loudest 75 (.bipush 34) 2 77 := ⟨by decide +kernel, rfl⟩
theorem dX12_loudest_77 : DD cX12_loudest 77 (.iaload) 1 78 := ⟨by decide +kernel, rfl⟩
theorem dX12_loudest_78 : DD cX12_loudest 78 (.iconst 1) 1 79 := ⟨by decide +kernel, rfl⟩
theorem dX12_loudest_79 : DD cX12_loudest 79 (.iload 6) 2 81 := ⟨by decide +kernel, rfl⟩
theorem dX12_loudest_81 : DD cX12_loudest 81 (.ishl) 1 82 := ⟨by decide +kernel, rfl⟩
theorem dX12_loudest_82 : DD cX12_loudest 82 (.ior) 1 83 := ⟨by decide +kernel, rfl⟩
theorem dX12_loudest_83 : DD cX12_loudest 83 (.iastore) 1 84 := ⟨by decide +kernel, rfl⟩
theorem dX12_loudest_84 : DD cX12_loudest 84 (.iload_n 3) 1 85 := ⟨by decide +kernel, rfl⟩
theorem dX12_loudest_85 : DD cX12_loudest 85 (.aload_n 0) 1 86 := ⟨by decide +kernel, rfl⟩
theorem dX12_loudest_86 : DD cX12_loudest 86 (.invokevirtual 483) 3 89 := ⟨by decide +kernel, rfl⟩
theorem dX12_loudest_89 : DD cX12_loudest 89 (.isub) 1 90 := ⟨by decide +kernel, rfl⟩
theorem dX12_loudest_90 : DD cX12_loudest 90 (.istore 7) 2 92 := ⟨by decide +kernel, rfl⟩
theorem dX12_loudest_92 : DD cX12_loudest 92 (.iload 7) 2 94 := ⟨by decide +kernel, rfl⟩
theorem dX12_loudest_94 : DD cX12_loudest 94 (.iload 5) 2 96 := ⟨by decide +kernel, rfl⟩
theorem dX12_loudest_96 : DD cX12_loudest 96 (.if_icmp .gt 6) 3 99 := ⟨by decide +kernel, rfl⟩
theorem dX12_loudest_99 : DD cX12_loudest 99 (.goto 11) 3 102 := ⟨by decide +kernel, rfl⟩
theorem dX12_loudest_102 : DD cX12_loudest 102 (.iload 6) 2 104 := ⟨by decide +kernel, rfl⟩
theorem dX12_loudest_104 : DD cX12_loudest 104 (.istore 4) 2 106 := ⟨by decide +kernel, rfl⟩
theorem dX12_loudest_106 : DD cX12_loudest 106 (.iload 7) 2 108 := ⟨by decide +kernel, rfl⟩
theorem dX12_loudest_108 : DD cX12_loudest 108 (.istore 5) 2 110 := ⟨by decide +kernel, rfl⟩
theorem dX12_loudest_110 : DD cX12_loudest 110 (.iinc 6 1) 3 113 := ⟨by decide +kernel, rfl⟩
theorem dX12_loudest_113 : DD cX12_loudest 113 (.goto (-76)) 3 116 := ⟨by decide +kernel, rfl⟩
theorem dX12_loudest_116 : DD cX12_loudest 116 (.iload 4) 2 118 := ⟨by decide +kernel, rfl⟩
theorem dX12_loudest_118 : DD cX12_loudest 118 (.ifCond .ge 7) 3 121 := ⟨by decide +kernel, rfl⟩
theorem dX12_loudest_121 : DD cX12_loudest 121 (.iconst (-1)) 1 122 := ⟨by decide +kernel, rfl⟩
theorem dX12_loudest_122 : DD cX12_loudest 122 (.goto 14) 3 125 := ⟨by decide +kernel, rfl⟩
theorem dX12_loudest_125 : DD cX12_loudest 125 (.iload_n 2) 1 126 := ⟨by decide +kernel, rfl⟩
theorem dX12_loudest_126 : DD cX12_loudest 126 (.ifCond .ne 8) 3 129 := ⟨by decide +kernel, rfl⟩
theorem dX12_loudest_129 : DD cX12_loudest 129 (.iload 4) 2 131 := ⟨by decide +kernel, rfl⟩
theorem dX12_loudest_131 : DD cX12_loudest 131 (.goto 5) 3 134 := ⟨by decide +kernel, rfl⟩
theorem dX12_loudest_134 : DD cX12_loudest 134 (.iload 5) 2 136 := ⟨by decide +kernel, rfl⟩
theorem dX12_loudest_136 : DD cX12_loudest 136 (.ireturn) 1 137 := ⟨by decide +kernel, rfl⟩
def gX12_loudest : Nat → Int32 → Int32 → Int32 → Int32 → Int32 → Mem → Option (Int32 × Mem)
  | 0, _, _, _, _, _, _ => none
  | f + 1, x2, x3, x4, x5, x6, m => (if (m.1 0 51) ≤ x6 then (if 0 ≤ x4 then (if x2 = 0 then (some (x4, m)) else (some (x5, m))) else (some ((-1 : Int32), m))) else (rd (m.1 33) 37 (34 : Int32) fun v4 => (if ((v4 >>> (x6 &&& 31)) &&& (1 : Int32)) = (1 : Int32) then (gX12_loudest f x2 x3 x4 x5 (x6 + (1 : Int32)) m) else (rd (m.1 33) 37 (34 : Int32) fun v6 => (wr m 34 37 (34 : Int32) (v6 ||| ((1 : Int32) <<< (x6 &&& 31))) fun m7 => (cP (fX12_allHarm m7) fun r8 => (nm (x3 - r8) fun v10 => (if x5 < v10 then (gX12_loudest f x2 x3 x6 v10 (x6 + (1 : Int32)) m7) else (gX12_loudest f x2 x3 x4 x5 (x6 + (1 : Int32)) m7)))))))))
def fX12_loudest (m : Mem) (x1 : Int32) (x2 : Int32) : Option (Int32 × Mem) := (cP (fX12_isDate x1) fun r1 => (if r1 = 0 then (some ((-1 : Int32), m)) else (cP (fX12_isIn x2 (0 : Int32) (1 : Int32)) fun r4 => (if r4 = 0 then (some ((-1 : Int32), m)) else (cV (fX12_loadDate m x1) fun m8 => (cP (fX12_allHarm m8) fun r9 => (gX12_loudest 5000 x2 r9 (-1 : Int32) (-1 : Int32) (0 : Int32) m8)))))))
set_option maxHeartbeats 4000000 in
set_option maxRecDepth 100000 in
theorem wX12_loudest {X : Cx} {G : Gt} (h : OkX (X, G, wM, nM) cX12_loudest RX12 8 (some .int) 7) : ∀ f : Nat, (∀ (x2 : Int32) (x3 : Int32) (x4 : Int32) (x5 : Int32) (x6 : Int32) (m : Mem), JR (X, G, wM, nM) cvI m 37 [some (.ref (G.2.2 0)), none, some (.int x2), some (.int x3), some (.int x4), some (.int x5), some (.int x6), none] [] (gX12_loudest f x2 x3 x4 x5 x6 m)) := by
  intro f
  induction f with
  | zero => exact (fun _ _ _ _ _ _ => j_none)
  | succ f ih =>
    intro x2 x3 x4 x5 x6 m
    rw [gX12_loudest]
    refine j_iload h dX12_loudest_37 rfl ?_
    refine j_aload_n h dX12_loudest_39 rfl ?_
    refine gM_51 h dX12_loudest_40 ?_
    refine j_icmp_ge (tgt := 116) h dX12_loudest_43 (by decide) (fun c1 => ?_) (fun c1 => ?_)
    · refine j_iload h dX12_loudest_116 rfl ?_
      refine j_if_ge (tgt := 125) h dX12_loudest_118 (by decide) (fun c2 => ?_) (fun c2 => ?_)
      · refine j_iload_n h dX12_loudest_125 rfl ?_
        refine j_if_ne (tgt := 134) h dX12_loudest_126 (by decide) (fun c3 => ?_) (fun c3 => ?_)
        · refine j_iload h dX12_loudest_134 rfl ?_
          exact j_iret h rfl dX12_loudest_136
        · refine j_iload h dX12_loudest_129 rfl ?_
          refine j_goto (tgt := 136) h dX12_loudest_131 (by decide) ?_
          exact j_iret h rfl dX12_loudest_136
      · refine j_iconst (v := (-1 : Int32)) h dX12_loudest_121 kiconst_m1 ?_
        refine j_goto (tgt := 136) h dX12_loudest_122 (by decide) ?_
        exact j_iret h rfl dX12_loudest_136
    · refine j_aload_n h dX12_loudest_46 rfl ?_
      refine gM_55 h dX12_loudest_47 ?_
      refine j_bipush (v := (34 : Int32)) h dX12_loudest_50 kbipush_34 ?_
      refine aM_33 h dX12_loudest_52 (fun v4 hv4 => ?_)
      refine j_iload h dX12_loudest_53 rfl ?_
      refine j_ishr h dX12_loudest_55 ?_
      refine j_iconst (v := (1 : Int32)) h dX12_loudest_56 kiconst_1 ?_
      refine j_iand h dX12_loudest_57 ?_
      refine j_iconst (v := (1 : Int32)) h dX12_loudest_58 kiconst_1 ?_
      refine j_icmp_ne (tgt := 65) h dX12_loudest_59 (by decide) (fun c5 => ?_) (fun c5 => ?_)
      · refine j_aload_n h dX12_loudest_65 rfl ?_
        refine gM_56 h dX12_loudest_66 ?_
        refine j_bipush (v := (34 : Int32)) h dX12_loudest_69 kbipush_34 ?_
        refine j_aload_n h dX12_loudest_71 rfl ?_
        refine gM_55 h dX12_loudest_72 ?_
        refine j_bipush (v := (34 : Int32)) h dX12_loudest_75 kbipush_34 ?_
        refine aM_33 h dX12_loudest_77 (fun v6 hv6 => ?_)
        refine j_iconst (v := (1 : Int32)) h dX12_loudest_78 kiconst_1 ?_
        refine j_iload h dX12_loudest_79 rfl ?_
        refine j_ishl h dX12_loudest_81 ?_
        refine j_ior h dX12_loudest_82 ?_
        refine bM_34 h dX12_loudest_83 (fun m7 hm7 => ?_)
        refine j_iload_n h dX12_loudest_84 rfl ?_
        refine j_aload_n h dX12_loudest_85 rfl ?_
        refine j_callVP (q0 := 0) (ci := 12) h [] (kX12_allHarm _ G h.2.2.2.2.2.2.2.2.2.2 m7) okX12_allHarm inX12_allHarm ml12_483 rfl rfl rfl rfl (by decide) (by decide) (Nat.le_of_ble_eq_true rfl) rfl dX12_loudest_86 (fun r8 hr8 => ?_)
        refine j_isub h dX12_loudest_89 ?_
        refine j_nm (fun v10 hv10 => ?_)
        refine j_istore h dX12_loudest_90 rfl rfl ?_
        refine j_iload h dX12_loudest_92 rfl ?_
        refine j_iload h dX12_loudest_94 rfl ?_
        refine j_icmp_gt (tgt := 102) h dX12_loudest_96 (by decide) (fun c11 => ?_) (fun c11 => ?_)
        · refine j_iload h dX12_loudest_102 rfl ?_
          refine j_istore h dX12_loudest_104 rfl rfl ?_
          refine j_iload h dX12_loudest_106 rfl ?_
          refine j_istore h dX12_loudest_108 rfl rfl ?_
          refine j_iinc (v := (x6 + (1 : Int32))) h dX12_loudest_110 rfl (by rw [kiconst_1]) rfl ?_
          refine j_goto (tgt := 37) h dX12_loudest_113 (by decide) ?_
          refine j_wk (ls' := [some (.ref (G.2.2 0)), none, some (.int x2), some (.int x3), some (.int x6), some (.int v10), some (.int (x6 + (1 : Int32))), none]) (And.intro rfl (And.intro rfl (And.intro rfl (And.intro rfl (And.intro rfl (And.intro rfl trivial)))))) ?_
          exact ih x2 x3 x6 v10 (x6 + (1 : Int32)) m7
        · refine j_goto (tgt := 110) h dX12_loudest_99 (by decide) ?_
          refine j_iinc (v := (x6 + (1 : Int32))) h dX12_loudest_110 rfl (by rw [kiconst_1]) rfl ?_
          refine j_goto (tgt := 37) h dX12_loudest_113 (by decide) ?_
          refine j_wk (ls' := [some (.ref (G.2.2 0)), none, some (.int x2), some (.int x3), some (.int x4), some (.int x5), some (.int (x6 + (1 : Int32))), none]) (And.intro rfl (And.intro rfl (And.intro rfl (And.intro rfl (And.intro rfl (And.intro rfl trivial)))))) ?_
          exact ih x2 x3 x4 x5 (x6 + (1 : Int32)) m7
      · refine j_goto (tgt := 110) h dX12_loudest_62 (by decide) ?_
        refine j_iinc (v := (x6 + (1 : Int32))) h dX12_loudest_110 rfl (by rw [kiconst_1]) rfl ?_
        refine j_goto (tgt := 37) h dX12_loudest_113 (by decide) ?_
        refine j_wk (ls' := [some (.ref (G.2.2 0)), none, some (.int x2), some (.int x3), some (.int x4), some (.int x5), some (.int (x6 + (1 : Int32))), none]) (And.intro rfl (And.intro rfl (And.intro rfl (And.intro rfl (And.intro rfl (And.intro rfl trivial)))))) ?_
        exact ih x2 x3 x4 x5 (x6 + (1 : Int32)) m
set_option maxHeartbeats 4000000 in
set_option maxRecDepth 100000 in
theorem kX12_loudest (l : Launch) (G : Gt) (hD : ∀ m, va_D (inA G nM) (wM G m)) (m : Mem) (x1 : Int32) (x2 : Int32) : ∀ a, fX12_loudest m x1 x2 = some a → Ct l G wM nM yX12_loudest cX12_loudest 8 (some .int) 7 [.ref (G.2.2 0), .int x1, .int x2] m (cvI a) := by
  refine ct_of (own := RX12) (ls0 := [some (.ref (G.2.2 0)), some (.int x1), some (.int x2), none, none, none, none, none]) (by decide) rfl rfl rfl (Nat.le_of_ble_eq_true rfl) hD (fun X h => ?_) l
  unfold fX12_loudest
  refine j_iload_n h dX12_loudest_0 rfl ?_
  refine j_callSP h [.int x1] (kX12_isDate _ G h.2.2.2.2.2.2.2.2.2.2 m x1) okX12_isDate stX12_isDate ml12_462 rfl rfl (by decide) (by decide) (Nat.le_of_ble_eq_true rfl) rfl dX12_loudest_1 (fun r1 hr1 => ?_)
  refine j_if_eq (tgt := 16) h dX12_loudest_4 (by decide) (fun c3 => ?_) (fun c3 => ?_)
  · refine j_iconst (v := (-1 : Int32)) h dX12_loudest_16 kiconst_m1 ?_
    exact j_iret h rfl dX12_loudest_17
  · refine j_iload_n h dX12_loudest_7 rfl ?_
    refine j_iconst (v := (0 : Int32)) h dX12_loudest_8 kiconst_0 ?_
    refine j_iconst (v := (1 : Int32)) h dX12_loudest_9 kiconst_1 ?_
    refine j_callSP h [.int x2, .int (0 : Int32), .int (1 : Int32)] (kX12_isIn _ G h.2.2.2.2.2.2.2.2.2.2 m x2 (0 : Int32) (1 : Int32)) okX12_isIn stX12_isIn ml12_402 rfl rfl (by decide) (by decide) (Nat.le_of_ble_eq_true rfl) rfl dX12_loudest_10 (fun r4 hr4 => ?_)
    refine j_if_ne (tgt := 18) h dX12_loudest_13 (by decide) (fun c6 => ?_) (fun c6 => ?_)
    · refine j_aload_n h dX12_loudest_18 rfl ?_
      refine j_iload_n h dX12_loudest_19 rfl ?_
      refine j_callVV (q0 := 0) (ci := 12) h [.int x1] (kX12_loadDate _ G h.2.2.2.2.2.2.2.2.2.2 m x1) okX12_loadDate inX12_loadDate ml12_453 rfl rfl rfl rfl (by decide) (by decide) (Nat.le_of_ble_eq_true rfl) rfl dX12_loudest_20 (fun m8 hm8 => ?_)
      refine j_aload_n h dX12_loudest_23 rfl ?_
      refine j_callVP (q0 := 0) (ci := 12) h [] (kX12_allHarm _ G h.2.2.2.2.2.2.2.2.2.2 m8) okX12_allHarm inX12_allHarm ml12_483 rfl rfl rfl rfl (by decide) (by decide) (Nat.le_of_ble_eq_true rfl) rfl dX12_loudest_24 (fun r9 hr9 => ?_)
      refine j_istore_n h dX12_loudest_27 rfl rfl ?_
      refine j_iconst (v := (-1 : Int32)) h dX12_loudest_28 kiconst_m1 ?_
      refine j_istore h dX12_loudest_29 rfl rfl ?_
      refine j_iconst (v := (-1 : Int32)) h dX12_loudest_31 kiconst_m1 ?_
      refine j_istore h dX12_loudest_32 rfl rfl ?_
      refine j_iconst (v := (0 : Int32)) h dX12_loudest_34 kiconst_0 ?_
      refine j_istore h dX12_loudest_35 rfl rfl ?_
      refine j_wk (ls' := [some (.ref (G.2.2 0)), none, some (.int x2), some (.int r9), some (.int (-1 : Int32)), some (.int (-1 : Int32)), some (.int (0 : Int32)), none]) (And.intro rfl (And.intro rfl (And.intro rfl (And.intro rfl (And.intro rfl (And.intro rfl trivial)))))) ?_
      exact (wX12_loudest h 5000) x2 r9 (-1 : Int32) (-1 : Int32) (0 : Int32) m8
    · refine j_iconst (v := (-1 : Int32)) h dX12_loudest_16 kiconst_m1 ?_
      exact j_iret h rfl dX12_loudest_17
theorem dX12_bestSide_0 : DD cX12_bestSide 0 (.aload_n 0) 1 1 := ⟨by decide +kernel, rfl⟩
theorem dX12_bestSide_1 : DD cX12_bestSide 1 (.getfield 115) 3 4 := ⟨by decide +kernel, rfl⟩
theorem dX12_bestSide_4 : DD cX12_bestSide 4 (.iload_n 1) 1 5 := ⟨by decide +kernel, rfl⟩
theorem dX12_bestSide_5 : DD cX12_bestSide 5 (.iaload) 1 6 := ⟨by decide +kernel, rfl⟩
theorem dX12_bestSide_6 : DD cX12_bestSide 6 (.istore_n 2) 1 7 := ⟨by decide +kernel, rfl⟩
theorem dX12_bestSide_7 : DD cX12_bestSide 7 (.iload_n 2) 1 8 := ⟨by decide +kernel, rfl⟩
theorem dX12_bestSide_8 : DD cX12_bestSide 8 (.istore_n 3) 1 9 := ⟨by decide +kernel, rfl⟩
theorem dX12_bestSide_9 : DD cX12_bestSide 9 (.aload_n 0) 1 10 := ⟨by decide +kernel, rfl⟩
theorem dX12_bestSide_10 : DD cX12_bestSide 10 (.iload_n 1) 1 11 := ⟨by decide +kernel, rfl⟩
theorem dX12_bestSide_11 : DD cX12_bestSide 11 (.invokevirtual 496) 3 14 := ⟨by decide +kernel, rfl⟩
theorem dX12_bestSide_14 : DD cX12_bestSide 14 (.istore 4) 2 16 := ⟨by decide +kernel, rfl⟩
theorem dX12_bestSide_16 : DD cX12_bestSide 16 (.iconst 0) 1 17 := ⟨by decide +kernel, rfl⟩
theorem dX12_bestSide_17 : DD cX12_bestSide 17 (.istore 5) 2 19 := ⟨by decide +kernel, rfl⟩
theorem dX12_bestSide_19 : DD cX12_bestSide 19 (.iload 5) 2 21 := ⟨by decide +kernel, rfl⟩
theorem dX12_bestSide_21 : DD cX12_bestSide 21 (.iconst 3) 1 22 := ⟨by decide +kernel, rfl⟩
theorem dX12_bestSide_22 : DD cX12_bestSide 22 (.if_icmp .ge 40) 3 25 := ⟨by decide +kernel, rfl⟩
theorem dX12_bestSide_25 : DD cX12_bestSide 25 (.aload_n 0) 1 26 := ⟨by decide +kernel, rfl⟩
theorem dX12_bestSide_26 : DD cX12_bestSide 26 (.getfield 115) 3 29 := ⟨by decide +kernel, rfl⟩
theorem dX12_bestSide_29 : DD cX12_bestSide 29 (.iload_n 1) 1 30 := ⟨by decide +kernel, rfl⟩
theorem dX12_bestSide_30 : DD cX12_bestSide 30 (.iload 5) 2 32 := ⟨by decide +kernel, rfl⟩
theorem dX12_bestSide_32 : DD cX12_bestSide 32 (.iastore) 1 33 := ⟨by decide +kernel, rfl⟩
theorem dX12_bestSide_33 : DD cX12_bestSide 33 (.aload_n 0) 1 34 := ⟨by decide +kernel, rfl⟩
theorem dX12_bestSide_34 : DD cX12_bestSide 34 (.iload_n 1) 1 35 := ⟨by decide +kernel, rfl⟩
theorem dX12_bestSide_35 : DD cX12_bestSide 35 (.invokevirtual 496) 3 38 := ⟨by decide +kernel, rfl⟩
theorem dX12_bestSide_38 : DD cX12_bestSide 38 (.iload 4) 2 40 := ⟨by decide +kernel, rfl⟩
theorem dX12_bestSide_40 : DD cX12_bestSide 40 (.if_icmp .gt 6) 3 43 := ⟨by decide +kernel, rfl⟩
theorem dX12_bestSide_43 : DD cX12_bestSide 43 (.goto 13) 3 46 := ⟨by decide +kernel, rfl⟩
theorem dX12_bestSide_46 : DD cX12_bestSide 46 (.aload_n 0) 1 47 := ⟨by decide +kernel, rfl⟩
theorem dX12_bestSide_47 : DD cX12_bestSide 47 (.iload_n 1) 1 48 := ⟨by decide +kernel, rfl⟩
theorem dX12_bestSide_48 : DD cX12_bestSide 48 (.invokevirtual 496) 3 51 := ⟨by decide +kernel, rfl⟩
theorem dX12_bestSide_51 : DD cX12_bestSide 51 (.istore 4) 2 53 := ⟨by decide +kernel, rfl⟩
theorem dX12_bestSide_53 : DD cX12_bestSide 53 (.iload 5) 2 55 := ⟨by decide +kernel, rfl⟩
theorem dX12_bestSide_55 : DD cX12_bestSide 55 (.istore_n 3) 1 56 := ⟨by decide +kernel, rfl⟩
theorem dX12_bestSide_56 : DD cX12_bestSide 56 (.iinc 5 1) 3 59 := ⟨by decide +kernel, rfl⟩
theorem dX12_bestSide_59 : DD cX12_bestSide 59 (.goto (-40)) 3 62 := ⟨by decide +kernel, rfl⟩
theorem dX12_bestSide_62 : DD cX12_bestSide 62 (.aload_n 0) 1 63 := ⟨by decide +kernel, rfl⟩
theorem dX12_bestSide_63 : DD cX12_bestSide 63 (.getfield 115) 3 66 := ⟨by decide +kernel, rfl⟩
theorem dX12_bestSide_66 : DD cX12_bestSide 66 (.iload_n 1) 1 67 := ⟨by decide +kernel, rfl⟩
theorem dX12_bestSide_67 : DD cX12_bestSide 67 (.iload_n 2) 1 68 := ⟨by decide +kernel, rfl⟩
theorem dX12_bestSide_68 : DD cX12_bestSide 68 (.iastore) 1 69 := ⟨by decide +kernel, rfl⟩
theorem dX12_bestSide_69 : DD cX12_bestSide 69 (.iload_n 3) 1 70 := ⟨by decide +kernel, rfl⟩
theorem dX12_bestSide_70 : DD cX12_bestSide 70 (.ireturn) 1 71 := ⟨by decide +kernel, rfl⟩
def gX12_bestSide : Nat → Int32 → Int32 → Int32 → Int32 → Int32 → Mem → Option (Int32 × Mem)
  | 0, _, _, _, _, _, _ => none
  | f + 1, x1, x2, x3, x4, x5, m => (if (3 : Int32) ≤ x5 then (wr m 34 37 x1 x2 fun m2 => (some (x3, m2))) else (wr m 34 37 x1 x5 fun m3 => (cP (fX12_joyHere m3 x1) fun r4 => (if x4 < r4 then (cP (fX12_joyHere m3 x1) fun r7 => (gX12_bestSide f x1 x2 x5 r7 (x5 + (1 : Int32)) m3)) else (gX12_bestSide f x1 x2 x3 x4 (x5 + (1 : Int32)) m3)))))
def fX12_bestSide (m : Mem) (x1 : Int32) : Option (Int32 × Mem) := (rd (m.1 34) 37 x1 fun v1 => (cP (fX12_joyHere m x1) fun r2 => (gX12_bestSide 5000 x1 v1 v1 r2 (0 : Int32) m)))
set_option maxHeartbeats 4000000 in
set_option maxRecDepth 100000 in
theorem wX12_bestSide {X : Cx} {G : Gt} (h : OkX (X, G, wM, nM) cX12_bestSide RX12 6 (some .int) 5) : ∀ f : Nat, (∀ (x1 : Int32) (x2 : Int32) (x3 : Int32) (x4 : Int32) (x5 : Int32) (m : Mem), JR (X, G, wM, nM) cvI m 19 [some (.ref (G.2.2 0)), some (.int x1), some (.int x2), some (.int x3), some (.int x4), some (.int x5)] [] (gX12_bestSide f x1 x2 x3 x4 x5 m)) := by
  intro f
  induction f with
  | zero => exact (fun _ _ _ _ _ _ => j_none)
  | succ f ih =>
    intro x1 x2 x3 x4 x5 m
    rw [gX12_bestSide]
    refine j_iload h dX12_bestSide_19 rfl ?_
    refine j_iconst (v := (3 : Int32)) h dX12_bestSide_21 kiconst_3 ?_
    refine j_icmp_ge (tgt := 62) h dX12_bestSide_22 (by decide) (fun c1 => ?_) (fun c1 => ?_)
    · refine j_aload_n h dX12_bestSide_62 rfl ?_
      refine gM_56 h dX12_bestSide_63 ?_
      refine j_iload_n h dX12_bestSide_66 rfl ?_
      refine j_iload_n h dX12_bestSide_67 rfl ?_
      refine bM_34 h dX12_bestSide_68 (fun m2 hm2 => ?_)
      refine j_iload_n h dX12_bestSide_69 rfl ?_
      exact j_iret h rfl dX12_bestSide_70
    · refine j_aload_n h dX12_bestSide_25 rfl ?_
      refine gM_56 h dX12_bestSide_26 ?_
      refine j_iload_n h dX12_bestSide_29 rfl ?_
      refine j_iload h dX12_bestSide_30 rfl ?_
      refine bM_34 h dX12_bestSide_32 (fun m3 hm3 => ?_)
      refine j_aload_n h dX12_bestSide_33 rfl ?_
      refine j_iload_n h dX12_bestSide_34 rfl ?_
      refine j_callVP (q0 := 0) (ci := 12) h [.int x1] (kX12_joyHere _ G h.2.2.2.2.2.2.2.2.2.2 m3 x1) okX12_joyHere inX12_joyHere ml12_496 rfl rfl rfl rfl (by decide) (by decide) (Nat.le_of_ble_eq_true rfl) rfl dX12_bestSide_35 (fun r4 hr4 => ?_)
      refine j_iload h dX12_bestSide_38 rfl ?_
      refine j_icmp_gt (tgt := 46) h dX12_bestSide_40 (by decide) (fun c6 => ?_) (fun c6 => ?_)
      · refine j_aload_n h dX12_bestSide_46 rfl ?_
        refine j_iload_n h dX12_bestSide_47 rfl ?_
        refine j_callVP (q0 := 0) (ci := 12) h [.int x1] (kX12_joyHere _ G h.2.2.2.2.2.2.2.2.2.2 m3 x1) okX12_joyHere inX12_joyHere ml12_496 rfl rfl rfl rfl (by decide) (by decide) (Nat.le_of_ble_eq_true rfl) rfl dX12_bestSide_48 (fun r7 hr7 => ?_)
        refine j_istore h dX12_bestSide_51 rfl rfl ?_
        refine j_iload h dX12_bestSide_53 rfl ?_
        refine j_istore_n h dX12_bestSide_55 rfl rfl ?_
        refine j_iinc (v := (x5 + (1 : Int32))) h dX12_bestSide_56 rfl (by rw [kiconst_1]) rfl ?_
        refine j_goto (tgt := 19) h dX12_bestSide_59 (by decide) ?_
        refine j_wk (ls' := [some (.ref (G.2.2 0)), some (.int x1), some (.int x2), some (.int x5), some (.int r7), some (.int (x5 + (1 : Int32)))]) (And.intro rfl (And.intro rfl (And.intro rfl (And.intro rfl (And.intro rfl (And.intro rfl trivial)))))) ?_
        exact ih x1 x2 x5 r7 (x5 + (1 : Int32)) m3
      · refine j_goto (tgt := 56) h dX12_bestSide_43 (by decide) ?_
        refine j_iinc (v := (x5 + (1 : Int32))) h dX12_bestSide_56 rfl (by rw [kiconst_1]) rfl ?_
        refine j_goto (tgt := 19) h dX12_bestSide_59 (by decide) ?_
        refine j_wk (ls' := [some (.ref (G.2.2 0)), some (.int x1), some (.int x2), some (.int x3), some (.int x4), some (.int (x5 + (1 : Int32)))]) (And.intro rfl (And.intro rfl (And.intro rfl (And.intro rfl (And.intro rfl (And.intro rfl trivial)))))) ?_
        exact ih x1 x2 x3 x4 (x5 + (1 : Int32)) m3
set_option maxHeartbeats 4000000 in
set_option maxRecDepth 100000 in
theorem kX12_bestSide (l : Launch) (G : Gt) (hD : ∀ m, va_D (inA G nM) (wM G m)) (m : Mem) (x1 : Int32) : ∀ a, fX12_bestSide m x1 = some a → Ct l G wM nM yX12_bestSide cX12_bestSide 6 (some .int) 5 [.ref (G.2.2 0), .int x1] m (cvI a) := by
  refine ct_of (own := RX12) (ls0 := [some (.ref (G.2.2 0)), some (.int x1), none, none, none, none]) (by decide) rfl rfl rfl (Nat.le_of_ble_eq_true rfl) hD (fun X h => ?_) l
  unfold fX12_bestSide
  refine j_aload_n h dX12_bestSide_0 rfl ?_
  refine gM_56 h dX12_bestSide_1 ?_
  refine j_iload_n h dX12_bestSide_4 rfl ?_
  refine aM_34 h dX12_bestSide_5 (fun v1 hv1 => ?_)
  refine j_istore_n h dX12_bestSide_6 rfl rfl ?_
  refine j_iload_n h dX12_bestSide_7 rfl ?_
  refine j_istore_n h dX12_bestSide_8 rfl rfl ?_
  refine j_aload_n h dX12_bestSide_9 rfl ?_
  refine j_iload_n h dX12_bestSide_10 rfl ?_
  refine j_callVP (q0 := 0) (ci := 12) h [.int x1] (kX12_joyHere _ G h.2.2.2.2.2.2.2.2.2.2 m x1) okX12_joyHere inX12_joyHere ml12_496 rfl rfl rfl rfl (by decide) (by decide) (Nat.le_of_ble_eq_true rfl) rfl dX12_bestSide_11 (fun r2 hr2 => ?_)
  refine j_istore h dX12_bestSide_14 rfl rfl ?_
  refine j_iconst (v := (0 : Int32)) h dX12_bestSide_16 kiconst_0 ?_
  refine j_istore h dX12_bestSide_17 rfl rfl ?_
  refine j_wk (ls' := [some (.ref (G.2.2 0)), some (.int x1), some (.int v1), some (.int v1), some (.int r2), some (.int (0 : Int32))]) (And.intro rfl (And.intro rfl (And.intro rfl (And.intro rfl (And.intro rfl (And.intro rfl trivial)))))) ?_
  exact (wX12_bestSide h 5000) x1 v1 v1 r2 (0 : Int32) m
theorem dX12_rest_0 : DD cX12_rest 0 (.aload_n 0) 1 1 := ⟨by decide +kernel, rfl⟩
theorem dX12_rest_1 : DD cX12_rest 1 (.iconst 0) 1 2 := ⟨by decide +kernel, rfl⟩
theorem dX12_rest_2 : DD cX12_rest 2 (.putfield 399) 3 5 := ⟨by decide +kernel, rfl⟩
theorem dX12_rest_5 : DD cX12_rest 5 (.aload_n 0) 1 6 := ⟨by decide +kernel, rfl⟩
theorem dX12_rest_6 : DD cX12_rest 6 (.aload_n 0) 1 7 := ⟨by decide +kernel, rfl⟩
theorem dX12_rest_7 : DD cX12_rest 7 (.getfield 112) 3 10 := ⟨by decide +kernel, rfl⟩
theorem dX12_rest_10 : DD cX12_rest 10 (.bipush 36) 2 12 := ⟨by decide +kernel, rfl⟩
theorem dX12_rest_12 : DD cX12_rest 12 (.iaload) 1 13 := ⟨by decide +kernel, rfl⟩
theorem dX12_rest_13 : DD cX12_rest 13 (.invokevirtual 453) 3 16 := ⟨by decide +kernel, rfl⟩
theorem dX12_rest_16 : DD cX12_rest 16 (.iconst 0) 1 17 := ⟨by decide +kernel, rfl⟩
theorem dX12_rest_17 : DD cX12_rest 17 (.istore_n 1) 1 18 := ⟨by decide +kernel, rfl⟩
theorem dX12_rest_18 : DD cX12_rest 18 (.iload_n 1) 1 19 := ⟨by decide +kernel, rfl⟩
theorem dX12_rest_19 : DD cX12_rest 19 (.bipush 20) 2 21 := ⟨by decide +kernel, rfl⟩
theorem dX12_rest_21 : DD cX12_rest 21 (.if_icmp .gt 76) 3 24 := ⟨by decide +kernel, rfl⟩
theorem dX12_rest_24 : DD cX12_rest 24 (.iconst 0) 1 25 := ⟨by decide +kernel, rfl⟩
theorem dX12_rest_25 : DD cX12_rest 25 (.istore_n 2) 1 26 := ⟨by decide +kernel, rfl⟩
theorem dX12_rest_26 : DD cX12_rest 26 (.iconst 0) 1 27 := ⟨by decide +kernel, rfl⟩
theorem dX12_rest_27 : DD cX12_rest 27 (.istore_n 3) 1 28 := ⟨by decide +kernel, rfl⟩
theorem dX12_rest_28 : DD cX12_rest 28 (.iload_n 3) 1 29 := ⟨by decide +kernel, rfl⟩
theorem dX12_rest_29 : DD cX12_rest 29 (.aload_n 0) 1 30 := ⟨by decide +kernel, rfl⟩
theorem dX12_rest_30 : DD cX12_rest 30 (.getfield 378) 3 33 := ⟨by decide +kernel, rfl⟩
theorem dX12_rest_33 : DD cX12_rest 33 (.if_icmp .ge 45) 3 36 := ⟨by decide +kernel, rfl⟩
theorem dX12_rest_36 : DD cX12_rest 36 (.aload_n 0) 1 37 := ⟨by decide +kernel, rfl⟩
theorem dX12_rest_37 : DD cX12_rest 37 (.iload_n 3) 1 38 := ⟨by decide +kernel, rfl⟩
theorem dX12_rest_38 : DD cX12_rest 38 (.invokevirtual 500) 3 41 := ⟨by decide +kernel, rfl⟩
theorem dX12_rest_41 : DD cX12_rest 41 (.istore 4) 2 43 := ⟨by decide +kernel, rfl⟩
theorem dX12_rest_43 : DD cX12_rest 43 (.iload_n 2) 1 44 := ⟨by decide +kernel, rfl⟩
theorem dX12_rest_44 : DD cX12_rest 44 (.ifCond .ne 14) 3 47 := ⟨by decide +kernel, rfl⟩
theorem dX12_rest_47 : DD cX12_rest 47 (.iload 4) 2 49 := ⟨by decide +kernel, rfl⟩
theorem dX12_rest_49 : DD cX12_rest 49 (.aload_n 0) 1 50 := ⟨by decide +kernel, rfl⟩
theorem dX12_rest_50 : DD cX12_rest 50 (.getfield 115) 3 53 := ⟨by decide +kernel, rfl⟩
theorem dX12_rest_53 : DD cX12_rest 53 (.iload_n 3) 1 54 := ⟨by decide +kernel, rfl⟩
theorem dX12_rest_54 : DD cX12_rest 54 (.iaload) 1 55 := ⟨by decide +kernel, rfl⟩
theorem dX12_rest_55 : DD cX12_rest 55 (.if_icmp .eq 7) 3 58 := ⟨by decide +kernel, rfl⟩
theorem dX12_rest_58 : DD cX12_rest 58 (.iconst 1) 1 59 := ⟨by decide +kernel, rfl⟩
theorem dX12_rest_59 : DD cX12_rest 59 (.goto 4) 3 62 := ⟨by decide +kernel, rfl⟩
theorem dX12_rest_62 : DD cX12_rest 62 (.iconst 0) 1 63 := ⟨by decide +kernel, rfl⟩
theorem dX12_rest_63 : DD cX12_rest 63 (.istore_n 2) 1 64 := ⟨by decide +kernel, rfl⟩
theorem dX12_rest_64 : DD cX12_rest 64 (.aload_n 0) 1 65 := ⟨by decide +kernel, rfl⟩
theorem dX12_rest_65 : DD cX12_rest 65 (.getfield 115) 3 68 := ⟨by decide +kernel, rfl⟩
theorem dX12_rest_68 : DD cX12_rest 68 (.iload_n 3) 1 69 := ⟨by decide +kernel, rfl⟩
theorem dX12_rest_69 : DD cX12_rest 69 (.iload 4) 2 71 := ⟨by decide +kernel, rfl⟩
theorem dX12_rest_71 : DD cX12_rest 71 (.iastore) 1 72 := ⟨by decide +kernel, rfl⟩
theorem dX12_rest_72 : DD cX12_rest 72 (.iinc 3 1) 3 75 := ⟨by decide +kernel, rfl⟩
theorem dX12_rest_75 : DD cX12_rest 75 (.goto (-47)) 3 78 := ⟨by decide +kernel, rfl⟩
theorem dX12_rest_78 : DD cX12_rest 78 (.iload_n 2) 1 79 := ⟨by decide +kernel, rfl⟩
theorem dX12_rest_79 : DD cX12_rest 79 (.ifCond .eq 6) 3 82 := ⟨by decide +kernel, rfl⟩
theorem dX12_rest_82 : DD cX12_rest 82 (.goto 9) 3 85 := ⟨by decide +kernel, rfl⟩
theorem dX12_rest_85 : DD cX12_rest 85 (.aload_n 0) 1 86 := ⟨by decide +kernel, rfl⟩
theorem dX12_rest_86 : DD cX12_rest 86 (.invokevirtual 493) 3 89 := ⟨by decide +kernel, rfl⟩
theorem dX12_rest_89 : DD cX12_rest 89 (.iload_n 1) 1 90 := ⟨by decide +kernel, rfl⟩
theorem dX12_rest_90 : DD cX12_rest 90 (.ireturn) 1 91 := ⟨by decide +kernel, rfl⟩
theorem dX12_rest_91 : DD cX12_rest 91 (.iinc 1 1) 3 94 := ⟨by decide +kernel, rfl⟩
theorem dX12_rest_94 : DD cX12_rest 94 (.goto (-76)) 3 97 := ⟨by decide +kernel, rfl⟩
theorem dX12_rest_97 : DD cX12_rest 97 (.iconst (-1)) 1 98 := ⟨by decide +kernel, rfl⟩
theorem dX12_rest_98 : DD cX12_rest 98 (.ireturn) 1 99 := ⟨by decide +kernel, rfl⟩
def gX12_rest : Nat → Nat → Int32 → Int32 → Int32 → Mem → Option (Int32 × Mem)
  | 0, _, _, _, _, _ => none
  | f + 1, 0, x1, x2, x3, m => (if (20 : Int32) < x1 then (some ((-1 : Int32), m)) else (gX12_rest f 1 x1 (0 : Int32) (0 : Int32) m))
  | f + 1, 1, x1, x2, x3, m => (if (m.1 0 51) ≤ x3 then (if x2 = 0 then (cV (fX12_putSides m) fun m4 => (some (x1, m4))) else (gX12_rest f 0 (x1 + (1 : Int32)) 0 0 m)) else (cI (fX12_bestSide m x3) fun r5 m6 => (if x2 = 0 then (rd (m6.1 34) 37 x3 fun v9 => (if r5 = v9 then (wr m6 34 37 x3 r5 fun m11 => (gX12_rest f 1 x1 (0 : Int32) (x3 + (1 : Int32)) m11)) else (wr m6 34 37 x3 r5 fun m12 => (gX12_rest f 1 x1 (1 : Int32) (x3 + (1 : Int32)) m12)))) else (wr m6 34 37 x3 r5 fun m8 => (gX12_rest f 1 x1 (1 : Int32) (x3 + (1 : Int32)) m8)))))
  | _ + 1, _ + 2, _, _, _, _ => none
def fX12_rest (m : Mem) : Option (Int32 × Mem) := (pt (sI m 0 63 (0 : Int32)) fun m1 => (rd (m1.1 33) 37 (36 : Int32) fun v2 => (cV (fX12_loadDate m1 v2) fun m4 => (gX12_rest 5000 0 (0 : Int32) 0 0 m4))))
set_option maxHeartbeats 4000000 in
set_option maxRecDepth 100000 in
theorem wX12_rest {X : Cx} {G : Gt} (h : OkX (X, G, wM, nM) cX12_rest RX12 5 (some .int) 7) : ∀ f : Nat, (∀ (x1 : Int32) (x2 : Int32) (x3 : Int32) (m : Mem), JR (X, G, wM, nM) cvI m 18 [some (.ref (G.2.2 0)), some (.int x1), none, none, none] [] (gX12_rest f 0 x1 x2 x3 m)) ∧ (∀ (x1 : Int32) (x2 : Int32) (x3 : Int32) (m : Mem), JR (X, G, wM, nM) cvI m 28 [some (.ref (G.2.2 0)), some (.int x1), some (.int x2), some (.int x3), none] [] (gX12_rest f 1 x1 x2 x3 m)) := by
  intro f
  induction f with
  | zero => exact ⟨(fun _ _ _ _ => j_none), (fun _ _ _ _ => j_none)⟩
  | succ f ih =>
    refine ⟨?_, ?_⟩
    · intro x1 x2 x3 m
      rw [gX12_rest]
      refine j_iload_n h dX12_rest_18 rfl ?_
      refine j_bipush (v := (20 : Int32)) h dX12_rest_19 kbipush_20 ?_
      refine j_icmp_gt (tgt := 97) h dX12_rest_21 (by decide) (fun c1 => ?_) (fun c1 => ?_)
      · refine j_iconst (v := (-1 : Int32)) h dX12_rest_97 kiconst_m1 ?_
        exact j_iret h rfl dX12_rest_98
      · refine j_iconst (v := (0 : Int32)) h dX12_rest_24 kiconst_0 ?_
        refine j_istore_n h dX12_rest_25 rfl rfl ?_
        refine j_iconst (v := (0 : Int32)) h dX12_rest_26 kiconst_0 ?_
        refine j_istore_n h dX12_rest_27 rfl rfl ?_
        refine j_wk (ls' := [some (.ref (G.2.2 0)), some (.int x1), some (.int (0 : Int32)), some (.int (0 : Int32)), none]) (And.intro rfl (And.intro rfl (And.intro rfl (And.intro rfl trivial)))) ?_
        exact ih.2 x1 (0 : Int32) (0 : Int32) m
    · intro x1 x2 x3 m
      rw [gX12_rest]
      refine j_iload_n h dX12_rest_28 rfl ?_
      refine j_aload_n h dX12_rest_29 rfl ?_
      refine gM_51 h dX12_rest_30 ?_
      refine j_icmp_ge (tgt := 78) h dX12_rest_33 (by decide) (fun c1 => ?_) (fun c1 => ?_)
      · refine j_iload_n h dX12_rest_78 rfl ?_
        refine j_if_eq (tgt := 85) h dX12_rest_79 (by decide) (fun c2 => ?_) (fun c2 => ?_)
        · refine j_aload_n h dX12_rest_85 rfl ?_
          refine j_callVV (q0 := 0) (ci := 12) h [] (kX12_putSides _ G h.2.2.2.2.2.2.2.2.2.2 m) okX12_putSides inX12_putSides ml12_493 rfl rfl rfl rfl (by decide) (by decide) (Nat.le_of_ble_eq_true rfl) rfl dX12_rest_86 (fun m4 hm4 => ?_)
          refine j_iload_n h dX12_rest_89 rfl ?_
          exact j_iret h rfl dX12_rest_90
        · refine j_goto (tgt := 91) h dX12_rest_82 (by decide) ?_
          refine j_iinc (v := (x1 + (1 : Int32))) h dX12_rest_91 rfl (by rw [kiconst_1]) rfl ?_
          refine j_goto (tgt := 18) h dX12_rest_94 (by decide) ?_
          refine j_wk (ls' := [some (.ref (G.2.2 0)), some (.int (x1 + (1 : Int32))), none, none, none]) (And.intro rfl (And.intro rfl trivial)) ?_
          exact ih.1 (x1 + (1 : Int32)) 0 0 m
      · refine j_aload_n h dX12_rest_36 rfl ?_
        refine j_iload_n h dX12_rest_37 rfl ?_
        refine j_callVI (q0 := 0) (ci := 12) h [.int x3] (kX12_bestSide _ G h.2.2.2.2.2.2.2.2.2.2 m x3) okX12_bestSide inX12_bestSide ml12_500 rfl rfl rfl rfl (by decide) (by decide) (Nat.le_of_ble_eq_true rfl) rfl dX12_rest_38 (fun r5 m6 hr5 => ?_)
        refine j_istore h dX12_rest_41 rfl rfl ?_
        refine j_iload_n h dX12_rest_43 rfl ?_
        refine j_if_ne (tgt := 58) h dX12_rest_44 (by decide) (fun c7 => ?_) (fun c7 => ?_)
        · refine j_iconst (v := (1 : Int32)) h dX12_rest_58 kiconst_1 ?_
          refine j_goto (tgt := 63) h dX12_rest_59 (by decide) ?_
          refine j_istore_n h dX12_rest_63 rfl rfl ?_
          refine j_aload_n h dX12_rest_64 rfl ?_
          refine gM_56 h dX12_rest_65 ?_
          refine j_iload_n h dX12_rest_68 rfl ?_
          refine j_iload h dX12_rest_69 rfl ?_
          refine bM_34 h dX12_rest_71 (fun m8 hm8 => ?_)
          refine j_iinc (v := (x3 + (1 : Int32))) h dX12_rest_72 rfl (by rw [kiconst_1]) rfl ?_
          refine j_goto (tgt := 28) h dX12_rest_75 (by decide) ?_
          refine j_wk (ls' := [some (.ref (G.2.2 0)), some (.int x1), some (.int (1 : Int32)), some (.int (x3 + (1 : Int32))), none]) (And.intro rfl (And.intro rfl (And.intro rfl (And.intro rfl trivial)))) ?_
          exact ih.2 x1 (1 : Int32) (x3 + (1 : Int32)) m8
        · refine j_iload h dX12_rest_47 rfl ?_
          refine j_aload_n h dX12_rest_49 rfl ?_
          refine gM_56 h dX12_rest_50 ?_
          refine j_iload_n h dX12_rest_53 rfl ?_
          refine aM_34 h dX12_rest_54 (fun v9 hv9 => ?_)
          refine j_icmp_eq (tgt := 62) h dX12_rest_55 (by decide) (fun c10 => ?_) (fun c10 => ?_)
          · refine j_iconst (v := (0 : Int32)) h dX12_rest_62 kiconst_0 ?_
            refine j_istore_n h dX12_rest_63 rfl rfl ?_
            refine j_aload_n h dX12_rest_64 rfl ?_
            refine gM_56 h dX12_rest_65 ?_
            refine j_iload_n h dX12_rest_68 rfl ?_
            refine j_iload h dX12_rest_69 rfl ?_
            refine bM_34 h dX12_rest_71 (fun m11 hm11 => ?_)
            refine j_iinc (v := (x3 + (1 : Int32))) h dX12_rest_72 rfl (by rw [kiconst_1]) rfl ?_
            refine j_goto (tgt := 28) h dX12_rest_75 (by decide) ?_
            refine j_wk (ls' := [some (.ref (G.2.2 0)), some (.int x1), some (.int (0 : Int32)), some (.int (x3 + (1 : Int32))), none]) (And.intro rfl (And.intro rfl (And.intro rfl (And.intro rfl trivial)))) ?_
            exact ih.2 x1 (0 : Int32) (x3 + (1 : Int32)) m11
          · refine j_iconst (v := (1 : Int32)) h dX12_rest_58 kiconst_1 ?_
            refine j_goto (tgt := 63) h dX12_rest_59 (by decide) ?_
            refine j_istore_n h dX12_rest_63 rfl rfl ?_
            refine j_aload_n h dX12_rest_64 rfl ?_
            refine gM_56 h dX12_rest_65 ?_
            refine j_iload_n h dX12_rest_68 rfl ?_
            refine j_iload h dX12_rest_69 rfl ?_
            refine bM_34 h dX12_rest_71 (fun m12 hm12 => ?_)
            refine j_iinc (v := (x3 + (1 : Int32))) h dX12_rest_72 rfl (by rw [kiconst_1]) rfl ?_
            refine j_goto (tgt := 28) h dX12_rest_75 (by decide) ?_
            refine j_wk (ls' := [some (.ref (G.2.2 0)), some (.int x1), some (.int (1 : Int32)), some (.int (x3 + (1 : Int32))), none]) (And.intro rfl (And.intro rfl (And.intro rfl (And.intro rfl trivial)))) ?_
            exact ih.2 x1 (1 : Int32) (x3 + (1 : Int32)) m12
set_option maxHeartbeats 4000000 in
set_option maxRecDepth 100000 in
theorem kX12_rest (l : Launch) (G : Gt) (hD : ∀ m, va_D (inA G nM) (wM G m)) (m : Mem) : ∀ a, fX12_rest m = some a → Ct l G wM nM yX12_rest cX12_rest 5 (some .int) 7 [.ref (G.2.2 0)] m (cvI a) := by
  refine ct_of (own := RX12) (ls0 := [some (.ref (G.2.2 0)), none, none, none, none]) (by decide) rfl rfl rfl (Nat.le_of_ble_eq_true rfl) hD (fun X h => ?_) l
  unfold fX12_rest
  refine j_aload_n h dX12_rest_0 rfl ?_
  refine j_iconst (v := (0 : Int32)) h dX12_rest_1 kiconst_0 ?_
  refine pM_63 h dX12_rest_2 (fun m1 hm1 => ?_)
  refine j_aload_n h dX12_rest_5 rfl ?_
  refine j_aload_n h dX12_rest_6 rfl ?_
  refine gM_55 h dX12_rest_7 ?_
  refine j_bipush (v := (36 : Int32)) h dX12_rest_10 kbipush_36 ?_
  refine aM_33 h dX12_rest_12 (fun v2 hv2 => ?_)
  refine j_callVV (q0 := 0) (ci := 12) h [.int v2] (kX12_loadDate _ G h.2.2.2.2.2.2.2.2.2.2 m1 v2) okX12_loadDate inX12_loadDate ml12_453 rfl rfl rfl rfl (by decide) (by decide) (Nat.le_of_ble_eq_true rfl) rfl dX12_rest_13 (fun m4 hm4 => ?_)
  refine j_iconst (v := (0 : Int32)) h dX12_rest_16 kiconst_0 ?_
  refine j_istore_n h dX12_rest_17 rfl rfl ?_
  refine j_wk (ls' := [some (.ref (G.2.2 0)), some (.int (0 : Int32)), none, none, none]) (And.intro rfl (And.intro rfl trivial)) ?_
  exact (wX12_rest h 5000).1 (0 : Int32) 0 0 m4
theorem dX12_areServed_0 : DD cX12_areServed 0 (.aload_n 0) 1 1 := ⟨by decide +kernel, rfl⟩
theorem dX12_areServed_1 : DD cX12_areServed 1 (.getfield 378) 3 4 := ⟨by decide +kernel, rfl⟩
theorem dX12_areServed_4 : DD cX12_areServed 4 (.ifCond .le 7) 3 7 := ⟨by decide +kernel, rfl⟩
theorem dX12_areServed_7 : DD cX12_areServed 7 (.iconst 1) 1 8 := ⟨by decide +kernel, rfl⟩
theorem dX12_areServed_8 : DD cX12_areServed 8 (.goto 4) 3 11 := ⟨by decide +kernel, rfl⟩
theorem dX12_areServed_11 : DD cX12_areServed 11 (.iconst 0) 1 12 := ⟨by decide +kernel, rfl⟩
theorem dX12_areServed_12 : DD cX12_areServed 12 (.istore_n 2) 1 13 := ⟨by decide +kernel, rfl⟩
theorem dX12_areServed_13 : DD cX12_areServed 13 (.iconst 0) 1 14 := ⟨by decide +kernel, rfl⟩
theorem dX12_areServed_14 : DD cX12_areServed 14 (.istore_n 3) 1 15 := ⟨by decide +kernel, rfl⟩
theorem dX12_areServed_15 : DD cX12_areServed 15 (.iload_n 3) 1 16 := ⟨by decide +kernel, rfl⟩
theorem dX12_areServed_16 : DD cX12_areServed 16 (.aload_n 0) 1 17 := ⟨by decide +kernel, rfl⟩
theorem dX12_areServed_17 : DD cX12_areServed 17 (.getfield 378) 3 20 := ⟨by decide +kernel, rfl⟩
theorem dX12_areServed_20 : DD cX12_areServed 20 (.if_icmp .ge 35) 3 23 := ⟨by decide +kernel, rfl⟩
theorem dX12_areServed_23 : DD cX12_areServed 23 (.iload_n 2) 1 24 := ⟨by decide +kernel, rfl⟩
theorem dX12_areServed_24 : DD cX12_areServed 24 (.ifCond .eq 23) 3 27 := ⟨by decide +kernel, rfl⟩
theorem dX12_areServed_27 : DD cX12_areServed 27 (.aload_n 0) 1 28 := ⟨by decide +kernel, rfl⟩
theorem dX12_areServed_28 : DD cX12_areServed 28 (.getfield 118) 3 31 := ⟨by decide +kernel, rfl⟩
theorem dX12_areServed_31 : DD cX12_areServed 31 (.aload_n 0) 1 32 := ⟨by decide +kernel, rfl⟩
theorem dX12_areServed_32 : DD cX12_areServed 32 (.getfield 115) 3 35 := ⟨by decide +kernel, rfl⟩
theorem dX12_areServed_35 : DD cX12_areServed 35 (.iload_n 3) 1 36 := ⟨by decide +kernel, rfl⟩
theorem dX12_areServed_36 : DD cX12_areServed 36 (.iaload) 1 37 := ⟨by decide +kernel, rfl⟩
theorem dX12_areServed_37 : DD cX12_areServed 37 (.iaload) 1 38 := ⟨by decide +kernel, rfl⟩
theorem dX12_areServed_38 : DD cX12_areServed 38 (.iload_n 1) 1 39 := ⟨by decide +kernel, rfl⟩
theorem dX12_areServed_39 : DD cX12_areServed 39 (.iand) 1 40 := ⟨by decide +kernel, rfl⟩
theorem dX12_areServed_40 : DD cX12_areServed 40 (.ifCond .eq 7) 3 43 := ⟨by decide +kernel, rfl⟩
theorem dX12_areServed_43 : DD cX12_areServed 43 (.iconst 1) 1 44 := ⟨by decide +kernel, rfl⟩
theorem dX12_areServed_44 : DD cX12_areServed 44 (.goto 4) 3 47 := ⟨by decide +kernel, rfl⟩
theorem dX12_areServed_47 : DD cX12_areServed 47 (.iconst 0) 1 48 := ⟨by decide +kernel, rfl⟩
theorem dX12_areServed_48 : DD cX12_areServed 48 (.istore_n 2) 1 49 := ⟨by decide +kernel, rfl⟩
theorem dX12_areServed_49 : DD cX12_areServed 49 (.iinc 3 1) 3 52 := ⟨by decide +kernel, rfl⟩
theorem dX12_areServed_52 : DD cX12_areServed 52 (.goto (-37)) 3 55 := ⟨by decide +kernel, rfl⟩
theorem dX12_areServed_55 : DD cX12_areServed 55 (.iload_n 2) 1 56 := ⟨by decide +kernel, rfl⟩
theorem dX12_areServed_56 : DD cX12_areServed 56 (.ireturn) 1 57 := ⟨by decide +kernel, rfl⟩
def gX12_areServed (m : Mem) : Nat → Int32 → Int32 → Int32 → Option Int32
  | 0, _, _, _ => none
  | f + 1, x1, x2, x3 => (if (m.1 0 51) ≤ x3 then (tz x2 (some x2)) else (if x2 = 0 then (gX12_areServed m f x1 (0 : Int32) (x3 + (1 : Int32))) else (rd (m.1 34) 37 x3 fun v3 => (rd (m.1 35) 3 v3 fun v4 => (if (v4 &&& x1) = 0 then (gX12_areServed m f x1 (0 : Int32) (x3 + (1 : Int32))) else (gX12_areServed m f x1 (1 : Int32) (x3 + (1 : Int32))))))))
def fX12_areServed (m : Mem) (x1 : Int32) : Option Int32 := (if (m.1 0 51) ≤ 0 then (gX12_areServed m 5000 x1 (0 : Int32) (0 : Int32)) else (gX12_areServed m 5000 x1 (1 : Int32) (0 : Int32)))
set_option maxHeartbeats 4000000 in
set_option maxRecDepth 100000 in
theorem wX12_areServed {X : Cx} {G : Gt} (h : OkX (X, G, wM, nM) cX12_areServed RX12 4 (some .boolean) 1) (m : Mem) : ∀ f : Nat, (∀ (x1 : Int32) (x2 : Int32) (x3 : Int32), JR (X, G, wM, nM) (cvP m) m 15 [some (.ref (G.2.2 0)), some (.int x1), some (.int x2), some (.int x3)] [] (gX12_areServed m f x1 x2 x3)) := by
  intro f
  induction f with
  | zero => exact (fun _ _ _ => j_none)
  | succ f ih =>
    intro x1 x2 x3
    rw [gX12_areServed]
    refine j_iload_n h dX12_areServed_15 rfl ?_
    refine j_aload_n h dX12_areServed_16 rfl ?_
    refine gM_51 h dX12_areServed_17 ?_
    refine j_icmp_ge (tgt := 55) h dX12_areServed_20 (by decide) (fun c1 => ?_) (fun c1 => ?_)
    · refine j_iload_n h dX12_areServed_55 rfl ?_
      exact j_zret h rfl dX12_areServed_56
    · refine j_iload_n h dX12_areServed_23 rfl ?_
      refine j_if_eq (tgt := 47) h dX12_areServed_24 (by decide) (fun c2 => ?_) (fun c2 => ?_)
      · refine j_iconst (v := (0 : Int32)) h dX12_areServed_47 kiconst_0 ?_
        refine j_istore_n h dX12_areServed_48 rfl rfl ?_
        refine j_iinc (v := (x3 + (1 : Int32))) h dX12_areServed_49 rfl (by rw [kiconst_1]) rfl ?_
        refine j_goto (tgt := 15) h dX12_areServed_52 (by decide) ?_
        refine j_wk (ls' := [some (.ref (G.2.2 0)), some (.int x1), some (.int (0 : Int32)), some (.int (x3 + (1 : Int32)))]) (And.intro rfl (And.intro rfl (And.intro rfl (And.intro rfl trivial)))) ?_
        exact ih x1 (0 : Int32) (x3 + (1 : Int32))
      · refine j_aload_n h dX12_areServed_27 rfl ?_
        refine gM_57 h dX12_areServed_28 ?_
        refine j_aload_n h dX12_areServed_31 rfl ?_
        refine gM_56 h dX12_areServed_32 ?_
        refine j_iload_n h dX12_areServed_35 rfl ?_
        refine aM_34 h dX12_areServed_36 (fun v3 hv3 => ?_)
        refine aM_35 h dX12_areServed_37 (fun v4 hv4 => ?_)
        refine j_iload_n h dX12_areServed_38 rfl ?_
        refine j_iand h dX12_areServed_39 ?_
        refine j_if_eq (tgt := 47) h dX12_areServed_40 (by decide) (fun c5 => ?_) (fun c5 => ?_)
        · refine j_iconst (v := (0 : Int32)) h dX12_areServed_47 kiconst_0 ?_
          refine j_istore_n h dX12_areServed_48 rfl rfl ?_
          refine j_iinc (v := (x3 + (1 : Int32))) h dX12_areServed_49 rfl (by rw [kiconst_1]) rfl ?_
          refine j_goto (tgt := 15) h dX12_areServed_52 (by decide) ?_
          refine j_wk (ls' := [some (.ref (G.2.2 0)), some (.int x1), some (.int (0 : Int32)), some (.int (x3 + (1 : Int32)))]) (And.intro rfl (And.intro rfl (And.intro rfl (And.intro rfl trivial)))) ?_
          exact ih x1 (0 : Int32) (x3 + (1 : Int32))
        · refine j_iconst (v := (1 : Int32)) h dX12_areServed_43 kiconst_1 ?_
          refine j_goto (tgt := 48) h dX12_areServed_44 (by decide) ?_
          refine j_istore_n h dX12_areServed_48 rfl rfl ?_
          refine j_iinc (v := (x3 + (1 : Int32))) h dX12_areServed_49 rfl (by rw [kiconst_1]) rfl ?_
          refine j_goto (tgt := 15) h dX12_areServed_52 (by decide) ?_
          refine j_wk (ls' := [some (.ref (G.2.2 0)), some (.int x1), some (.int (1 : Int32)), some (.int (x3 + (1 : Int32)))]) (And.intro rfl (And.intro rfl (And.intro rfl (And.intro rfl trivial)))) ?_
          exact ih x1 (1 : Int32) (x3 + (1 : Int32))
set_option maxHeartbeats 4000000 in
set_option maxRecDepth 100000 in
theorem kX12_areServed (l : Launch) (G : Gt) (hD : ∀ m, va_D (inA G nM) (wM G m)) (m : Mem) (x1 : Int32) : ∀ a, fX12_areServed m x1 = some a → Ct l G wM nM yX12_areServed cX12_areServed 4 (some .boolean) 1 [.ref (G.2.2 0), .int x1] m ((cvP m) a) := by
  refine ct_of (own := RX12) (ls0 := [some (.ref (G.2.2 0)), some (.int x1), none, none]) (by decide) rfl rfl rfl (Nat.le_of_ble_eq_true rfl) hD (fun X h => ?_) l
  unfold fX12_areServed
  refine j_aload_n h dX12_areServed_0 rfl ?_
  refine gM_51 h dX12_areServed_1 ?_
  refine j_if_le (tgt := 11) h dX12_areServed_4 (by decide) (fun c1 => ?_) (fun c1 => ?_)
  · refine j_iconst (v := (0 : Int32)) h dX12_areServed_11 kiconst_0 ?_
    refine j_istore_n h dX12_areServed_12 rfl rfl ?_
    refine j_iconst (v := (0 : Int32)) h dX12_areServed_13 kiconst_0 ?_
    refine j_istore_n h dX12_areServed_14 rfl rfl ?_
    refine j_wk (ls' := [some (.ref (G.2.2 0)), some (.int x1), some (.int (0 : Int32)), some (.int (0 : Int32))]) (And.intro rfl (And.intro rfl (And.intro rfl (And.intro rfl trivial)))) ?_
    exact (wX12_areServed h m 5000) x1 (0 : Int32) (0 : Int32)
  · refine j_iconst (v := (1 : Int32)) h dX12_areServed_7 kiconst_1 ?_
    refine j_goto (tgt := 12) h dX12_areServed_8 (by decide) ?_
    refine j_istore_n h dX12_areServed_12 rfl rfl ?_
    refine j_iconst (v := (0 : Int32)) h dX12_areServed_13 kiconst_0 ?_
    refine j_istore_n h dX12_areServed_14 rfl rfl ?_
    refine j_wk (ls' := [some (.ref (G.2.2 0)), some (.int x1), some (.int (1 : Int32)), some (.int (0 : Int32))]) (And.intro rfl (And.intro rfl (And.intro rfl (And.intro rfl trivial)))) ?_
    exact (wX12_areServed h m 5000) x1 (1 : Int32) (0 : Int32)
theorem dX12_shop_0 : DD cX12_shop 0 (.iload_n 1) 1 1 := ⟨by decide +kernel, rfl⟩
theorem dX12_shop_1 : DD cX12_shop 1 (.iconst 0) 1 2 := ⟨by decide +kernel, rfl⟩
theorem dX12_shop_2 : DD cX12_shop 2 (.iconst 1) 1 3 := ⟨by decide +kernel, rfl⟩
theorem dX12_shop_3 : DD cX12_shop 3 (.invokestatic 402) 3 6 := ⟨by decide +kernel, rfl⟩
theorem dX12_shop_6 : DD cX12_shop 6 (.ifCond .ne 5) 3 9 := ⟨by decide +kernel, rfl⟩
theorem dX12_shop_9 : DD cX12_shop 9 (.iconst (-1)) 1 10 := ⟨by decide +kernel, rfl⟩
theorem dX12_shop_10 : DD cX12_shop 10 (.ireturn) 1 11 := ⟨by decide +kernel, rfl⟩
theorem dX12_shop_11 : DD cX12_shop 11 (.aload_n 0) 1 12 := ⟨by decide +kernel, rfl⟩
theorem dX12_shop_12 : DD cX12_shop 12 (.aload_n 0) 1 13 := ⟨by decide +kernel, rfl⟩
theorem dX12_shop_13 : DD cX12_shop 13 (.getfield 112) 3 16 := ⟨by decide +kernel, rfl⟩
theorem dX12_shop_16 : DD cX12_shop 16 (.bipush 36) 2 18 := ⟨by decide +kernel, rfl⟩
theorem dX12_shop_18 : DD cX12_shop 18 (.iaload) 1 19 := ⟨by decide +kernel, rfl⟩
theorem dX12_shop_19 : DD cX12_shop 19 (.invokevirtual 453) 3 22 := ⟨by decide +kernel, rfl⟩
theorem dX12_shop_22 : DD cX12_shop 22 (.iconst 1) 1 23 := ⟨by decide +kernel, rfl⟩
theorem dX12_shop_23 : DD cX12_shop 23 (.istore_n 2) 1 24 := ⟨by decide +kernel, rfl⟩
theorem dX12_shop_24 : DD cX12_shop 24 (.iload_n 2) 1 25 := ⟨by decide +kernel, rfl⟩
theorem dX12_shop_25 : DD cX12_shop 25 (.bipush 24) 2 27 := ⟨by decide +kernel, rfl⟩
theorem dX12_shop_27 : DD cX12_shop 27 (.if_icmp .gt 49) 3 30 := ⟨by decide +kernel, rfl⟩
theorem dX12_shop_30 : DD cX12_shop 30 (.iconst 0) 1 31 := ⟨by decide +kernel, rfl⟩
theorem dX12_shop_31 : DD cX12_shop 31 (.istore_n 3) 1 32 := ⟨by decide +kernel, rfl⟩
theorem dX12_shop_32 : DD cX12_shop 32 (.iload_n 3) 1 33 := ⟨by decide +kernel, rfl⟩
theorem dX12_shop_33 : DD cX12_shop 33 (.iload_n 2) 1 34 := ⟨by decide +kernel, rfl⟩
theorem dX12_shop_34 : DD cX12_shop 34 (.iadd) 1 35 := ⟨by decide +kernel, rfl⟩
theorem dX12_shop_35 : DD cX12_shop 35 (.bipush 24) 2 37 := ⟨by decide +kernel, rfl⟩
theorem dX12_shop_37 : DD cX12_shop 37 (.if_icmp .gt 33) 3 40 := ⟨by decide +kernel, rfl⟩
theorem dX12_shop_40 : DD cX12_shop 40 (.aload_n 0) 1 41 := ⟨by decide +kernel, rfl⟩
theorem dX12_shop_41 : DD cX12_shop 41 (.iconst 1) 1 42 := ⟨by decide +kernel, rfl⟩
theorem dX12_shop_42 : DD cX12_shop 42 (.iload_n 2) 1 43 := ⟨by decide +kernel, rfl⟩
theorem dX12_shop_43 : DD cX12_shop 43 (.ishl) 1 44 := ⟨by decide +kernel, rfl⟩
theorem dX12_shop_44 : DD cX12_shop 44 (.iconst 1) 1 45 := ⟨by decide +kernel, rfl⟩
theorem dX12_shop_45 : DD cX12_shop 45 (.isub) 1 46 := ⟨by decide +kernel, rfl⟩
theorem dX12_shop_46 : DD cX12_shop 46 (.iload_n 3) 1 47 := ⟨by decide +kernel, rfl⟩
theorem dX12_shop_47 : DD cX12_shop 47 (.ishl) 1 48 := ⟨by decide +kernel, rfl⟩
theorem dX12_shop_48 : DD cX12_shop 48 (.invokevirtual 503) 3 51 := ⟨by decide +kernel, rfl⟩
theorem dX12_shop_51 : DD cX12_shop 51 (.ifCond .eq 13) 3 54 := ⟨by decide +kernel, rfl⟩
theorem dX12_shop_54 : DD cX12_shop 54 (.iload_n 1) 1 55 := ⟨by decide +kernel, rfl⟩
theorem dX12_shop_55 : DD cX12_shop 55 (.ifCond .ne 7) 3 58 := ⟨by decide +kernel, rfl⟩
theorem dX12_shop_58 : DD cX12_shop 58 (.iload_n 3) 1 59 := ⟨by decide +kernel, rfl⟩
theorem dX12_shop_59 : DD cX12_shop 59 (.goto 4) 3 62 := ⟨by decide +kernel, rfl⟩
theorem dX12_shop_62 : DD cX12_shop 62 (.iload_n 2) 1 63 := ⟨by decide +kernel, rfl⟩
theorem dX12_shop_63 : DD cX12_shop 63 (.ireturn) 1 64 := ⟨by decide +kernel, rfl⟩
theorem dX12_shop_64 : DD cX12_shop 64 (.iinc 3 1) 3 67 := ⟨by decide +kernel, rfl⟩
theorem dX12_shop_67 : DD cX12_shop 67 (.goto (-35)) 3 70 := ⟨by decide +kernel, rfl⟩
theorem dX12_shop_70 : DD cX12_shop 70 (.iinc 2 1) 3 73 := ⟨by decide +kernel, rfl⟩
theorem dX12_shop_73 : DD cX12_shop 73 (.goto (-49)) 3 76 := ⟨by decide +kernel, rfl⟩
theorem dX12_shop_76 : DD cX12_shop 76 (.iconst (-1)) 1 77 := ⟨by decide +kernel, rfl⟩
theorem dX12_shop_77 : DD cX12_shop 77 (.ireturn) 1 78 := ⟨by decide +kernel, rfl⟩
def gX12_shop : Nat → Nat → Int32 → Int32 → Int32 → Mem → Option (Int32 × Mem)
  | 0, _, _, _, _, _ => none
  | f + 1, 0, x1, x2, x3, m => (if (24 : Int32) < x2 then (some ((-1 : Int32), m)) else (gX12_shop f 1 x1 x2 (0 : Int32) m))
  | f + 1, 1, x1, x2, x3, m => (if (24 : Int32) < (x3 + x2) then (gX12_shop f 0 x1 (x2 + (1 : Int32)) 0 m) else (cP (fX12_areServed m ((((1 : Int32) <<< (x2 &&& 31)) - (1 : Int32)) <<< (x3 &&& 31))) fun r2 => (if r2 = 0 then (gX12_shop f 1 x1 x2 (x3 + (1 : Int32)) m) else (if x1 = 0 then (some (x3, m)) else (some (x2, m))))))
  | _ + 1, _ + 2, _, _, _, _ => none
def fX12_shop (m : Mem) (x1 : Int32) : Option (Int32 × Mem) := (cP (fX12_isIn x1 (0 : Int32) (1 : Int32)) fun r1 => (if r1 = 0 then (some ((-1 : Int32), m)) else (rd (m.1 33) 37 (36 : Int32) fun v4 => (cV (fX12_loadDate m v4) fun m6 => (gX12_shop 5000 0 x1 (1 : Int32) 0 m6)))))
set_option maxHeartbeats 4000000 in
set_option maxRecDepth 100000 in
theorem wX12_shop {X : Cx} {G : Gt} (h : OkX (X, G, wM, nM) cX12_shop RX12 4 (some .int) 7) : ∀ f : Nat, (∀ (x1 : Int32) (x2 : Int32) (x3 : Int32) (m : Mem), JR (X, G, wM, nM) cvI m 24 [some (.ref (G.2.2 0)), some (.int x1), some (.int x2), none] [] (gX12_shop f 0 x1 x2 x3 m)) ∧ (∀ (x1 : Int32) (x2 : Int32) (x3 : Int32) (m : Mem), JR (X, G, wM, nM) cvI m 32 [some (.ref (G.2.2 0)), some (.int x1), some (.int x2), some (.int x3)] [] (gX12_shop f 1 x1 x2 x3 m)) := by
  intro f
  induction f with
  | zero => exact ⟨(fun _ _ _ _ => j_none), (fun _ _ _ _ => j_none)⟩
  | succ f ih =>
    refine ⟨?_, ?_⟩
    · intro x1 x2 x3 m
      rw [gX12_shop]
      refine j_iload_n h dX12_shop_24 rfl ?_
      refine j_bipush (v := (24 : Int32)) h dX12_shop_25 kbipush_24 ?_
      refine j_icmp_gt (tgt := 76) h dX12_shop_27 (by decide) (fun c1 => ?_) (fun c1 => ?_)
      · refine j_iconst (v := (-1 : Int32)) h dX12_shop_76 kiconst_m1 ?_
        exact j_iret h rfl dX12_shop_77
      · refine j_iconst (v := (0 : Int32)) h dX12_shop_30 kiconst_0 ?_
        refine j_istore_n h dX12_shop_31 rfl rfl ?_
        refine j_wk (ls' := [some (.ref (G.2.2 0)), some (.int x1), some (.int x2), some (.int (0 : Int32))]) (And.intro rfl (And.intro rfl (And.intro rfl (And.intro rfl trivial)))) ?_
        exact ih.2 x1 x2 (0 : Int32) m
    · intro x1 x2 x3 m
      rw [gX12_shop]
      refine j_iload_n h dX12_shop_32 rfl ?_
      refine j_iload_n h dX12_shop_33 rfl ?_
      refine j_iadd h dX12_shop_34 ?_
      refine j_bipush (v := (24 : Int32)) h dX12_shop_35 kbipush_24 ?_
      refine j_icmp_gt (tgt := 70) h dX12_shop_37 (by decide) (fun c1 => ?_) (fun c1 => ?_)
      · refine j_iinc (v := (x2 + (1 : Int32))) h dX12_shop_70 rfl (by rw [kiconst_1]) rfl ?_
        refine j_goto (tgt := 24) h dX12_shop_73 (by decide) ?_
        refine j_wk (ls' := [some (.ref (G.2.2 0)), some (.int x1), some (.int (x2 + (1 : Int32))), none]) (And.intro rfl (And.intro rfl (And.intro rfl trivial))) ?_
        exact ih.1 x1 (x2 + (1 : Int32)) 0 m
      · refine j_aload_n h dX12_shop_40 rfl ?_
        refine j_iconst (v := (1 : Int32)) h dX12_shop_41 kiconst_1 ?_
        refine j_iload_n h dX12_shop_42 rfl ?_
        refine j_ishl h dX12_shop_43 ?_
        refine j_iconst (v := (1 : Int32)) h dX12_shop_44 kiconst_1 ?_
        refine j_isub h dX12_shop_45 ?_
        refine j_iload_n h dX12_shop_46 rfl ?_
        refine j_ishl h dX12_shop_47 ?_
        refine j_callVP (q0 := 0) (ci := 12) h [.int ((((1 : Int32) <<< (x2 &&& 31)) - (1 : Int32)) <<< (x3 &&& 31))] (kX12_areServed _ G h.2.2.2.2.2.2.2.2.2.2 m ((((1 : Int32) <<< (x2 &&& 31)) - (1 : Int32)) <<< (x3 &&& 31))) okX12_areServed inX12_areServed ml12_503 rfl rfl rfl rfl (by decide) (by decide) (Nat.le_of_ble_eq_true rfl) rfl dX12_shop_48 (fun r2 hr2 => ?_)
        refine j_if_eq (tgt := 64) h dX12_shop_51 (by decide) (fun c4 => ?_) (fun c4 => ?_)
        · refine j_iinc (v := (x3 + (1 : Int32))) h dX12_shop_64 rfl (by rw [kiconst_1]) rfl ?_
          refine j_goto (tgt := 32) h dX12_shop_67 (by decide) ?_
          refine j_wk (ls' := [some (.ref (G.2.2 0)), some (.int x1), some (.int x2), some (.int (x3 + (1 : Int32)))]) (And.intro rfl (And.intro rfl (And.intro rfl (And.intro rfl trivial)))) ?_
          exact ih.2 x1 x2 (x3 + (1 : Int32)) m
        · refine j_iload_n h dX12_shop_54 rfl ?_
          refine j_if_ne (tgt := 62) h dX12_shop_55 (by decide) (fun c5 => ?_) (fun c5 => ?_)
          · refine j_iload_n h dX12_shop_62 rfl ?_
            exact j_iret h rfl dX12_shop_63
          · refine j_iload_n h dX12_shop_58 rfl ?_
            refine j_goto (tgt := 63) h dX12_shop_59 (by decide) ?_
            exact j_iret h rfl dX12_shop_63
set_option maxHeartbeats 4000000 in
set_option maxRecDepth 100000 in
theorem kX12_shop (l : Launch) (G : Gt) (hD : ∀ m, va_D (inA G nM) (wM G m)) (m : Mem) (x1 : Int32) : ∀ a, fX12_shop m x1 = some a → Ct l G wM nM yX12_shop cX12_shop 4 (some .int) 7 [.ref (G.2.2 0), .int x1] m (cvI a) := by
  refine ct_of (own := RX12) (ls0 := [some (.ref (G.2.2 0)), some (.int x1), none, none]) (by decide) rfl rfl rfl (Nat.le_of_ble_eq_true rfl) hD (fun X h => ?_) l
  unfold fX12_shop
  refine j_iload_n h dX12_shop_0 rfl ?_
  refine j_iconst (v := (0 : Int32)) h dX12_shop_1 kiconst_0 ?_
  refine j_iconst (v := (1 : Int32)) h dX12_shop_2 kiconst_1 ?_
  refine j_callSP h [.int x1, .int (0 : Int32), .int (1 : Int32)] (kX12_isIn _ G h.2.2.2.2.2.2.2.2.2.2 m x1 (0 : Int32) (1 : Int32)) okX12_isIn stX12_isIn ml12_402 rfl rfl (by decide) (by decide) (Nat.le_of_ble_eq_true rfl) rfl dX12_shop_3 (fun r1 hr1 => ?_)
  refine j_if_ne (tgt := 11) h dX12_shop_6 (by decide) (fun c3 => ?_) (fun c3 => ?_)
  · refine j_aload_n h dX12_shop_11 rfl ?_
    refine j_aload_n h dX12_shop_12 rfl ?_
    refine gM_55 h dX12_shop_13 ?_
    refine j_bipush (v := (36 : Int32)) h dX12_shop_16 kbipush_36 ?_
    refine aM_33 h dX12_shop_18 (fun v4 hv4 => ?_)
    refine j_callVV (q0 := 0) (ci := 12) h [.int v4] (kX12_loadDate _ G h.2.2.2.2.2.2.2.2.2.2 m v4) okX12_loadDate inX12_loadDate ml12_453 rfl rfl rfl rfl (by decide) (by decide) (Nat.le_of_ble_eq_true rfl) rfl dX12_shop_19 (fun m6 hm6 => ?_)
    refine j_iconst (v := (1 : Int32)) h dX12_shop_22 kiconst_1 ?_
    refine j_istore_n h dX12_shop_23 rfl rfl ?_
    refine j_wk (ls' := [some (.ref (G.2.2 0)), some (.int x1), some (.int (1 : Int32)), none]) (And.intro rfl (And.intro rfl (And.intro rfl trivial))) ?_
    exact (wX12_shop h 5000).1 x1 (1 : Int32) 0 m6
  · refine j_iconst (v := (-1 : Int32)) h dX12_shop_9 kiconst_m1 ?_
    exact j_iret h rfl dX12_shop_10
theorem dX12_haveMeet_0 : DD cX12_haveMeet 0 (.iconst 0) 1 1 := ⟨by decide +kernel, rfl⟩
theorem dX12_haveMeet_1 : DD cX12_haveMeet 1 (.istore_n 3) 1 2 := ⟨by decide +kernel, rfl⟩
theorem dX12_haveMeet_2 : DD cX12_haveMeet 2 (.iconst 0) 1 3 := ⟨by decide +kernel, rfl⟩
theorem dX12_haveMeet_3 : DD cX12_haveMeet 3 (.istore 4) 2 5 := ⟨by decide +kernel, rfl⟩
theorem dX12_haveMeet_5 : DD cX12_haveMeet 5 (.iload 4) 2 7 := ⟨by decide +kernel, rfl⟩
theorem dX12_haveMeet_7 : DD cX12_haveMeet 7 (.aload_n 0) 1 8 := ⟨by decide +kernel, rfl⟩
theorem dX12_haveMeet_8 : DD cX12_haveMeet 8 (.getfield 381) 3 11 := ⟨by decide +kernel, rfl⟩
theorem dX12_haveMeet_11 : DD cX12_haveMeet 11 (.if_icmp .ge 63) 3 14 := ⟨by decide +kernel, rfl⟩
theorem dX12_haveMeet_14 : DD cX12_haveMeet 14 (.iload_n 3) 1 15 := ⟨by decide +kernel, rfl⟩
theorem dX12_haveMeet_15 : DD cX12_haveMeet 15 (.ifCond .ne 47) 3 18 := ⟨by decide +kernel, rfl⟩
theorem dX12_haveMeet_18 : DD cX12_haveMeet 18 (.aload_n 0) 1 19 := ⟨by decide +kernel, rfl⟩
theorem dX12_haveMeet_19 : DD cX12_haveMeet 19 (.getfield 82) 3 22 := ⟨by decide +kernel, rfl⟩
theorem dX12_haveMeet_22 : DD cX12_haveMeet 22 (.iload 4) 2 24 := ⟨by decide +kernel, rfl⟩
theorem dX12_haveMeet_24 : DD cX12_haveMeet 24 (.iaload) 1 25 := ⟨by decide +kernel, rfl⟩
theorem dX12_haveMeet_25 : DD cX12_haveMeet 25 (.iload_n 1) 1 26 := ⟨by decide +kernel, rfl⟩
theorem dX12_haveMeet_26 : DD cX12_haveMeet 26 (.if_icmp .ne 14) 3 29 := ⟨by decide +kernel, rfl⟩
theorem dX12_haveMeet_29 : DD cX12_haveMeet 29 (.aload_n 0) 1 30 := ⟨by decide +kernel, rfl⟩
theorem dX12_haveMeet_30 : DD cX12_haveMeet 30 (.getfield 85) 3 33 := ⟨by decide +kernel, rfl⟩
theorem dX12_haveMeet_33 : DD cX12_haveMeet 33 (.iload 4) 2 35 := ⟨by decide +kernel, rfl⟩
theorem dX12_haveMeet_35 : DD cX12_haveMeet 35 (.iaload) 1 36 := ⟨by decide +kernel, rfl⟩
theorem dX12_haveMeet_36 : DD cX12_haveMeet 36 (.iload_n 2) 1 37 := ⟨by decide +kernel, rfl⟩
theorem dX12_haveMeet_37 : DD cX12_haveMeet 37 (.if_icmp .eq 25) 3 40 := ⟨by decide +kernel, rfl⟩
theorem dX12_haveMeet_40 : DD cX12_haveMeet 40 (.aload_n 0) 1 41 := ⟨by decide +kernel, rfl⟩
theorem dX12_haveMeet_41 : DD cX12_haveMeet 41 (.getfield 82) 3 44 := ⟨by decide +kernel, rfl⟩
theorem dX12_haveMeet_44 : DD cX12_haveMeet 44 (.iload 4) 2 46 := ⟨by decide +kernel, rfl⟩
theorem dX12_haveMeet_46 : DD cX12_haveMeet 46 (.iaload) 1 47 := ⟨by decide +kernel, rfl⟩
theorem dX12_haveMeet_47 : DD cX12_haveMeet 47 (.iload_n 2) 1 48 := ⟨by decide +kernel, rfl⟩
theorem dX12_haveMeet_48 : DD cX12_haveMeet 48 (.if_icmp .ne 18) 3 51 := ⟨by decide +kernel, rfl⟩
theorem dX12_haveMeet_51 : DD cX12_haveMeet 51 (.aload_n 0) 1 52 := ⟨by decide +kernel, rfl⟩
theorem dX12_haveMeet_52 : DD cX12_haveMeet 52 (.getfield 85) 3 55 := ⟨by decide +kernel, rfl⟩
theorem dX12_haveMeet_55 : DD cX12_haveMeet 55 (.iload 4) 2 57 := ⟨by decide +kernel, rfl⟩
theorem dX12_haveMeet_57 : DD cX12_haveMeet 57 (.iaload) 1 58 := ⟨by decide +kernel, rfl⟩
theorem dX12_haveMeet_58 : DD cX12_haveMeet 58 (.iload_n 1) 1 59 := ⟨by decide +kernel, rfl⟩
theorem dX12_haveMeet_59 : DD cX12_haveMeet 59 (.if_icmp .ne 7) 3 62 := ⟨by decide +kernel, rfl⟩
theorem dX12_haveMeet_62 : DD cX12_haveMeet 62 (.iconst 1) 1 63 := ⟨by decide +kernel, rfl⟩
theorem dX12_haveMeet_63 : DD cX12_haveMeet 63 (.goto 4) 3 66 := ⟨by decide +kernel, rfl⟩
theorem dX12_haveMeet_66 : DD cX12_haveMeet 66 (.iconst 0) 1 67 := ⟨by decide +kernel, rfl⟩
theorem dX12_haveMeet_67 : DD cX12_haveMeet 67 (.istore_n 3) 1 68 := ⟨by decide +kernel, rfl⟩
theorem dX12_haveMeet_68 : DD cX12_haveMeet 68 (.iinc 4 1) 3 71 := ⟨by decide +kernel, rfl⟩
theorem dX12_haveMeet_71 : DD cX12_haveMeet 71 (.goto (-66)) 3 74 := ⟨by decide +kernel, rfl⟩
theorem dX12_haveMeet_74 : DD cX12_haveMeet 74 (.iload_n 3) 1 75 := ⟨by decide +kernel, rfl⟩
theorem dX12_haveMeet_75 : DD cX12_haveMeet 75 (.ireturn) 1 76 := ⟨by decide +kernel, rfl⟩
def gX12_haveMeet (m : Mem) : Nat → Int32 → Int32 → Int32 → Int32 → Option Int32
  | 0, _, _, _, _ => none
  | f + 1, x1, x2, x3, x4 => (if (m.1 0 52) ≤ x4 then (tz x3 (some x3)) else (if x3 = 0 then (rd (m.1 23) 10 x4 fun v3 => (if v3 = x1 then (rd (m.1 24) 10 x4 fun v9 => (if v9 = x2 then (gX12_haveMeet m f x1 x2 (1 : Int32) (x4 + (1 : Int32))) else (rd (m.1 23) 10 x4 fun v11 => (if v11 = x2 then (rd (m.1 24) 10 x4 fun v13 => (if v13 = x1 then (gX12_haveMeet m f x1 x2 (1 : Int32) (x4 + (1 : Int32))) else (gX12_haveMeet m f x1 x2 (0 : Int32) (x4 + (1 : Int32))))) else (gX12_haveMeet m f x1 x2 (0 : Int32) (x4 + (1 : Int32))))))) else (rd (m.1 23) 10 x4 fun v5 => (if v5 = x2 then (rd (m.1 24) 10 x4 fun v7 => (if v7 = x1 then (gX12_haveMeet m f x1 x2 (1 : Int32) (x4 + (1 : Int32))) else (gX12_haveMeet m f x1 x2 (0 : Int32) (x4 + (1 : Int32))))) else (gX12_haveMeet m f x1 x2 (0 : Int32) (x4 + (1 : Int32))))))) else (gX12_haveMeet m f x1 x2 (1 : Int32) (x4 + (1 : Int32)))))
def fX12_haveMeet (m : Mem) (x1 : Int32) (x2 : Int32) : Option Int32 := (gX12_haveMeet m 5000 x1 x2 (0 : Int32) (0 : Int32))
set_option maxHeartbeats 4000000 in
set_option maxRecDepth 100000 in
theorem wX12_haveMeet {X : Cx} {G : Gt} (h : OkX (X, G, wM, nM) cX12_haveMeet RX12 5 (some .boolean) 1) (m : Mem) : ∀ f : Nat, (∀ (x1 : Int32) (x2 : Int32) (x3 : Int32) (x4 : Int32), JR (X, G, wM, nM) (cvP m) m 5 [some (.ref (G.2.2 0)), some (.int x1), some (.int x2), some (.int x3), some (.int x4)] [] (gX12_haveMeet m f x1 x2 x3 x4)) := by
  intro f
  induction f with
  | zero => exact (fun _ _ _ _ => j_none)
  | succ f ih =>
    intro x1 x2 x3 x4
    rw [gX12_haveMeet]
    refine j_iload h dX12_haveMeet_5 rfl ?_
    refine j_aload_n h dX12_haveMeet_7 rfl ?_
    refine gM_52 h dX12_haveMeet_8 ?_
    refine j_icmp_ge (tgt := 74) h dX12_haveMeet_11 (by decide) (fun c1 => ?_) (fun c1 => ?_)
    · refine j_iload_n h dX12_haveMeet_74 rfl ?_
      exact j_zret h rfl dX12_haveMeet_75
    · refine j_iload_n h dX12_haveMeet_14 rfl ?_
      refine j_if_ne (tgt := 62) h dX12_haveMeet_15 (by decide) (fun c2 => ?_) (fun c2 => ?_)
      · refine j_iconst (v := (1 : Int32)) h dX12_haveMeet_62 kiconst_1 ?_
        refine j_goto (tgt := 67) h dX12_haveMeet_63 (by decide) ?_
        refine j_istore_n h dX12_haveMeet_67 rfl rfl ?_
        refine j_iinc (v := (x4 + (1 : Int32))) h dX12_haveMeet_68 rfl (by rw [kiconst_1]) rfl ?_
        refine j_goto (tgt := 5) h dX12_haveMeet_71 (by decide) ?_
        refine j_wk (ls' := [some (.ref (G.2.2 0)), some (.int x1), some (.int x2), some (.int (1 : Int32)), some (.int (x4 + (1 : Int32)))]) (And.intro rfl (And.intro rfl (And.intro rfl (And.intro rfl (And.intro rfl trivial))))) ?_
        exact ih x1 x2 (1 : Int32) (x4 + (1 : Int32))
      · refine j_aload_n h dX12_haveMeet_18 rfl ?_
        refine gM_37 h dX12_haveMeet_19 ?_
        refine j_iload h dX12_haveMeet_22 rfl ?_
        refine aM_23 h dX12_haveMeet_24 (fun v3 hv3 => ?_)
        refine j_iload_n h dX12_haveMeet_25 rfl ?_
        refine j_icmp_ne (tgt := 40) h dX12_haveMeet_26 (by decide) (fun c4 => ?_) (fun c4 => ?_)
        · refine j_aload_n h dX12_haveMeet_40 rfl ?_
          refine gM_37 h dX12_haveMeet_41 ?_
          refine j_iload h dX12_haveMeet_44 rfl ?_
          refine aM_23 h dX12_haveMeet_46 (fun v5 hv5 => ?_)
          refine j_iload_n h dX12_haveMeet_47 rfl ?_
          refine j_icmp_ne (tgt := 66) h dX12_haveMeet_48 (by decide) (fun c6 => ?_) (fun c6 => ?_)
          · refine j_iconst (v := (0 : Int32)) h dX12_haveMeet_66 kiconst_0 ?_
            refine j_istore_n h dX12_haveMeet_67 rfl rfl ?_
            refine j_iinc (v := (x4 + (1 : Int32))) h dX12_haveMeet_68 rfl (by rw [kiconst_1]) rfl ?_
            refine j_goto (tgt := 5) h dX12_haveMeet_71 (by decide) ?_
            refine j_wk (ls' := [some (.ref (G.2.2 0)), some (.int x1), some (.int x2), some (.int (0 : Int32)), some (.int (x4 + (1 : Int32)))]) (And.intro rfl (And.intro rfl (And.intro rfl (And.intro rfl (And.intro rfl trivial))))) ?_
            exact ih x1 x2 (0 : Int32) (x4 + (1 : Int32))
          · refine j_aload_n h dX12_haveMeet_51 rfl ?_
            refine gM_38 h dX12_haveMeet_52 ?_
            refine j_iload h dX12_haveMeet_55 rfl ?_
            refine aM_24 h dX12_haveMeet_57 (fun v7 hv7 => ?_)
            refine j_iload_n h dX12_haveMeet_58 rfl ?_
            refine j_icmp_ne (tgt := 66) h dX12_haveMeet_59 (by decide) (fun c8 => ?_) (fun c8 => ?_)
            · refine j_iconst (v := (0 : Int32)) h dX12_haveMeet_66 kiconst_0 ?_
              refine j_istore_n h dX12_haveMeet_67 rfl rfl ?_
              refine j_iinc (v := (x4 + (1 : Int32))) h dX12_haveMeet_68 rfl (by rw [kiconst_1]) rfl ?_
              refine j_goto (tgt := 5) h dX12_haveMeet_71 (by decide) ?_
              refine j_wk (ls' := [some (.ref (G.2.2 0)), some (.int x1), some (.int x2), some (.int (0 : Int32)), some (.int (x4 + (1 : Int32)))]) (And.intro rfl (And.intro rfl (And.intro rfl (And.intro rfl (And.intro rfl trivial))))) ?_
              exact ih x1 x2 (0 : Int32) (x4 + (1 : Int32))
            · refine j_iconst (v := (1 : Int32)) h dX12_haveMeet_62 kiconst_1 ?_
              refine j_goto (tgt := 67) h dX12_haveMeet_63 (by decide) ?_
              refine j_istore_n h dX12_haveMeet_67 rfl rfl ?_
              refine j_iinc (v := (x4 + (1 : Int32))) h dX12_haveMeet_68 rfl (by rw [kiconst_1]) rfl ?_
              refine j_goto (tgt := 5) h dX12_haveMeet_71 (by decide) ?_
              refine j_wk (ls' := [some (.ref (G.2.2 0)), some (.int x1), some (.int x2), some (.int (1 : Int32)), some (.int (x4 + (1 : Int32)))]) (And.intro rfl (And.intro rfl (And.intro rfl (And.intro rfl (And.intro rfl trivial))))) ?_
              exact ih x1 x2 (1 : Int32) (x4 + (1 : Int32))
        · refine j_aload_n h dX12_haveMeet_29 rfl ?_
          refine gM_38 h dX12_haveMeet_30 ?_
          refine j_iload h dX12_haveMeet_33 rfl ?_
          refine aM_24 h dX12_haveMeet_35 (fun v9 hv9 => ?_)
          refine j_iload_n h dX12_haveMeet_36 rfl ?_
          refine j_icmp_eq (tgt := 62) h dX12_haveMeet_37 (by decide) (fun c10 => ?_) (fun c10 => ?_)
          · refine j_iconst (v := (1 : Int32)) h dX12_haveMeet_62 kiconst_1 ?_
            refine j_goto (tgt := 67) h dX12_haveMeet_63 (by decide) ?_
            refine j_istore_n h dX12_haveMeet_67 rfl rfl ?_
            refine j_iinc (v := (x4 + (1 : Int32))) h dX12_haveMeet_68 rfl (by rw [kiconst_1]) rfl ?_
            refine j_goto (tgt := 5) h dX12_haveMeet_71 (by decide) ?_
            refine j_wk (ls' := [some (.ref (G.2.2 0)), some (.int x1), some (.int x2), some (.int (1 : Int32)), some (.int (x4 + (1 : Int32)))]) (And.intro rfl (And.intro rfl (And.intro rfl (And.intro rfl (And.intro rfl trivial))))) ?_
            exact ih x1 x2 (1 : Int32) (x4 + (1 : Int32))
          · refine j_aload_n h dX12_haveMeet_40 rfl ?_
            refine gM_37 h dX12_haveMeet_41 ?_
            refine j_iload h dX12_haveMeet_44 rfl ?_
            refine aM_23 h dX12_haveMeet_46 (fun v11 hv11 => ?_)
            refine j_iload_n h dX12_haveMeet_47 rfl ?_
            refine j_icmp_ne (tgt := 66) h dX12_haveMeet_48 (by decide) (fun c12 => ?_) (fun c12 => ?_)
            · refine j_iconst (v := (0 : Int32)) h dX12_haveMeet_66 kiconst_0 ?_
              refine j_istore_n h dX12_haveMeet_67 rfl rfl ?_
              refine j_iinc (v := (x4 + (1 : Int32))) h dX12_haveMeet_68 rfl (by rw [kiconst_1]) rfl ?_
              refine j_goto (tgt := 5) h dX12_haveMeet_71 (by decide) ?_
              refine j_wk (ls' := [some (.ref (G.2.2 0)), some (.int x1), some (.int x2), some (.int (0 : Int32)), some (.int (x4 + (1 : Int32)))]) (And.intro rfl (And.intro rfl (And.intro rfl (And.intro rfl (And.intro rfl trivial))))) ?_
              exact ih x1 x2 (0 : Int32) (x4 + (1 : Int32))
            · refine j_aload_n h dX12_haveMeet_51 rfl ?_
              refine gM_38 h dX12_haveMeet_52 ?_
              refine j_iload h dX12_haveMeet_55 rfl ?_
              refine aM_24 h dX12_haveMeet_57 (fun v13 hv13 => ?_)
              refine j_iload_n h dX12_haveMeet_58 rfl ?_
              refine j_icmp_ne (tgt := 66) h dX12_haveMeet_59 (by decide) (fun c14 => ?_) (fun c14 => ?_)
              · refine j_iconst (v := (0 : Int32)) h dX12_haveMeet_66 kiconst_0 ?_
                refine j_istore_n h dX12_haveMeet_67 rfl rfl ?_
                refine j_iinc (v := (x4 + (1 : Int32))) h dX12_haveMeet_68 rfl (by rw [kiconst_1]) rfl ?_
                refine j_goto (tgt := 5) h dX12_haveMeet_71 (by decide) ?_
                refine j_wk (ls' := [some (.ref (G.2.2 0)), some (.int x1), some (.int x2), some (.int (0 : Int32)), some (.int (x4 + (1 : Int32)))]) (And.intro rfl (And.intro rfl (And.intro rfl (And.intro rfl (And.intro rfl trivial))))) ?_
                exact ih x1 x2 (0 : Int32) (x4 + (1 : Int32))
              · refine j_iconst (v := (1 : Int32)) h dX12_haveMeet_62 kiconst_1 ?_
                refine j_goto (tgt := 67) h dX12_haveMeet_63 (by decide) ?_
                refine j_istore_n h dX12_haveMeet_67 rfl rfl ?_
                refine j_iinc (v := (x4 + (1 : Int32))) h dX12_haveMeet_68 rfl (by rw [kiconst_1]) rfl ?_
                refine j_goto (tgt := 5) h dX12_haveMeet_71 (by decide) ?_
                refine j_wk (ls' := [some (.ref (G.2.2 0)), some (.int x1), some (.int x2), some (.int (1 : Int32)), some (.int (x4 + (1 : Int32)))]) (And.intro rfl (And.intro rfl (And.intro rfl (And.intro rfl (And.intro rfl trivial))))) ?_
                exact ih x1 x2 (1 : Int32) (x4 + (1 : Int32))
set_option maxHeartbeats 4000000 in
set_option maxRecDepth 100000 in
theorem kX12_haveMeet (l : Launch) (G : Gt) (hD : ∀ m, va_D (inA G nM) (wM G m)) (m : Mem) (x1 : Int32) (x2 : Int32) : ∀ a, fX12_haveMeet m x1 x2 = some a → Ct l G wM nM yX12_haveMeet cX12_haveMeet 5 (some .boolean) 1 [.ref (G.2.2 0), .int x1, .int x2] m ((cvP m) a) := by
  refine ct_of (own := RX12) (ls0 := [some (.ref (G.2.2 0)), some (.int x1), some (.int x2), none, none]) (by decide) rfl rfl rfl (Nat.le_of_ble_eq_true rfl) hD (fun X h => ?_) l
  unfold fX12_haveMeet
  refine j_iconst (v := (0 : Int32)) h dX12_haveMeet_0 kiconst_0 ?_
  refine j_istore_n h dX12_haveMeet_1 rfl rfl ?_
  refine j_iconst (v := (0 : Int32)) h dX12_haveMeet_2 kiconst_0 ?_
  refine j_istore h dX12_haveMeet_3 rfl rfl ?_
  refine j_wk (ls' := [some (.ref (G.2.2 0)), some (.int x1), some (.int x2), some (.int (0 : Int32)), some (.int (0 : Int32))]) (And.intro rfl (And.intro rfl (And.intro rfl (And.intro rfl (And.intro rfl trivial))))) ?_
  exact (wX12_haveMeet h m 5000) x1 x2 (0 : Int32) (0 : Int32)
