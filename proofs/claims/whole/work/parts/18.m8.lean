theorem dX12_later_0 : DD cX12_later 0 (.iload_n 1) 1 1 := ⟨by decide +kernel, rfl⟩
theorem dX12_later_1 : DD cX12_later 1 (.ifCond .lt 22) 3 4 := ⟨by decide +kernel, rfl⟩
theorem dX12_later_4 : DD cX12_later 4 (.iload_n 1) 1 5 := ⟨by decide +kernel, rfl⟩
theorem dX12_later_5 : DD cX12_later 5 (.sipush 1000) 3 8 := ⟨by decide +kernel, rfl⟩
theorem dX12_later_8 : DD cX12_later 8 (.if_icmp .gt 15) 3 11 := ⟨by decide +kernel, rfl⟩
theorem dX12_later_11 : DD cX12_later 11 (.aload_n 0) 1 12 := ⟨by decide +kernel, rfl⟩
theorem dX12_later_12 : DD cX12_later 12 (.getfield 521) 3 15 := ⟨by decide +kernel, rfl⟩
theorem dX12_later_15 : DD cX12_later 15 (.iload_n 1) 1 16 := ⟨by decide +kernel, rfl⟩
theorem dX12_later_16 : DD cX12_later 16 (.iadd) 1 17 := ⟨by decide +kernel, rfl⟩
theorem dX12_later_17 : DD cX12_later 17 (.ldc_w 524) 3 20 := ⟨by decide +kernel, rfl⟩
theorem dX12_later_20 : DD cX12_later 20 (.if_icmp .le 5) 3 23 := ⟨by decide +kernel, rfl⟩
theorem dX12_later_23 : DD cX12_later 23 (.iconst (-1)) 1 24 := ⟨by decide +kernel, rfl⟩
theorem dX12_later_24 : DD cX12_later 24 (.ireturn) 1 25 := ⟨by decide +kernel, rfl⟩
theorem dX12_later_25 : DD cX12_later 25 (.aload_n 0) 1 26 := ⟨by decide +kernel, rfl⟩
theorem dX12_later_26 : DD cX12_later 26 (.dup) 1 27 := ⟨by decide +kernel, rfl⟩
theorem dX12_later_27 : DD cX12_later 27 (.getfield 521) 3 30 := ⟨by decide +kernel, rfl⟩
theorem dX12_later_30 : DD cX12_later 30 (.iload_n 1) 1 31 := ⟨by decide +kernel, rfl⟩
theorem dX12_later_31 : DD cX12_later 31 (.iadd) 1 32 := ⟨by decide +kernel, rfl⟩
theorem dX12_later_32 : DD cX12_later 32 (.putfield 521) 3 35 := ⟨by decide +kernel, rfl⟩
theorem dX12_later_35 : DD cX12_later 35 (.aload_n 0) 1 36 := ⟨by decide +kernel, rfl⟩
theorem dX12_later_36 : DD cX12_later 36 (.getfield 521) 3 39 := ⟨by decide +kernel, rfl⟩
theorem dX12_later_39 : DD cX12_later 39 (.ireturn) 1 40 := ⟨by decide +kernel, rfl⟩
def fX12_later (m : Mem) (x1 : Int32) : Option (Int32 × Mem) := (if x1 < 0 then (some ((-1 : Int32), m)) else (if (1000 : Int32) < x1 then (some ((-1 : Int32), m)) else (if ((m.1 0 70) + x1) ≤ (100000 : Int32) then (pt (sI m 0 70 ((m.1 0 70) + x1)) fun m4 => (some ((m4.1 0 70), m4))) else (some ((-1 : Int32), m)))))
set_option maxHeartbeats 4000000 in
set_option maxRecDepth 100000 in
theorem kX12_later (l : Launch) (G : Gt) (hD : ∀ m, va_D (inA G nM) (wM G m)) (m : Mem) (x1 : Int32) : ∀ a, fX12_later m x1 = some a → Ct l G wM nM yX12_later cX12_later 2 (some .int) 1 [.ref (G.2.2 0), .int x1] m (cvI a) := by
  refine ct_of (own := RX12) (ls0 := [some (.ref (G.2.2 0)), some (.int x1)]) (by decide) rfl rfl rfl (Nat.le_of_ble_eq_true rfl) hD (fun X h => ?_) l
  unfold fX12_later
  refine j_iload_n h dX12_later_0 rfl ?_
  refine j_if_lt (tgt := 23) h dX12_later_1 (by decide) (fun c1 => ?_) (fun c1 => ?_)
  · refine j_iconst (v := (-1 : Int32)) h dX12_later_23 kiconst_m1 ?_
    exact j_iret h rfl dX12_later_24
  · refine j_iload_n h dX12_later_4 rfl ?_
    refine j_sipush (v := (1000 : Int32)) h dX12_later_5 ksipush_1000 ?_
    refine j_icmp_gt (tgt := 23) h dX12_later_8 (by decide) (fun c2 => ?_) (fun c2 => ?_)
    · refine j_iconst (v := (-1 : Int32)) h dX12_later_23 kiconst_m1 ?_
      exact j_iret h rfl dX12_later_24
    · refine j_aload_n h dX12_later_11 rfl ?_
      refine gM_70 h dX12_later_12 ?_
      refine j_iload_n h dX12_later_15 rfl ?_
      refine j_iadd h dX12_later_16 ?_
      refine j_ldcw (v := (100000 : Int32)) h dX12_later_17 cn12_524 ?_
      refine j_icmp_le (tgt := 25) h dX12_later_20 (by decide) (fun c3 => ?_) (fun c3 => ?_)
      · refine j_aload_n h dX12_later_25 rfl ?_
        refine j_dup h dX12_later_26 rfl ?_
        refine gM_70 h dX12_later_27 ?_
        refine j_iload_n h dX12_later_30 rfl ?_
        refine j_iadd h dX12_later_31 ?_
        refine pM_70 h dX12_later_32 (fun m4 hm4 => ?_)
        refine j_aload_n h dX12_later_35 rfl ?_
        refine gM_70 h dX12_later_36 ?_
        exact j_iret h rfl dX12_later_39
      · refine j_iconst (v := (-1 : Int32)) h dX12_later_23 kiconst_m1 ?_
        exact j_iret h rfl dX12_later_24
theorem dX12_lightsAt_0 : DD cX12_lightsAt 0 (.iconst 0) 1 1 := ⟨by decide +kernel, rfl⟩
theorem dX12_lightsAt_1 : DD cX12_lightsAt 1 (.istore_n 3) 1 2 := ⟨by decide +kernel, rfl⟩
theorem dX12_lightsAt_2 : DD cX12_lightsAt 2 (.iconst 0) 1 3 := ⟨by decide +kernel, rfl⟩
theorem dX12_lightsAt_3 : DD cX12_lightsAt 3 (.istore 4) 2 5 := ⟨by decide +kernel, rfl⟩
theorem dX12_lightsAt_5 : DD cX12_lightsAt 5 (.iload 4) 2 7 := ⟨by decide +kernel, rfl⟩
theorem dX12_lightsAt_7 : DD cX12_lightsAt 7 (.aload_n 0) 1 8 := ⟨by decide +kernel, rfl⟩
theorem dX12_lightsAt_8 : DD cX12_lightsAt 8 (.getfield 378) 3 11 := ⟨by decide +kernel, rfl⟩
theorem dX12_lightsAt_11 : DD cX12_lightsAt 11 (.if_icmp .ge 38) 3 14 := ⟨by decide +kernel, rfl⟩
theorem dX12_lightsAt_14 : DD cX12_lightsAt 14 (.iload_n 3) 1 15 := ⟨by decide +kernel, rfl⟩
theorem dX12_lightsAt_15 : DD cX12_lightsAt 15 (.aload_n 0) 1 16 := ⟨by decide +kernel, rfl⟩
theorem dX12_lightsAt_16 : DD cX12_lightsAt 16 (.getfield 64) 3 19 := ⟨by decide +kernel, rfl⟩
theorem dX12_lightsAt_19 : DD cX12_lightsAt 19 (.iload 4) 2 21 := ⟨by decide +kernel, rfl⟩
theorem dX12_lightsAt_21 : DD cX12_lightsAt 21 (.iaload) 1 22 := ⟨by decide +kernel, rfl⟩
theorem dX12_lightsAt_22 : DD cX12_lightsAt 22 (.iload_n 1) 1 23 := ⟨by decide +kernel, rfl⟩
theorem dX12_lightsAt_23 : DD cX12_lightsAt 23 (.if_icmp .ne 17) 3 26 := ⟨by decide +kernel, rfl⟩
theorem dX12_lightsAt_26 : DD cX12_lightsAt 26 (.aload_n 0) 1 27 := ⟨by decide +kernel, rfl⟩
theorem dX12_lightsAt_27 : DD cX12_lightsAt 27 (.getfield 118) 3 30 := ⟨by decide +kernel, rfl⟩
theorem dX12_lightsAt_30 : DD cX12_lightsAt 30 (.iload_n 2) 1 31 := ⟨by decide +kernel, rfl⟩
theorem dX12_lightsAt_31 : DD cX12_lightsAt 31 (.iload 4) 2 33 := ⟨by decide +kernel, rfl⟩
theorem dX12_lightsAt_33 : DD cX12_lightsAt 33 (.ishr) 1 34 := ⟨by decide +kernel, rfl⟩
theorem dX12_lightsAt_34 : DD cX12_lightsAt 34 (.iconst 1) 1 35 := ⟨by decide +kernel, rfl⟩
theorem dX12_lightsAt_35 : DD cX12_lightsAt 35 (.iand) 1 36 := ⟨by decide +kernel, rfl⟩
theorem dX12_lightsAt_36 : DD cX12_lightsAt 36 (.iaload) 1 37 := ⟨by decide +kernel, rfl⟩
theorem dX12_lightsAt_37 : DD cX12_lightsAt 37 (.goto 4) 3 40 := ⟨by decide +kernel, rfl⟩
theorem dX12_lightsAt_40 : DD cX12_lightsAt 40 (.iconst 0) 1 41 := ⟨by decide +kernel, rfl⟩
theorem dX12_lightsAt_41 : DD cX12_lightsAt 41 (.ior) 1 42 := ⟨by decide +kernel, rfl⟩
theorem dX12_lightsAt_42 : DD cX12_lightsAt 42 (.istore_n 3) 1 43 := ⟨by decide +kernel, rfl⟩
theorem dX12_lightsAt_43 : DD cX12_lightsAt 43 (.iinc 4 1) 3 46 := ⟨by decide +kernel, rfl⟩
theorem dX12_lightsAt_46 : DD cX12_lightsAt 46 (.goto (-41)) 3 49 := ⟨by decide +kernel, rfl⟩
theorem dX12_lightsAt_49 : DD cX12_lightsAt 49 (.iload_n 3) 1 50 := ⟨by decide +kernel, rfl⟩
theorem dX12_lightsAt_50 : DD cX12_lightsAt 50 (.ireturn) 1 51 := ⟨by decide +kernel, rfl⟩
def gX12_lightsAt (m : Mem) : Nat → Int32 → Int32 → Int32 → Int32 → Option Int32
  | 0, _, _, _, _ => none
  | f + 1, x1, x2, x3, x4 => (if (m.1 0 51) ≤ x4 then (some x3) else (rd (m.1 17) 7 x4 fun v2 => (if v2 = x1 then (rd (m.1 35) 3 ((x2 >>> (x4 &&& 31)) &&& (1 : Int32)) fun v5 => (nm (x3 ||| v5) fun v6 => (gX12_lightsAt m f x1 x2 v6 (x4 + (1 : Int32))))) else (nm (x3 ||| (0 : Int32)) fun v4 => (gX12_lightsAt m f x1 x2 v4 (x4 + (1 : Int32)))))))
def fX12_lightsAt (m : Mem) (x1 : Int32) (x2 : Int32) : Option Int32 := (gX12_lightsAt m 5000 x1 x2 (0 : Int32) (0 : Int32))
set_option maxHeartbeats 4000000 in
set_option maxRecDepth 100000 in
theorem wX12_lightsAt {X : Cx} {G : Gt} (h : OkX (X, G, wM, nM) cX12_lightsAt RX12 5 (some .int) 1) (m : Mem) : ∀ f : Nat, (∀ (x1 : Int32) (x2 : Int32) (x3 : Int32) (x4 : Int32), JR (X, G, wM, nM) (cvP m) m 5 [some (.ref (G.2.2 0)), some (.int x1), some (.int x2), some (.int x3), some (.int x4)] [] (gX12_lightsAt m f x1 x2 x3 x4)) := by
  intro f
  induction f with
  | zero => exact (fun _ _ _ _ => j_none)
  | succ f ih =>
    intro x1 x2 x3 x4
    rw [gX12_lightsAt]
    refine j_iload h dX12_lightsAt_5 rfl ?_
    refine j_aload_n h dX12_lightsAt_7 rfl ?_
    refine gM_51 h dX12_lightsAt_8 ?_
    refine j_icmp_ge (tgt := 49) h dX12_lightsAt_11 (by decide) (fun c1 => ?_) (fun c1 => ?_)
    · refine j_iload_n h dX12_lightsAt_49 rfl ?_
      exact j_iret h rfl dX12_lightsAt_50
    · refine j_iload_n h dX12_lightsAt_14 rfl ?_
      refine j_aload_n h dX12_lightsAt_15 rfl ?_
      refine gM_31 h dX12_lightsAt_16 ?_
      refine j_iload h dX12_lightsAt_19 rfl ?_
      refine aM_17 h dX12_lightsAt_21 (fun v2 hv2 => ?_)
      refine j_iload_n h dX12_lightsAt_22 rfl ?_
      refine j_icmp_ne (tgt := 40) h dX12_lightsAt_23 (by decide) (fun c3 => ?_) (fun c3 => ?_)
      · refine j_iconst (v := (0 : Int32)) h dX12_lightsAt_40 kiconst_0 ?_
        refine j_ior h dX12_lightsAt_41 ?_
        refine j_nm (fun v4 hv4 => ?_)
        refine j_istore_n h dX12_lightsAt_42 rfl rfl ?_
        refine j_iinc (v := (x4 + (1 : Int32))) h dX12_lightsAt_43 rfl (by rw [kiconst_1]) rfl ?_
        refine j_goto (tgt := 5) h dX12_lightsAt_46 (by decide) ?_
        refine j_wk (ls' := [some (.ref (G.2.2 0)), some (.int x1), some (.int x2), some (.int v4), some (.int (x4 + (1 : Int32)))]) (And.intro rfl (And.intro rfl (And.intro rfl (And.intro rfl (And.intro rfl trivial))))) ?_
        exact ih x1 x2 v4 (x4 + (1 : Int32))
      · refine j_aload_n h dX12_lightsAt_26 rfl ?_
        refine gM_57 h dX12_lightsAt_27 ?_
        refine j_iload_n h dX12_lightsAt_30 rfl ?_
        refine j_iload h dX12_lightsAt_31 rfl ?_
        refine j_ishr h dX12_lightsAt_33 ?_
        refine j_iconst (v := (1 : Int32)) h dX12_lightsAt_34 kiconst_1 ?_
        refine j_iand h dX12_lightsAt_35 ?_
        refine aM_35 h dX12_lightsAt_36 (fun v5 hv5 => ?_)
        refine j_goto (tgt := 41) h dX12_lightsAt_37 (by decide) ?_
        refine j_ior h dX12_lightsAt_41 ?_
        refine j_nm (fun v6 hv6 => ?_)
        refine j_istore_n h dX12_lightsAt_42 rfl rfl ?_
        refine j_iinc (v := (x4 + (1 : Int32))) h dX12_lightsAt_43 rfl (by rw [kiconst_1]) rfl ?_
        refine j_goto (tgt := 5) h dX12_lightsAt_46 (by decide) ?_
        refine j_wk (ls' := [some (.ref (G.2.2 0)), some (.int x1), some (.int x2), some (.int v6), some (.int (x4 + (1 : Int32)))]) (And.intro rfl (And.intro rfl (And.intro rfl (And.intro rfl (And.intro rfl trivial))))) ?_
        exact ih x1 x2 v6 (x4 + (1 : Int32))
set_option maxHeartbeats 4000000 in
set_option maxRecDepth 100000 in
theorem kX12_lightsAt (l : Launch) (G : Gt) (hD : ∀ m, va_D (inA G nM) (wM G m)) (m : Mem) (x1 : Int32) (x2 : Int32) : ∀ a, fX12_lightsAt m x1 x2 = some a → Ct l G wM nM yX12_lightsAt cX12_lightsAt 5 (some .int) 1 [.ref (G.2.2 0), .int x1, .int x2] m ((cvP m) a) := by
  refine ct_of (own := RX12) (ls0 := [some (.ref (G.2.2 0)), some (.int x1), some (.int x2), none, none]) (by decide) rfl rfl rfl (Nat.le_of_ble_eq_true rfl) hD (fun X h => ?_) l
  unfold fX12_lightsAt
  refine j_iconst (v := (0 : Int32)) h dX12_lightsAt_0 kiconst_0 ?_
  refine j_istore_n h dX12_lightsAt_1 rfl rfl ?_
  refine j_iconst (v := (0 : Int32)) h dX12_lightsAt_2 kiconst_0 ?_
  refine j_istore h dX12_lightsAt_3 rfl rfl ?_
  refine j_wk (ls' := [some (.ref (G.2.2 0)), some (.int x1), some (.int x2), some (.int (0 : Int32)), some (.int (0 : Int32))]) (And.intro rfl (And.intro rfl (And.intro rfl (And.intro rfl (And.intro rfl trivial))))) ?_
  exact (wX12_lightsAt h m 5000) x1 x2 (0 : Int32) (0 : Int32)
theorem dX12_isFit_0 : DD cX12_isFit 0 (.iconst 1) 1 1 := ⟨by decide +kernel, rfl⟩
theorem dX12_isFit_1 : DD cX12_isFit 1 (.istore_n 3) 1 2 := ⟨by decide +kernel, rfl⟩
theorem dX12_isFit_2 : DD cX12_isFit 2 (.iconst 0) 1 3 := ⟨by decide +kernel, rfl⟩
theorem dX12_isFit_3 : DD cX12_isFit 3 (.istore 4) 2 5 := ⟨by decide +kernel, rfl⟩
theorem dX12_isFit_5 : DD cX12_isFit 5 (.iload 4) 2 7 := ⟨by decide +kernel, rfl⟩
theorem dX12_isFit_7 : DD cX12_isFit 7 (.aload_n 0) 1 8 := ⟨by decide +kernel, rfl⟩
theorem dX12_isFit_8 : DD cX12_isFit 8 (.getfield 396) 3 11 := ⟨by decide +kernel, rfl⟩
theorem dX12_isFit_11 : DD cX12_isFit 11 (.if_icmp .ge 95) 3 14 := ⟨by decide +kernel, rfl⟩
theorem dX12_isFit_14 : DD cX12_isFit 14 (.iload_n 3) 1 15 := ⟨by decide +kernel, rfl⟩
theorem dX12_isFit_15 : DD cX12_isFit 15 (.ifCond .eq 91) 3 18 := ⟨by decide +kernel, rfl⟩
theorem dX12_isFit_18 : DD cX12_isFit 18 (.aload_n 0) 1 19 := ⟨by decide +kernel, rfl⟩
theorem dX12_isFit_19 : DD cX12_isFit 19 (.getfield 136) 3 22 := ⟨by decide +kernel, rfl⟩
theorem dX12_isFit_22 : DD cX12_isFit 22 (.iload 4) 2 24 := ⟨by decide +kernel, rfl⟩
theorem dX12_isFit_24 : DD cX12_isFit 24 (.iaload) 1 25 := ⟨by decide +kernel, rfl⟩
theorem dX12_isFit_25 : DD cX12_isFit 25 (.iload_n 2) 1 26 := ⟨by decide +kernel, rfl⟩
theorem dX12_isFit_26 : DD cX12_isFit 26 (.if_icmp .gt 74) 3 29 := ⟨by decide +kernel, rfl⟩
theorem dX12_isFit_29 : DD cX12_isFit 29 (.aload_n 0) 1 30 := ⟨by decide +kernel, rfl⟩
theorem dX12_isFit_30 : DD cX12_isFit 30 (.getfield 139) 3 33 := ⟨by decide +kernel, rfl⟩
theorem dX12_isFit_33 : DD cX12_isFit 33 (.iload 4) 2 35 := ⟨by decide +kernel, rfl⟩
theorem dX12_isFit_35 : DD cX12_isFit 35 (.iaload) 1 36 := ⟨by decide +kernel, rfl⟩
theorem dX12_isFit_36 : DD cX12_isFit 36 (.ifCond .lt 17) 3 39 := ⟨by decide +kernel, rfl⟩
theorem dX12_isFit_39 : DD cX12_isFit 39 (.aload_n 0) 1 40 := ⟨by decide +kernel, rfl⟩
theorem dX12_isFit_40 : DD cX12_isFit 40 (.getfield 139) 3 43 := ⟨by decide +kernel, rfl⟩
theorem dX12_isFit_43 : DD cX12_isFit 43 (.iload 4) 2 45 := ⟨by decide +kernel, rfl⟩
theorem dX12_isFit_45 : DD cX12_isFit 45 (.iaload) 1 46 := ⟨by decide +kernel, rfl⟩
theorem dX12_isFit_46 : DD cX12_isFit 46 (.iload_n 2) 1 47 := ⟨by decide +kernel, rfl⟩
theorem dX12_isFit_47 : DD cX12_isFit 47 (.if_icmp .gt 6) 3 50 := ⟨by decide +kernel, rfl⟩
theorem dX12_isFit_50 : DD cX12_isFit 50 (.goto 50) 3 53 := ⟨by decide +kernel, rfl⟩
theorem dX12_isFit_53 : DD cX12_isFit 53 (.aload_n 0) 1 54 := ⟨by decide +kernel, rfl⟩
theorem dX12_isFit_54 : DD cX12_isFit 54 (.aload_n 0) 1 55 := ⟨by decide +kernel, rfl⟩
theorem dX12_isFit_55 : DD cX12_isFit 55 (.getfield 130) 3 58 := ⟨by decide +kernel, rfl⟩
theorem dX12_isFit_58 : DD cX12_isFit 58 (.iload 4) 2 60 := ⟨by decide +kernel, rfl⟩
theorem dX12_isFit_60 : DD cX12_isFit 60 (.iaload) 1 61 := ⟨by decide +kernel, rfl⟩
theorem dX12_isFit_61 : DD cX12_isFit 61 (.iload_n 1) 1 62 := ⟨by decide +kernel, rfl⟩
theorem dX12_isFit_62 : DD cX12_isFit 62 (.invokevirtual 525) 3 65 := ⟨by decide +kernel, rfl⟩
theorem dX12_isFit_65 : DD cX12_isFit 65 (.aload_n 0) 1 66 := ⟨by decide +kernel, rfl⟩
theorem dX12_isFit_66 : DD cX12_isFit 66 (.getfield 133) 3 69 := ⟨by decide +kernel, rfl⟩
theorem dX12_isFit_69 : DD cX12_isFit 69 (.iload 4) 2 71 := ⟨by decide +kernel, rfl⟩
theorem dX12_isFit_71 : DD cX12_isFit 71 (.iaload) 1 72 := ⟨by decide +kernel, rfl⟩
theorem dX12_isFit_72 : DD cX12_isFit 72 (.ishr) 1 73 := ⟨by decide +kernel, rfl⟩
theorem dX12_isFit_73 : DD cX12_isFit 73 (.iconst 1) 1 74 := ⟨by decide +kernel, rfl⟩
theorem dX12_isFit_74 : DD cX12_isFit 74 (.iand) 1 75 := ⟨by decide +kernel, rfl⟩
theorem dX12_isFit_75 : DD cX12_isFit 75 (.iconst 1) 1 76 := ⟨by decide +kernel, rfl⟩
theorem dX12_isFit_76 : DD cX12_isFit 76 (.if_icmp .ne 7) 3 79 := ⟨by decide +kernel, rfl⟩
theorem dX12_isFit_79 : DD cX12_isFit 79 (.iconst 1) 1 80 := ⟨by decide +kernel, rfl⟩
theorem dX12_isFit_80 : DD cX12_isFit 80 (.goto 4) 3 83 := ⟨by decide +kernel, rfl⟩
theorem dX12_isFit_83 : DD cX12_isFit 83 (.iconst 0) 1 84 := ⟨by decide +kernel, rfl⟩
theorem dX12_isFit_84 : DD cX12_isFit 84 (.aload_n 0) 1 85 := ⟨by decide +kernel, rfl⟩
theorem dX12_isFit_85 : DD cX12_isFit 85 (.getfield 142) 3 88 := ⟨by decide +kernel, rfl⟩
theorem dX12_isFit_88 : DD cX12_isFit 88 (.iload 4) 2 90 := ⟨by decide +kernel, rfl⟩
theorem dX12_isFit_90 : DD cX12_isFit 90 (.baload) 1 91 := ⟨by decide +kernel, rfl⟩
theorem dX12_isFit_91 : DD cX12_isFit 91 (.if_icmp .ne 7) 3 94 := ⟨by decide +kernel, rfl⟩
theorem dX12_isFit_94 : DD cX12_isFit 94 (.iconst 1) 1 95 := ⟨by decide +kernel, rfl⟩
theorem dX12_isFit_95 : DD cX12_isFit 95 (.goto 4) 3 98 := ⟨by decide +kernel, rfl⟩
theorem dX12_isFit_98 : DD cX12_isFit 98 (.iconst 0) 1 99 := ⟨by decide +kernel, rfl⟩
theorem dX12_isFit_99 : DD cX12_isFit 99 (.istore_n 3) 1 100 := ⟨by decide +kernel, rfl⟩
theorem dX12_isFit_100 : DD cX12_isFit 100 (.iinc 4 1) 3 103 := ⟨by decide +kernel, rfl⟩
theorem dX12_isFit_103 : DD cX12_isFit 103 (.goto (-98)) 3 106 := ⟨by decide +kernel, rfl⟩
theorem dX12_isFit_106 : DD cX12_isFit 106 (.iload_n 3) 1 107 := ⟨by decide +kernel, rfl⟩
theorem dX12_isFit_107 : DD cX12_isFit 107 (.ireturn) 1 108 := ⟨by decide +kernel, rfl⟩
def gX12_isFit (m : Mem) : Nat → Int32 → Int32 → Int32 → Int32 → Option Int32
  | 0, _, _, _, _ => none
  | f + 1, x1, x2, x3, x4 => (if (m.1 0 69) ≤ x4 then (tz x3 (some x3)) else (if x3 = 0 then (tz x3 (some x3)) else (rd (m.1 41) 30 x4 fun v3 => (if x2 < v3 then (gX12_isFit m f x1 x2 x3 (x4 + (1 : Int32))) else (rd (m.1 42) 30 x4 fun v5 => (if v5 < 0 then (rd (m.1 39) 30 x4 fun v7 => (cP (fX12_lightsAt m v7 x1) fun r8 => (rd (m.1 40) 30 x4 fun v10 => (if ((r8 >>> (v10 &&& 31)) &&& (1 : Int32)) = (1 : Int32) then (rd (m.1 43) 30 x4 fun v14 => (if (1 : Int32) = v14 then (gX12_isFit m f x1 x2 (1 : Int32) (x4 + (1 : Int32))) else (gX12_isFit m f x1 x2 (0 : Int32) (x4 + (1 : Int32))))) else (rd (m.1 43) 30 x4 fun v12 => (if (0 : Int32) = v12 then (gX12_isFit m f x1 x2 (1 : Int32) (x4 + (1 : Int32))) else (gX12_isFit m f x1 x2 (0 : Int32) (x4 + (1 : Int32))))))))) else (rd (m.1 42) 30 x4 fun v16 => (if x2 < v16 then (rd (m.1 39) 30 x4 fun v18 => (cP (fX12_lightsAt m v18 x1) fun r19 => (rd (m.1 40) 30 x4 fun v21 => (if ((r19 >>> (v21 &&& 31)) &&& (1 : Int32)) = (1 : Int32) then (rd (m.1 43) 30 x4 fun v25 => (if (1 : Int32) = v25 then (gX12_isFit m f x1 x2 (1 : Int32) (x4 + (1 : Int32))) else (gX12_isFit m f x1 x2 (0 : Int32) (x4 + (1 : Int32))))) else (rd (m.1 43) 30 x4 fun v23 => (if (0 : Int32) = v23 then (gX12_isFit m f x1 x2 (1 : Int32) (x4 + (1 : Int32))) else (gX12_isFit m f x1 x2 (0 : Int32) (x4 + (1 : Int32))))))))) else (gX12_isFit m f x1 x2 x3 (x4 + (1 : Int32)))))))))))
def fX12_isFit (m : Mem) (x1 : Int32) (x2 : Int32) : Option Int32 := (gX12_isFit m 5000 x1 x2 (1 : Int32) (0 : Int32))
set_option maxHeartbeats 4000000 in
set_option maxRecDepth 100000 in
theorem wX12_isFit {X : Cx} {G : Gt} (h : OkX (X, G, wM, nM) cX12_isFit RX12 5 (some .boolean) 2) (m : Mem) : ∀ f : Nat, (∀ (x1 : Int32) (x2 : Int32) (x3 : Int32) (x4 : Int32), JR (X, G, wM, nM) (cvP m) m 5 [some (.ref (G.2.2 0)), some (.int x1), some (.int x2), some (.int x3), some (.int x4)] [] (gX12_isFit m f x1 x2 x3 x4)) := by
  intro f
  induction f with
  | zero => exact (fun _ _ _ _ => j_none)
  | succ f ih =>
    intro x1 x2 x3 x4
    rw [gX12_isFit]
    refine j_iload h dX12_isFit_5 rfl ?_
    refine j_aload_n h dX12_isFit_7 rfl ?_
    refine gM_69 h dX12_isFit_8 ?_
    refine j_icmp_ge (tgt := 106) h dX12_isFit_11 (by decide) (fun c1 => ?_) (fun c1 => ?_)
    · refine j_iload_n h dX12_isFit_106 rfl ?_
      exact j_zret h rfl dX12_isFit_107
    · refine j_iload_n h dX12_isFit_14 rfl ?_
      refine j_if_eq (tgt := 106) h dX12_isFit_15 (by decide) (fun c2 => ?_) (fun c2 => ?_)
      · refine j_iload_n h dX12_isFit_106 rfl ?_
        exact j_zret h rfl dX12_isFit_107
      · refine j_aload_n h dX12_isFit_18 rfl ?_
        refine gM_66 h dX12_isFit_19 ?_
        refine j_iload h dX12_isFit_22 rfl ?_
        refine aM_41 h dX12_isFit_24 (fun v3 hv3 => ?_)
        refine j_iload_n h dX12_isFit_25 rfl ?_
        refine j_icmp_gt (tgt := 100) h dX12_isFit_26 (by decide) (fun c4 => ?_) (fun c4 => ?_)
        · refine j_iinc (v := (x4 + (1 : Int32))) h dX12_isFit_100 rfl (by rw [kiconst_1]) rfl ?_
          refine j_goto (tgt := 5) h dX12_isFit_103 (by decide) ?_
          refine j_wk (ls' := [some (.ref (G.2.2 0)), some (.int x1), some (.int x2), some (.int x3), some (.int (x4 + (1 : Int32)))]) (And.intro rfl (And.intro rfl (And.intro rfl (And.intro rfl (And.intro rfl trivial))))) ?_
          exact ih x1 x2 x3 (x4 + (1 : Int32))
        · refine j_aload_n h dX12_isFit_29 rfl ?_
          refine gM_67 h dX12_isFit_30 ?_
          refine j_iload h dX12_isFit_33 rfl ?_
          refine aM_42 h dX12_isFit_35 (fun v5 hv5 => ?_)
          refine j_if_lt (tgt := 53) h dX12_isFit_36 (by decide) (fun c6 => ?_) (fun c6 => ?_)
          · refine j_aload_n h dX12_isFit_53 rfl ?_
            refine j_aload_n h dX12_isFit_54 rfl ?_
            refine gM_64 h dX12_isFit_55 ?_
            refine j_iload h dX12_isFit_58 rfl ?_
            refine aM_39 h dX12_isFit_60 (fun v7 hv7 => ?_)
            refine j_iload_n h dX12_isFit_61 rfl ?_
            refine j_callVP (q0 := 0) (ci := 12) h [.int v7, .int x1] (kX12_lightsAt _ G h.2.2.2.2.2.2.2.2.2.2 m v7 x1) okX12_lightsAt inX12_lightsAt ml12_525 rfl rfl rfl rfl (by decide) (by decide) (Nat.le_of_ble_eq_true rfl) rfl dX12_isFit_62 (fun r8 hr8 => ?_)
            refine j_aload_n h dX12_isFit_65 rfl ?_
            refine gM_65 h dX12_isFit_66 ?_
            refine j_iload h dX12_isFit_69 rfl ?_
            refine aM_40 h dX12_isFit_71 (fun v10 hv10 => ?_)
            refine j_ishr h dX12_isFit_72 ?_
            refine j_iconst (v := (1 : Int32)) h dX12_isFit_73 kiconst_1 ?_
            refine j_iand h dX12_isFit_74 ?_
            refine j_iconst (v := (1 : Int32)) h dX12_isFit_75 kiconst_1 ?_
            refine j_icmp_ne (tgt := 83) h dX12_isFit_76 (by decide) (fun c11 => ?_) (fun c11 => ?_)
            · refine j_iconst (v := (0 : Int32)) h dX12_isFit_83 kiconst_0 ?_
              refine j_aload_n h dX12_isFit_84 rfl ?_
              refine gM_68 h dX12_isFit_85 ?_
              refine j_iload h dX12_isFit_88 rfl ?_
              refine aM_43 h dX12_isFit_90 (fun v12 hv12 => ?_)
              refine j_icmp_ne (tgt := 98) h dX12_isFit_91 (by decide) (fun c13 => ?_) (fun c13 => ?_)
              · refine j_iconst (v := (0 : Int32)) h dX12_isFit_98 kiconst_0 ?_
                refine j_istore_n h dX12_isFit_99 rfl rfl ?_
                refine j_iinc (v := (x4 + (1 : Int32))) h dX12_isFit_100 rfl (by rw [kiconst_1]) rfl ?_
                refine j_goto (tgt := 5) h dX12_isFit_103 (by decide) ?_
                refine j_wk (ls' := [some (.ref (G.2.2 0)), some (.int x1), some (.int x2), some (.int (0 : Int32)), some (.int (x4 + (1 : Int32)))]) (And.intro rfl (And.intro rfl (And.intro rfl (And.intro rfl (And.intro rfl trivial))))) ?_
                exact ih x1 x2 (0 : Int32) (x4 + (1 : Int32))
              · refine j_iconst (v := (1 : Int32)) h dX12_isFit_94 kiconst_1 ?_
                refine j_goto (tgt := 99) h dX12_isFit_95 (by decide) ?_
                refine j_istore_n h dX12_isFit_99 rfl rfl ?_
                refine j_iinc (v := (x4 + (1 : Int32))) h dX12_isFit_100 rfl (by rw [kiconst_1]) rfl ?_
                refine j_goto (tgt := 5) h dX12_isFit_103 (by decide) ?_
                refine j_wk (ls' := [some (.ref (G.2.2 0)), some (.int x1), some (.int x2), some (.int (1 : Int32)), some (.int (x4 + (1 : Int32)))]) (And.intro rfl (And.intro rfl (And.intro rfl (And.intro rfl (And.intro rfl trivial))))) ?_
                exact ih x1 x2 (1 : Int32) (x4 + (1 : Int32))
            · refine j_iconst (v := (1 : Int32)) h dX12_isFit_79 kiconst_1 ?_
              refine j_goto (tgt := 84) h dX12_isFit_80 (by decide) ?_
              refine j_aload_n h dX12_isFit_84 rfl ?_
              refine gM_68 h dX12_isFit_85 ?_
              refine j_iload h dX12_isFit_88 rfl ?_
              refine aM_43 h dX12_isFit_90 (fun v14 hv14 => ?_)
              refine j_icmp_ne (tgt := 98) h dX12_isFit_91 (by decide) (fun c15 => ?_) (fun c15 => ?_)
              · refine j_iconst (v := (0 : Int32)) h dX12_isFit_98 kiconst_0 ?_
                refine j_istore_n h dX12_isFit_99 rfl rfl ?_
                refine j_iinc (v := (x4 + (1 : Int32))) h dX12_isFit_100 rfl (by rw [kiconst_1]) rfl ?_
                refine j_goto (tgt := 5) h dX12_isFit_103 (by decide) ?_
                refine j_wk (ls' := [some (.ref (G.2.2 0)), some (.int x1), some (.int x2), some (.int (0 : Int32)), some (.int (x4 + (1 : Int32)))]) (And.intro rfl (And.intro rfl (And.intro rfl (And.intro rfl (And.intro rfl trivial))))) ?_
                exact ih x1 x2 (0 : Int32) (x4 + (1 : Int32))
              · refine j_iconst (v := (1 : Int32)) h dX12_isFit_94 kiconst_1 ?_
                refine j_goto (tgt := 99) h dX12_isFit_95 (by decide) ?_
                refine j_istore_n h dX12_isFit_99 rfl rfl ?_
                refine j_iinc (v := (x4 + (1 : Int32))) h dX12_isFit_100 rfl (by rw [kiconst_1]) rfl ?_
                refine j_goto (tgt := 5) h dX12_isFit_103 (by decide) ?_
                refine j_wk (ls' := [some (.ref (G.2.2 0)), some (.int x1), some (.int x2), some (.int (1 : Int32)), some (.int (x4 + (1 : Int32)))]) (And.intro rfl (And.intro rfl (And.intro rfl (And.intro rfl (And.intro rfl trivial))))) ?_
                exact ih x1 x2 (1 : Int32) (x4 + (1 : Int32))
          · refine j_aload_n h dX12_isFit_39 rfl ?_
            refine gM_67 h dX12_isFit_40 ?_
            refine j_iload h dX12_isFit_43 rfl ?_
            refine aM_42 h dX12_isFit_45 (fun v16 hv16 => ?_)
            refine j_iload_n h dX12_isFit_46 rfl ?_
            refine j_icmp_gt (tgt := 53) h dX12_isFit_47 (by decide) (fun c17 => ?_) (fun c17 => ?_)
            · refine j_aload_n h dX12_isFit_53 rfl ?_
              refine j_aload_n h dX12_isFit_54 rfl ?_
              refine gM_64 h dX12_isFit_55 ?_
              refine j_iload h dX12_isFit_58 rfl ?_
              refine aM_39 h dX12_isFit_60 (fun v18 hv18 => ?_)
              refine j_iload_n h dX12_isFit_61 rfl ?_
              refine j_callVP (q0 := 0) (ci := 12) h [.int v18, .int x1] (kX12_lightsAt _ G h.2.2.2.2.2.2.2.2.2.2 m v18 x1) okX12_lightsAt inX12_lightsAt ml12_525 rfl rfl rfl rfl (by decide) (by decide) (Nat.le_of_ble_eq_true rfl) rfl dX12_isFit_62 (fun r19 hr19 => ?_)
              refine j_aload_n h dX12_isFit_65 rfl ?_
              refine gM_65 h dX12_isFit_66 ?_
              refine j_iload h dX12_isFit_69 rfl ?_
              refine aM_40 h dX12_isFit_71 (fun v21 hv21 => ?_)
              refine j_ishr h dX12_isFit_72 ?_
              refine j_iconst (v := (1 : Int32)) h dX12_isFit_73 kiconst_1 ?_
              refine j_iand h dX12_isFit_74 ?_
              refine j_iconst (v := (1 : Int32)) h dX12_isFit_75 kiconst_1 ?_
              refine j_icmp_ne (tgt := 83) h dX12_isFit_76 (by decide) (fun c22 => ?_) (fun c22 => ?_)
              · refine j_iconst (v := (0 : Int32)) h dX12_isFit_83 kiconst_0 ?_
                refine j_aload_n h dX12_isFit_84 rfl ?_
                refine gM_68 h dX12_isFit_85 ?_
                refine j_iload h dX12_isFit_88 rfl ?_
                refine aM_43 h dX12_isFit_90 (fun v23 hv23 => ?_)
                refine j_icmp_ne (tgt := 98) h dX12_isFit_91 (by decide) (fun c24 => ?_) (fun c24 => ?_)
                · refine j_iconst (v := (0 : Int32)) h dX12_isFit_98 kiconst_0 ?_
                  refine j_istore_n h dX12_isFit_99 rfl rfl ?_
                  refine j_iinc (v := (x4 + (1 : Int32))) h dX12_isFit_100 rfl (by rw [kiconst_1]) rfl ?_
                  refine j_goto (tgt := 5) h dX12_isFit_103 (by decide) ?_
                  refine j_wk (ls' := [some (.ref (G.2.2 0)), some (.int x1), some (.int x2), some (.int (0 : Int32)), some (.int (x4 + (1 : Int32)))]) (And.intro rfl (And.intro rfl (And.intro rfl (And.intro rfl (And.intro rfl trivial))))) ?_
                  exact ih x1 x2 (0 : Int32) (x4 + (1 : Int32))
                · refine j_iconst (v := (1 : Int32)) h dX12_isFit_94 kiconst_1 ?_
                  refine j_goto (tgt := 99) h dX12_isFit_95 (by decide) ?_
                  refine j_istore_n h dX12_isFit_99 rfl rfl ?_
                  refine j_iinc (v := (x4 + (1 : Int32))) h dX12_isFit_100 rfl (by rw [kiconst_1]) rfl ?_
                  refine j_goto (tgt := 5) h dX12_isFit_103 (by decide) ?_
                  refine j_wk (ls' := [some (.ref (G.2.2 0)), some (.int x1), some (.int x2), some (.int (1 : Int32)), some (.int (x4 + (1 : Int32)))]) (And.intro rfl (And.intro rfl (And.intro rfl (And.intro rfl (And.intro rfl trivial))))) ?_
                  exact ih x1 x2 (1 : Int32) (x4 + (1 : Int32))
              · refine j_iconst (v := (1 : Int32)) h dX12_isFit_79 kiconst_1 ?_
                refine j_goto (tgt := 84) h dX12_isFit_80 (by decide) ?_
                refine j_aload_n h dX12_isFit_84 rfl ?_
                refine gM_68 h dX12_isFit_85 ?_
                refine j_iload h dX12_isFit_88 rfl ?_
                refine aM_43 h dX12_isFit_90 (fun v25 hv25 => ?_)
                refine j_icmp_ne (tgt := 98) h dX12_isFit_91 (by decide) (fun c26 => ?_) (fun c26 => ?_)
                · refine j_iconst (v := (0 : Int32)) h dX12_isFit_98 kiconst_0 ?_
                  refine j_istore_n h dX12_isFit_99 rfl rfl ?_
                  refine j_iinc (v := (x4 + (1 : Int32))) h dX12_isFit_100 rfl (by rw [kiconst_1]) rfl ?_
                  refine j_goto (tgt := 5) h dX12_isFit_103 (by decide) ?_
                  refine j_wk (ls' := [some (.ref (G.2.2 0)), some (.int x1), some (.int x2), some (.int (0 : Int32)), some (.int (x4 + (1 : Int32)))]) (And.intro rfl (And.intro rfl (And.intro rfl (And.intro rfl (And.intro rfl trivial))))) ?_
                  exact ih x1 x2 (0 : Int32) (x4 + (1 : Int32))
                · refine j_iconst (v := (1 : Int32)) h dX12_isFit_94 kiconst_1 ?_
                  refine j_goto (tgt := 99) h dX12_isFit_95 (by decide) ?_
                  refine j_istore_n h dX12_isFit_99 rfl rfl ?_
                  refine j_iinc (v := (x4 + (1 : Int32))) h dX12_isFit_100 rfl (by rw [kiconst_1]) rfl ?_
                  refine j_goto (tgt := 5) h dX12_isFit_103 (by decide) ?_
                  refine j_wk (ls' := [some (.ref (G.2.2 0)), some (.int x1), some (.int x2), some (.int (1 : Int32)), some (.int (x4 + (1 : Int32)))]) (And.intro rfl (And.intro rfl (And.intro rfl (And.intro rfl (And.intro rfl trivial))))) ?_
                  exact ih x1 x2 (1 : Int32) (x4 + (1 : Int32))
            · refine j_goto (tgt := 100) h dX12_isFit_50 (by decide) ?_
              refine j_iinc (v := (x4 + (1 : Int32))) h dX12_isFit_100 rfl (by rw [kiconst_1]) rfl ?_
              refine j_goto (tgt := 5) h dX12_isFit_103 (by decide) ?_
              refine j_wk (ls' := [some (.ref (G.2.2 0)), some (.int x1), some (.int x2), some (.int x3), some (.int (x4 + (1 : Int32)))]) (And.intro rfl (And.intro rfl (And.intro rfl (And.intro rfl (And.intro rfl trivial))))) ?_
              exact ih x1 x2 x3 (x4 + (1 : Int32))
set_option maxHeartbeats 4000000 in
set_option maxRecDepth 100000 in
theorem kX12_isFit (l : Launch) (G : Gt) (hD : ∀ m, va_D (inA G nM) (wM G m)) (m : Mem) (x1 : Int32) (x2 : Int32) : ∀ a, fX12_isFit m x1 x2 = some a → Ct l G wM nM yX12_isFit cX12_isFit 5 (some .boolean) 2 [.ref (G.2.2 0), .int x1, .int x2] m ((cvP m) a) := by
  refine ct_of (own := RX12) (ls0 := [some (.ref (G.2.2 0)), some (.int x1), some (.int x2), none, none]) (by decide) rfl rfl rfl (Nat.le_of_ble_eq_true rfl) hD (fun X h => ?_) l
  unfold fX12_isFit
  refine j_iconst (v := (1 : Int32)) h dX12_isFit_0 kiconst_1 ?_
  refine j_istore_n h dX12_isFit_1 rfl rfl ?_
  refine j_iconst (v := (0 : Int32)) h dX12_isFit_2 kiconst_0 ?_
  refine j_istore h dX12_isFit_3 rfl rfl ?_
  refine j_wk (ls' := [some (.ref (G.2.2 0)), some (.int x1), some (.int x2), some (.int (1 : Int32)), some (.int (0 : Int32))]) (And.intro rfl (And.intro rfl (And.intro rfl (And.intro rfl (And.intro rfl trivial))))) ?_
  exact (wX12_isFit h m 5000) x1 x2 (1 : Int32) (0 : Int32)
theorem dX12_layFits_0 : DD cX12_layFits 0 (.aload_n 0) 1 1 := ⟨by decide +kernel, rfl⟩
theorem dX12_layFits_1 : DD cX12_layFits 1 (.aload_n 0) 1 2 := ⟨by decide +kernel, rfl⟩
theorem dX12_layFits_2 : DD cX12_layFits 2 (.getfield 112) 3 5 := ⟨by decide +kernel, rfl⟩
theorem dX12_layFits_5 : DD cX12_layFits 5 (.bipush 36) 2 7 := ⟨by decide +kernel, rfl⟩
theorem dX12_layFits_7 : DD cX12_layFits 7 (.iaload) 1 8 := ⟨by decide +kernel, rfl⟩
theorem dX12_layFits_8 : DD cX12_layFits 8 (.invokevirtual 453) 3 11 := ⟨by decide +kernel, rfl⟩
theorem dX12_layFits_11 : DD cX12_layFits 11 (.iconst 0) 1 12 := ⟨by decide +kernel, rfl⟩
theorem dX12_layFits_12 : DD cX12_layFits 12 (.istore_n 3) 1 13 := ⟨by decide +kernel, rfl⟩
theorem dX12_layFits_13 : DD cX12_layFits 13 (.iload_n 3) 1 14 := ⟨by decide +kernel, rfl⟩
theorem dX12_layFits_14 : DD cX12_layFits 14 (.bipush 7) 2 16 := ⟨by decide +kernel, rfl⟩
theorem dX12_layFits_16 : DD cX12_layFits 16 (.if_icmp .ge 16) 3 19 := ⟨by decide +kernel, rfl⟩
theorem dX12_layFits_19 : DD cX12_layFits 19 (.aload_n 0) 1 20 := ⟨by decide +kernel, rfl⟩
theorem dX12_layFits_20 : DD cX12_layFits 20 (.getfield 145) 3 23 := ⟨by decide +kernel, rfl⟩
theorem dX12_layFits_23 : DD cX12_layFits 23 (.iload_n 3) 1 24 := ⟨by decide +kernel, rfl⟩
theorem dX12_layFits_24 : DD cX12_layFits 24 (.iconst 0) 1 25 := ⟨by decide +kernel, rfl⟩
theorem dX12_layFits_25 : DD cX12_layFits 25 (.iastore) 1 26 := ⟨by decide +kernel, rfl⟩
theorem dX12_layFits_26 : DD cX12_layFits 26 (.iinc 3 1) 3 29 := ⟨by decide +kernel, rfl⟩
theorem dX12_layFits_29 : DD cX12_layFits 29 (.goto (-16)) 3 32 := ⟨by decide +kernel, rfl⟩
theorem dX12_layFits_32 : DD cX12_layFits 32 (.iconst 0) 1 33 := ⟨by decide +kernel, rfl⟩
theorem dX12_layFits_33 : DD cX12_layFits 33 (.istore_n 3) 1 34 := ⟨by decide +kernel, rfl⟩
theorem dX12_layFits_34 : DD cX12_layFits 34 (.iload_n 3) 1 35 := ⟨by decide +kernel, rfl⟩
theorem dX12_layFits_35 : DD cX12_layFits 35 (.bipush 24) 2 37 := ⟨by decide +kernel, rfl⟩
theorem dX12_layFits_37 : DD cX12_layFits 37 (.if_icmp .ge 16) 3 40 := ⟨by decide +kernel, rfl⟩
theorem dX12_layFits_40 : DD cX12_layFits 40 (.aload_n 0) 1 41 := ⟨by decide +kernel, rfl⟩
theorem dX12_layFits_41 : DD cX12_layFits 41 (.getfield 148) 3 44 := ⟨by decide +kernel, rfl⟩
theorem dX12_layFits_44 : DD cX12_layFits 44 (.iload_n 3) 1 45 := ⟨by decide +kernel, rfl⟩
theorem dX12_layFits_45 : DD cX12_layFits 45 (.iconst 0) 1 46 := ⟨by decide +kernel, rfl⟩
theorem dX12_layFits_46 : DD cX12_layFits 46 (.iastore) 1 47 := ⟨by decide +kernel, rfl⟩
theorem dX12_layFits_47 : DD cX12_layFits 47 (.iinc 3 1) 3 50 := ⟨by decide +kernel, rfl⟩
theorem dX12_layFits_50 : DD cX12_layFits 50 (.goto (-16)) 3 53 := ⟨by decide +kernel, rfl⟩
theorem dX12_layFits_53 : DD cX12_layFits 53 (.iconst 0) 1 54 := ⟨by decide +kernel, rfl⟩
theorem dX12_layFits_54 : DD cX12_layFits 54 (.istore_n 3) 1 55 := ⟨by decide +kernel, rfl⟩
theorem dX12_layFits_55 : DD cX12_layFits 55 (.iconst 0) 1 56 := ⟨by decide +kernel, rfl⟩
theorem dX12_layFits_56 : DD cX12_layFits 56 (.istore 4) 2 58 := ⟨by decide +kernel, rfl⟩
theorem dX12_layFits_58 : DD cX12_layFits 58 (.iload 4) 2 60 := ⟨by decide +kernel, rfl⟩
theorem dX12_layFits_60 : DD cX12_layFits 60 (.iconst 1) 1 61 := ⟨by decide +kernel, rfl⟩
theorem dX12_layFits_61 : DD cX12_layFits 61 (.aload_n 0) 1 62 := ⟨by decide +kernel, rfl⟩
theorem dX12_layFits_62 : DD cX12_layFits 62 (.getfield 378) 3 65 := ⟨by decide +kernel, rfl⟩
theorem dX12_layFits_65 : DD cX12_layFits 65 (.ishl) 1 66 := ⟨by decide +kernel, rfl⟩
theorem dX12_layFits_66 : DD cX12_layFits 66 (.if_icmp .ge 98) 3 69 := ⟨by decide +kernel, rfl⟩
theorem dX12_layFits_69 : DD cX12_layFits 69 (.aload_n 0) 1 70 := ⟨by decide +kernel, rfl⟩
theorem dX12_layFits_70 : DD cX12_layFits 70 (.iload 4) 2 72 := ⟨by decide +kernel, rfl⟩
theorem dX12_layFits_72 : DD cX12_layFits 72 (.iload_n 2) 1 73 := ⟨by decide +kernel, rfl⟩
theorem dX12_layFits_73 : DD cX12_layFits 73 (.invokevirtual 528) 3 76 := ⟨by decide +kernel, rfl⟩
theorem dX12_layFits_76 : DD cX12_layFits 76 (.ifCond .ne 6) 3 79 := ⟨by decide +kernel, rfl⟩
theorem dX12_layFits_79 : DD cX12_layFits 79 (.goto 79) 3 82 := ⟨by decide +kernel, rfl⟩
theorem dX12_layFits_82 : DD cX12_layFits 82 (.iinc 3 1) 3 85 := ⟨by decide +kernel, rfl⟩
theorem dX12_layFits_85 : DD cX12_layFits 85 (.iconst 0) 1 86 := ⟨by decide +kernel, rfl⟩
theorem dX12_layFits_86 : DD cX12_layFits 86 (.istore 5) 2 88 := ⟨by decide +kernel, rfl⟩
theorem dX12_layFits_88 : DD cX12_layFits 88 (.iload 5) 2 90 := ⟨by decide +kernel, rfl⟩
theorem dX12_layFits_90 : DD cX12_layFits 90 (.aload_n 0) 1 91 := ⟨by decide +kernel, rfl⟩
theorem dX12_layFits_91 : DD cX12_layFits 91 (.getfield 378) 3 94 := ⟨by decide +kernel, rfl⟩
theorem dX12_layFits_94 : DD cX12_layFits 94 (.if_icmp .ge 26) 3 97 := ⟨by decide +kernel, rfl⟩
theorem dX12_layFits_97 : DD cX12_layFits 97 (.aload_n 0) 1 98 := ⟨by decide +kernel, rfl⟩
theorem dX12_layFits_98 : DD cX12_layFits 98 (.getfield 145) 3 101 := ⟨by decide +kernel, rfl⟩
theorem dX12_layFits_101 : DD cX12_layFits 101 (.iload 5) 2 103 := ⟨by decide +kernel, rfl⟩
theorem dX12_layFits_103 : DD cX12_layFits 103 (.dup2) 1 104 := ⟨by decide +kernel, rfl⟩
theorem dX12_layFits_104 : DD cX12_layFits 104 (.iaload) 1 105 := ⟨by decide +kernel, rfl⟩
theorem dX12_layFits_105 : DD cX12_layFits 105 (.iload 4) 2 107 := ⟨by decide +kernel, rfl⟩
theorem dX12_layFits_107 : DD cX12_layFits 107 (.iload 5) 2 109 := ⟨by decide +kernel, rfl⟩
theorem dX12_layFits_109 : DD cX12_layFits 109 (.ishr) 1 110 := ⟨by decide +kernel, rfl⟩
theorem dX12_layFits_110 : DD cX12_layFits 110 (.iconst 1) 1 111 := ⟨by decide +kernel, rfl⟩
theorem dX12_layFits_111 : DD cX12_layFits 111 (.iand) 1 112 := ⟨by decide +kernel, rfl⟩
theorem dX12_layFits_112 : DD cX12_layFits 112 (.iadd) 1 113 := ⟨by decide +kernel, rfl⟩
theorem dX12_layFits_113 : DD cX12_layFits 113 (.iastore) 1 114 := ⟨by decide +kernel, rfl⟩
theorem dX12_layFits_114 : DD cX12_layFits 114 (.iinc 5 1) 3 117 := ⟨by decide +kernel, rfl⟩
theorem dX12_layFits_117 : DD cX12_layFits 117 (.goto (-29)) 3 120 := ⟨by decide +kernel, rfl⟩
theorem dX12_layFits_120 : DD cX12_layFits 120 (.iconst 0) 1 121 := ⟨by decide +kernel, rfl⟩
theorem dX12_layFits_121 : DD cX12_layFits 121 (.istore 5) 2 123 := ⟨by decide +kernel, rfl⟩
theorem dX12_layFits_123 : DD cX12_layFits 123 (.iload 5) 2 125 := ⟨by decide +kernel, rfl⟩
theorem dX12_layFits_125 : DD cX12_layFits 125 (.bipush 24) 2 127 := ⟨by decide +kernel, rfl⟩
theorem dX12_layFits_127 : DD cX12_layFits 127 (.if_icmp .ge 31) 3 130 := ⟨by decide +kernel, rfl⟩
theorem dX12_layFits_130 : DD cX12_layFits 130 (.aload_n 0) 1 131 := ⟨by decide +kernel, rfl⟩
theorem dX12_layFits_131 : DD cX12_layFits 131 (.getfield 148) 3 134 := ⟨by decide +kernel, rfl⟩
theorem dX12_layFits_134 : DD cX12_layFits 134 (.iload 5) 2 136 := ⟨by decide +kernel, rfl⟩
theorem dX12_layFits_136 : DD cX12_layFits 136 (.dup2) 1 137 := ⟨by decide +kernel, rfl⟩
theorem dX12_layFits_137 : DD cX12_layFits 137 (.iaload) 1 138 := ⟨by decide +kernel, rfl⟩
theorem dX12_layFits_138 : DD cX12_layFits 138 (.aload_n 0) 1 139 := ⟨by decide +kernel, rfl⟩
theorem dX12_layFits_139 : DD cX12_layFits 139 (.iload_n 1) 1 140 := ⟨by decide +kernel, rfl⟩
theorem dX12_layFits_140 : DD cX12_layFits 140 (.iload 4) 2 142 := ⟨by decide +kernel, rfl⟩
theorem dX12_layFits_142 : DD cX12_layFits 142 (.invokevirtual 525) 3 145 := ⟨by decide +kernel, rfl⟩
theorem dX12_layFits_145 : DD cX12_layFits 145 (.iload 5) 2 147 := ⟨by decide +kernel, rfl⟩
theorem dX12_layFits_147 : DD cX12_layFits 147 (.ishr) 1 148 := ⟨by decide +kernel, rfl⟩
theorem dX12_layFits_148 : DD cX12_layFits 148 (.iconst 1) 1 149 := ⟨by decide +kernel, rfl⟩
theorem dX12_layFits_149 : DD cX12_layFits 149 (.iand) 1 150 := ⟨by decide +kernel, rfl⟩
theorem dX12_layFits_150 : DD cX12_layFits 150 (.iadd) 1 151 := ⟨by decide +kernel, rfl⟩
theorem dX12_layFits_151 : DD cX12_layFits 151 (.iastore) 1 152 := ⟨by decide +kernel, rfl⟩
theorem dX12_layFits_152 : DD cX12_layFits 152 (.iinc 5 1) 3 155 := ⟨by decide +kernel, rfl⟩
theorem dX12_layFits_155 : DD cX12_layFits 155 (.goto (-32)) 3 158 := ⟨by decide +kernel, rfl⟩
theorem dX12_layFits_158 : DD cX12_layFits 158 (.iinc 4 1) 3 161 := ⟨by decide +kernel, rfl⟩
theorem dX12_layFits_161 : DD cX12_layFits 161 (.goto (-103)) 3 164 := ⟨by decide +kernel, rfl⟩
theorem dX12_layFits_164 : DD cX12_layFits 164 (.iload_n 3) 1 165 := ⟨by decide +kernel, rfl⟩
theorem dX12_layFits_165 : DD cX12_layFits 165 (.ireturn) 1 166 := ⟨by decide +kernel, rfl⟩
def gX12_layFits : Nat → Nat → Int32 → Int32 → Int32 → Int32 → Int32 → Mem → Option (Int32 × Mem)
  | 0, _, _, _, _, _, _, _ => none
  | f + 1, 0, x1, x2, x3, x4, x5, m => (if (7 : Int32) ≤ x3 then (gX12_layFits f 1 x1 x2 (0 : Int32) 0 0 m) else (wr m 44 7 x3 (0 : Int32) fun m2 => (gX12_layFits f 0 x1 x2 (x3 + (1 : Int32)) 0 0 m2)))
  | f + 1, 1, x1, x2, x3, x4, x5, m => (if (24 : Int32) ≤ x3 then (gX12_layFits f 2 x1 x2 (0 : Int32) (0 : Int32) 0 m) else (wr m 45 24 x3 (0 : Int32) fun m2 => (gX12_layFits f 1 x1 x2 (x3 + (1 : Int32)) 0 0 m2)))
  | f + 1, 2, x1, x2, x3, x4, x5, m => (if ((1 : Int32) <<< ((m.1 0 51) &&& 31)) ≤ x4 then (some (x3, m)) else (cP (fX12_isFit m x4 x2) fun r2 => (if r2 = 0 then (gX12_layFits f 2 x1 x2 x3 (x4 + (1 : Int32)) 0 m) else (gX12_layFits f 3 x1 x2 (x3 + (1 : Int32)) x4 (0 : Int32) m))))
  | f + 1, 3, x1, x2, x3, x4, x5, m => (if (m.1 0 51) ≤ x5 then (gX12_layFits f 4 x1 x2 x3 x4 (0 : Int32) m) else (rd (m.1 44) 7 x5 fun v2 => (wr m 44 7 x5 (v2 + ((x4 >>> (x5 &&& 31)) &&& (1 : Int32))) fun m3 => (gX12_layFits f 3 x1 x2 x3 x4 (x5 + (1 : Int32)) m3))))
  | f + 1, 4, x1, x2, x3, x4, x5, m => (if (24 : Int32) ≤ x5 then (gX12_layFits f 2 x1 x2 x3 (x4 + (1 : Int32)) 0 m) else (rd (m.1 45) 24 x5 fun v2 => (cP (fX12_lightsAt m x1 x4) fun r3 => (wr m 45 24 x5 (v2 + ((r3 >>> (x5 &&& 31)) &&& (1 : Int32))) fun m5 => (gX12_layFits f 4 x1 x2 x3 x4 (x5 + (1 : Int32)) m5)))))
  | _ + 1, _ + 5, _, _, _, _, _, _ => none
def fX12_layFits (m : Mem) (x1 : Int32) (x2 : Int32) : Option (Int32 × Mem) := (rd (m.1 33) 37 (36 : Int32) fun v1 => (cV (fX12_loadDate m v1) fun m3 => (gX12_layFits 5000 0 x1 x2 (0 : Int32) 0 0 m3)))
set_option maxHeartbeats 4000000 in
set_option maxRecDepth 100000 in
theorem wX12_layFits {X : Cx} {G : Gt} (h : OkX (X, G, wM, nM) cX12_layFits RX12 6 (some .int) 7) : ∀ f : Nat, (∀ (x1 : Int32) (x2 : Int32) (x3 : Int32) (x4 : Int32) (x5 : Int32) (m : Mem), JR (X, G, wM, nM) cvI m 13 [some (.ref (G.2.2 0)), some (.int x1), some (.int x2), some (.int x3), none, none] [] (gX12_layFits f 0 x1 x2 x3 x4 x5 m)) ∧ (∀ (x1 : Int32) (x2 : Int32) (x3 : Int32) (x4 : Int32) (x5 : Int32) (m : Mem), JR (X, G, wM, nM) cvI m 34 [some (.ref (G.2.2 0)), some (.int x1), some (.int x2), some (.int x3), none, none] [] (gX12_layFits f 1 x1 x2 x3 x4 x5 m)) ∧ (∀ (x1 : Int32) (x2 : Int32) (x3 : Int32) (x4 : Int32) (x5 : Int32) (m : Mem), JR (X, G, wM, nM) cvI m 58 [some (.ref (G.2.2 0)), some (.int x1), some (.int x2), some (.int x3), some (.int x4), none] [] (gX12_layFits f 2 x1 x2 x3 x4 x5 m)) ∧ (∀ (x1 : Int32) (x2 : Int32) (x3 : Int32) (x4 : Int32) (x5 : Int32) (m : Mem), JR (X, G, wM, nM) cvI m 88 [some (.ref (G.2.2 0)), some (.int x1), some (.int x2), some (.int x3), some (.int x4), some (.int x5)] [] (gX12_layFits f 3 x1 x2 x3 x4 x5 m)) ∧ (∀ (x1 : Int32) (x2 : Int32) (x3 : Int32) (x4 : Int32) (x5 : Int32) (m : Mem), JR (X, G, wM, nM) cvI m 123 [some (.ref (G.2.2 0)), some (.int x1), some (.int x2), some (.int x3), some (.int x4), some (.int x5)] [] (gX12_layFits f 4 x1 x2 x3 x4 x5 m)) := by
  intro f
  induction f with
  | zero => exact ⟨(fun _ _ _ _ _ _ => j_none), (fun _ _ _ _ _ _ => j_none), (fun _ _ _ _ _ _ => j_none), (fun _ _ _ _ _ _ => j_none), (fun _ _ _ _ _ _ => j_none)⟩
  | succ f ih =>
    refine ⟨?_, ?_, ?_, ?_, ?_⟩
    · intro x1 x2 x3 x4 x5 m
      rw [gX12_layFits]
      refine j_iload_n h dX12_layFits_13 rfl ?_
      refine j_bipush (v := (7 : Int32)) h dX12_layFits_14 kbipush_7 ?_
      refine j_icmp_ge (tgt := 32) h dX12_layFits_16 (by decide) (fun c1 => ?_) (fun c1 => ?_)
      · refine j_iconst (v := (0 : Int32)) h dX12_layFits_32 kiconst_0 ?_
        refine j_istore_n h dX12_layFits_33 rfl rfl ?_
        refine j_wk (ls' := [some (.ref (G.2.2 0)), some (.int x1), some (.int x2), some (.int (0 : Int32)), none, none]) (And.intro rfl (And.intro rfl (And.intro rfl (And.intro rfl trivial)))) ?_
        exact ih.2.1 x1 x2 (0 : Int32) 0 0 m
      · refine j_aload_n h dX12_layFits_19 rfl ?_
        refine gM_71 h dX12_layFits_20 ?_
        refine j_iload_n h dX12_layFits_23 rfl ?_
        refine j_iconst (v := (0 : Int32)) h dX12_layFits_24 kiconst_0 ?_
        refine bM_44 h dX12_layFits_25 (fun m2 hm2 => ?_)
        refine j_iinc (v := (x3 + (1 : Int32))) h dX12_layFits_26 rfl (by rw [kiconst_1]) rfl ?_
        refine j_goto (tgt := 13) h dX12_layFits_29 (by decide) ?_
        refine j_wk (ls' := [some (.ref (G.2.2 0)), some (.int x1), some (.int x2), some (.int (x3 + (1 : Int32))), none, none]) (And.intro rfl (And.intro rfl (And.intro rfl (And.intro rfl trivial)))) ?_
        exact ih.1 x1 x2 (x3 + (1 : Int32)) 0 0 m2
    · intro x1 x2 x3 x4 x5 m
      rw [gX12_layFits]
      refine j_iload_n h dX12_layFits_34 rfl ?_
      refine j_bipush (v := (24 : Int32)) h dX12_layFits_35 kbipush_24 ?_
      refine j_icmp_ge (tgt := 53) h dX12_layFits_37 (by decide) (fun c1 => ?_) (fun c1 => ?_)
      · refine j_iconst (v := (0 : Int32)) h dX12_layFits_53 kiconst_0 ?_
        refine j_istore_n h dX12_layFits_54 rfl rfl ?_
        refine j_iconst (v := (0 : Int32)) h dX12_layFits_55 kiconst_0 ?_
        refine j_istore h dX12_layFits_56 rfl rfl ?_
        refine j_wk (ls' := [some (.ref (G.2.2 0)), some (.int x1), some (.int x2), some (.int (0 : Int32)), some (.int (0 : Int32)), none]) (And.intro rfl (And.intro rfl (And.intro rfl (And.intro rfl (And.intro rfl trivial))))) ?_
        exact ih.2.2.1 x1 x2 (0 : Int32) (0 : Int32) 0 m
      · refine j_aload_n h dX12_layFits_40 rfl ?_
        refine gM_72 h dX12_layFits_41 ?_
        refine j_iload_n h dX12_layFits_44 rfl ?_
        refine j_iconst (v := (0 : Int32)) h dX12_layFits_45 kiconst_0 ?_
        refine bM_45 h dX12_layFits_46 (fun m2 hm2 => ?_)
        refine j_iinc (v := (x3 + (1 : Int32))) h dX12_layFits_47 rfl (by rw [kiconst_1]) rfl ?_
        refine j_goto (tgt := 34) h dX12_layFits_50 (by decide) ?_
        refine j_wk (ls' := [some (.ref (G.2.2 0)), some (.int x1), some (.int x2), some (.int (x3 + (1 : Int32))), none, none]) (And.intro rfl (And.intro rfl (And.intro rfl (And.intro rfl trivial)))) ?_
        exact ih.2.1 x1 x2 (x3 + (1 : Int32)) 0 0 m2
    · intro x1 x2 x3 x4 x5 m
      rw [gX12_layFits]
      refine j_iload h dX12_layFits_58 rfl ?_
      refine j_iconst (v := (1 : Int32)) h dX12_layFits_60 kiconst_1 ?_
      refine j_aload_n h dX12_layFits_61 rfl ?_
      refine gM_51 h dX12_layFits_62 ?_
      refine j_ishl h dX12_layFits_65 ?_
      refine j_icmp_ge (tgt := 164) h dX12_layFits_66 (by decide) (fun c1 => ?_) (fun c1 => ?_)
      · refine j_iload_n h dX12_layFits_164 rfl ?_
        exact j_iret h rfl dX12_layFits_165
      · refine j_aload_n h dX12_layFits_69 rfl ?_
        refine j_iload h dX12_layFits_70 rfl ?_
        refine j_iload_n h dX12_layFits_72 rfl ?_
        refine j_callVP (q0 := 0) (ci := 12) h [.int x4, .int x2] (kX12_isFit _ G h.2.2.2.2.2.2.2.2.2.2 m x4 x2) okX12_isFit inX12_isFit ml12_528 rfl rfl rfl rfl (by decide) (by decide) (Nat.le_of_ble_eq_true rfl) rfl dX12_layFits_73 (fun r2 hr2 => ?_)
        refine j_if_ne (tgt := 82) h dX12_layFits_76 (by decide) (fun c4 => ?_) (fun c4 => ?_)
        · refine j_iinc (v := (x3 + (1 : Int32))) h dX12_layFits_82 rfl (by rw [kiconst_1]) rfl ?_
          refine j_iconst (v := (0 : Int32)) h dX12_layFits_85 kiconst_0 ?_
          refine j_istore h dX12_layFits_86 rfl rfl ?_
          refine j_wk (ls' := [some (.ref (G.2.2 0)), some (.int x1), some (.int x2), some (.int (x3 + (1 : Int32))), some (.int x4), some (.int (0 : Int32))]) (And.intro rfl (And.intro rfl (And.intro rfl (And.intro rfl (And.intro rfl (And.intro rfl trivial)))))) ?_
          exact ih.2.2.2.1 x1 x2 (x3 + (1 : Int32)) x4 (0 : Int32) m
        · refine j_goto (tgt := 158) h dX12_layFits_79 (by decide) ?_
          refine j_iinc (v := (x4 + (1 : Int32))) h dX12_layFits_158 rfl (by rw [kiconst_1]) rfl ?_
          refine j_goto (tgt := 58) h dX12_layFits_161 (by decide) ?_
          refine j_wk (ls' := [some (.ref (G.2.2 0)), some (.int x1), some (.int x2), some (.int x3), some (.int (x4 + (1 : Int32))), none]) (And.intro rfl (And.intro rfl (And.intro rfl (And.intro rfl (And.intro rfl trivial))))) ?_
          exact ih.2.2.1 x1 x2 x3 (x4 + (1 : Int32)) 0 m
    · intro x1 x2 x3 x4 x5 m
      rw [gX12_layFits]
      refine j_iload h dX12_layFits_88 rfl ?_
      refine j_aload_n h dX12_layFits_90 rfl ?_
      refine gM_51 h dX12_layFits_91 ?_
      refine j_icmp_ge (tgt := 120) h dX12_layFits_94 (by decide) (fun c1 => ?_) (fun c1 => ?_)
      · refine j_iconst (v := (0 : Int32)) h dX12_layFits_120 kiconst_0 ?_
        refine j_istore h dX12_layFits_121 rfl rfl ?_
        refine j_wk (ls' := [some (.ref (G.2.2 0)), some (.int x1), some (.int x2), some (.int x3), some (.int x4), some (.int (0 : Int32))]) (And.intro rfl (And.intro rfl (And.intro rfl (And.intro rfl (And.intro rfl (And.intro rfl trivial)))))) ?_
        exact ih.2.2.2.2 x1 x2 x3 x4 (0 : Int32) m
      · refine j_aload_n h dX12_layFits_97 rfl ?_
        refine gM_71 h dX12_layFits_98 ?_
        refine j_iload h dX12_layFits_101 rfl ?_
        refine j_dup2 h dX12_layFits_103 rfl rfl ?_
        refine aM_44 h dX12_layFits_104 (fun v2 hv2 => ?_)
        refine j_iload h dX12_layFits_105 rfl ?_
        refine j_iload h dX12_layFits_107 rfl ?_
        refine j_ishr h dX12_layFits_109 ?_
        refine j_iconst (v := (1 : Int32)) h dX12_layFits_110 kiconst_1 ?_
        refine j_iand h dX12_layFits_111 ?_
        refine j_iadd h dX12_layFits_112 ?_
        refine bM_44 h dX12_layFits_113 (fun m3 hm3 => ?_)
        refine j_iinc (v := (x5 + (1 : Int32))) h dX12_layFits_114 rfl (by rw [kiconst_1]) rfl ?_
        refine j_goto (tgt := 88) h dX12_layFits_117 (by decide) ?_
        refine j_wk (ls' := [some (.ref (G.2.2 0)), some (.int x1), some (.int x2), some (.int x3), some (.int x4), some (.int (x5 + (1 : Int32)))]) (And.intro rfl (And.intro rfl (And.intro rfl (And.intro rfl (And.intro rfl (And.intro rfl trivial)))))) ?_
        exact ih.2.2.2.1 x1 x2 x3 x4 (x5 + (1 : Int32)) m3
    · intro x1 x2 x3 x4 x5 m
      rw [gX12_layFits]
      refine j_iload h dX12_layFits_123 rfl ?_
      refine j_bipush (v := (24 : Int32)) h dX12_layFits_125 kbipush_24 ?_
      refine j_icmp_ge (tgt := 158) h dX12_layFits_127 (by decide) (fun c1 => ?_) (fun c1 => ?_)
      · refine j_iinc (v := (x4 + (1 : Int32))) h dX12_layFits_158 rfl (by rw [kiconst_1]) rfl ?_
        refine j_goto (tgt := 58) h dX12_layFits_161 (by decide) ?_
        refine j_wk (ls' := [some (.ref (G.2.2 0)), some (.int x1), some (.int x2), some (.int x3), some (.int (x4 + (1 : Int32))), none]) (And.intro rfl (And.intro rfl (And.intro rfl (And.intro rfl (And.intro rfl trivial))))) ?_
        exact ih.2.2.1 x1 x2 x3 (x4 + (1 : Int32)) 0 m
      · refine j_aload_n h dX12_layFits_130 rfl ?_
        refine gM_72 h dX12_layFits_131 ?_
        refine j_iload h dX12_layFits_134 rfl ?_
        refine j_dup2 h dX12_layFits_136 rfl rfl ?_
        refine aM_45 h dX12_layFits_137 (fun v2 hv2 => ?_)
        refine j_aload_n h dX12_layFits_138 rfl ?_
        refine j_iload_n h dX12_layFits_139 rfl ?_
        refine j_iload h dX12_layFits_140 rfl ?_
        refine j_callVP (q0 := 0) (ci := 12) h [.int x1, .int x4] (kX12_lightsAt _ G h.2.2.2.2.2.2.2.2.2.2 m x1 x4) okX12_lightsAt inX12_lightsAt ml12_525 rfl rfl rfl rfl (by decide) (by decide) (Nat.le_of_ble_eq_true rfl) rfl dX12_layFits_142 (fun r3 hr3 => ?_)
        refine j_iload h dX12_layFits_145 rfl ?_
        refine j_ishr h dX12_layFits_147 ?_
        refine j_iconst (v := (1 : Int32)) h dX12_layFits_148 kiconst_1 ?_
        refine j_iand h dX12_layFits_149 ?_
        refine j_iadd h dX12_layFits_150 ?_
        refine bM_45 h dX12_layFits_151 (fun m5 hm5 => ?_)
        refine j_iinc (v := (x5 + (1 : Int32))) h dX12_layFits_152 rfl (by rw [kiconst_1]) rfl ?_
        refine j_goto (tgt := 123) h dX12_layFits_155 (by decide) ?_
        refine j_wk (ls' := [some (.ref (G.2.2 0)), some (.int x1), some (.int x2), some (.int x3), some (.int x4), some (.int (x5 + (1 : Int32)))]) (And.intro rfl (And.intro rfl (And.intro rfl (And.intro rfl (And.intro rfl (And.intro rfl trivial)))))) ?_
        exact ih.2.2.2.2 x1 x2 x3 x4 (x5 + (1 : Int32)) m5
set_option maxHeartbeats 4000000 in
set_option maxRecDepth 100000 in
theorem kX12_layFits (l : Launch) (G : Gt) (hD : ∀ m, va_D (inA G nM) (wM G m)) (m : Mem) (x1 : Int32) (x2 : Int32) : ∀ a, fX12_layFits m x1 x2 = some a → Ct l G wM nM yX12_layFits cX12_layFits 6 (some .int) 7 [.ref (G.2.2 0), .int x1, .int x2] m (cvI a) := by
  refine ct_of (own := RX12) (ls0 := [some (.ref (G.2.2 0)), some (.int x1), some (.int x2), none, none, none]) (by decide) rfl rfl rfl (Nat.le_of_ble_eq_true rfl) hD (fun X h => ?_) l
  unfold fX12_layFits
  refine j_aload_n h dX12_layFits_0 rfl ?_
  refine j_aload_n h dX12_layFits_1 rfl ?_
  refine gM_55 h dX12_layFits_2 ?_
  refine j_bipush (v := (36 : Int32)) h dX12_layFits_5 kbipush_36 ?_
  refine aM_33 h dX12_layFits_7 (fun v1 hv1 => ?_)
  refine j_callVV (q0 := 0) (ci := 12) h [.int v1] (kX12_loadDate _ G h.2.2.2.2.2.2.2.2.2.2 m v1) okX12_loadDate inX12_loadDate ml12_453 rfl rfl rfl rfl (by decide) (by decide) (Nat.le_of_ble_eq_true rfl) rfl dX12_layFits_8 (fun m3 hm3 => ?_)
  refine j_iconst (v := (0 : Int32)) h dX12_layFits_11 kiconst_0 ?_
  refine j_istore_n h dX12_layFits_12 rfl rfl ?_
  refine j_wk (ls' := [some (.ref (G.2.2 0)), some (.int x1), some (.int x2), some (.int (0 : Int32)), none, none]) (And.intro rfl (And.intro rfl (And.intro rfl (And.intro rfl trivial)))) ?_
  exact (wX12_layFits h 5000).1 x1 x2 (0 : Int32) 0 0 m3
theorem dX12_fits_0 : DD cX12_fits 0 (.aload_n 0) 1 1 := ⟨by decide +kernel, rfl⟩
theorem dX12_fits_1 : DD cX12_fits 1 (.iconst 0) 1 2 := ⟨by decide +kernel, rfl⟩
theorem dX12_fits_2 : DD cX12_fits 2 (.iload_n 1) 1 3 := ⟨by decide +kernel, rfl⟩
theorem dX12_fits_3 : DD cX12_fits 3 (.invokevirtual 531) 3 6 := ⟨by decide +kernel, rfl⟩
theorem dX12_fits_6 : DD cX12_fits 6 (.ireturn) 1 7 := ⟨by decide +kernel, rfl⟩
def fX12_fits (m : Mem) (x1 : Int32) : Option (Int32 × Mem) := (cI (fX12_layFits m (0 : Int32) x1) fun r1 m2 => (some (r1, m2)))
set_option maxHeartbeats 4000000 in
set_option maxRecDepth 100000 in
theorem kX12_fits (l : Launch) (G : Gt) (hD : ∀ m, va_D (inA G nM) (wM G m)) (m : Mem) (x1 : Int32) : ∀ a, fX12_fits m x1 = some a → Ct l G wM nM yX12_fits cX12_fits 2 (some .int) 8 [.ref (G.2.2 0), .int x1] m (cvI a) := by
  refine ct_of (own := RX12) (ls0 := [some (.ref (G.2.2 0)), some (.int x1)]) (by decide) rfl rfl rfl (Nat.le_of_ble_eq_true rfl) hD (fun X h => ?_) l
  unfold fX12_fits
  refine j_aload_n h dX12_fits_0 rfl ?_
  refine j_iconst (v := (0 : Int32)) h dX12_fits_1 kiconst_0 ?_
  refine j_iload_n h dX12_fits_2 rfl ?_
  refine j_callVI (q0 := 0) (ci := 12) h [.int (0 : Int32), .int x1] (kX12_layFits _ G h.2.2.2.2.2.2.2.2.2.2 m (0 : Int32) x1) okX12_layFits inX12_layFits ml12_531 rfl rfl rfl rfl (by decide) (by decide) (Nat.le_of_ble_eq_true rfl) rfl dX12_fits_3 (fun r1 m2 hr1 => ?_)
  exact j_iret h rfl dX12_fits_6
theorem dX12_sure_0 : DD cX12_sure 0 (.aload_n 0) 1 1 := ⟨by decide +kernel, rfl⟩
theorem dX12_sure_1 : DD cX12_sure 1 (.iload_n 1) 1 2 := ⟨by decide +kernel, rfl⟩
theorem dX12_sure_2 : DD cX12_sure 2 (.invokevirtual 450) 3 5 := ⟨by decide +kernel, rfl⟩
theorem dX12_sure_5 : DD cX12_sure 5 (.ifCond .ne 5) 3 8 := ⟨by decide +kernel, rfl⟩
theorem dX12_sure_8 : DD cX12_sure 8 (.iconst (-1)) 1 9 := ⟨by decide +kernel, rfl⟩
theorem dX12_sure_9 : DD cX12_sure 9 (.ireturn) 1 10 := ⟨by decide +kernel, rfl⟩
theorem dX12_sure_10 : DD cX12_sure 10 (.aload_n 0) 1 11 := ⟨by decide +kernel, rfl⟩
theorem dX12_sure_11 : DD cX12_sure 11 (.iconst 0) 1 12 := ⟨by decide +kernel, rfl⟩
theorem dX12_sure_12 : DD cX12_sure 12 (.iload_n 2) 1 13 := ⟨by decide +kernel, rfl⟩
theorem dX12_sure_13 : DD cX12_sure 13 (.invokevirtual 531) 3 16 := ⟨by decide +kernel, rfl⟩
theorem dX12_sure_16 : DD cX12_sure 16 (.istore_n 3) 1 17 := ⟨by decide +kernel, rfl⟩
theorem dX12_sure_17 : DD cX12_sure 17 (.iload_n 3) 1 18 := ⟨by decide +kernel, rfl⟩
theorem dX12_sure_18 : DD cX12_sure 18 (.ifCond .ne 7) 3 21 := ⟨by decide +kernel, rfl⟩
theorem dX12_sure_21 : DD cX12_sure 21 (.iconst (-1)) 1 22 := ⟨by decide +kernel, rfl⟩
theorem dX12_sure_22 : DD cX12_sure 22 (.goto 32) 3 25 := ⟨by decide +kernel, rfl⟩
theorem dX12_sure_25 : DD cX12_sure 25 (.aload_n 0) 1 26 := ⟨by decide +kernel, rfl⟩
theorem dX12_sure_26 : DD cX12_sure 26 (.getfield 145) 3 29 := ⟨by decide +kernel, rfl⟩
theorem dX12_sure_29 : DD cX12_sure 29 (.iload_n 1) 1 30 := ⟨by decide +kernel, rfl⟩
theorem dX12_sure_30 : DD cX12_sure 30 (.iaload) 1 31 := ⟨by decide +kernel, rfl⟩
theorem dX12_sure_31 : DD cX12_sure 31 (.iload_n 3) 1 32 := ⟨by decide +kernel, rfl⟩
theorem dX12_sure_32 : DD cX12_sure 32 (.if_icmp .ne 7) 3 35 := ⟨by decide +kernel, rfl⟩
theorem dX12_sure_35 : DD cX12_sure 35 (.iconst 1) 1 36 := ⟨by decide +kernel, rfl⟩
theorem dX12_sure_36 : DD cX12_sure 36 (.goto 18) 3 39 := ⟨by decide +kernel, rfl⟩
theorem dX12_sure_39 : DD cX12_sure 39 (.aload_n 0) 1 40 := ⟨by decide +kernel, rfl⟩
theorem dX12_sure_40 : DD cX12_sure 40 (.getfield 145) 3 43 := ⟨by decide +kernel, rfl⟩
theorem dX12_sure_43 : DD cX12_sure 43 (.iload_n 1) 1 44 := ⟨by decide +kernel, rfl⟩
theorem dX12_sure_44 : DD cX12_sure 44 (.iaload) 1 45 := ⟨by decide +kernel, rfl⟩
theorem dX12_sure_45 : DD cX12_sure 45 (.ifCond .ne 7) 3 48 := ⟨by decide +kernel, rfl⟩
theorem dX12_sure_48 : DD cX12_sure 48 (.iconst 0) 1 49 := ⟨by decide +kernel, rfl⟩
theorem dX12_sure_49 : DD cX12_sure 49 (.goto 5) 3 52 := ⟨by decide +kernel, rfl⟩
theorem dX12_sure_52 : DD cX12_sure 52 (.bipush (-2)) 2 54 := ⟨by decide +kernel, rfl⟩
theorem dX12_sure_54 : DD cX12_sure 54 (.ireturn) 1 55 := ⟨by decide +kernel, rfl⟩
def fX12_sure (m : Mem) (x1 : Int32) (x2 : Int32) : Option (Int32 × Mem) := (cP (fX12_isPerson m x1) fun r1 => (if r1 = 0 then (some ((-1 : Int32), m)) else (cI (fX12_layFits m (0 : Int32) x2) fun r4 m5 => (if r4 = 0 then (some ((-1 : Int32), m5)) else (rd (m5.1 44) 7 x1 fun v7 => (if v7 = r4 then (some ((1 : Int32), m5)) else (rd (m5.1 44) 7 x1 fun v9 => (if v9 = 0 then (some ((0 : Int32), m5)) else (some ((-2 : Int32), m5))))))))))
set_option maxHeartbeats 4000000 in
set_option maxRecDepth 100000 in
theorem kX12_sure (l : Launch) (G : Gt) (hD : ∀ m, va_D (inA G nM) (wM G m)) (m : Mem) (x1 : Int32) (x2 : Int32) : ∀ a, fX12_sure m x1 x2 = some a → Ct l G wM nM yX12_sure cX12_sure 4 (some .int) 8 [.ref (G.2.2 0), .int x1, .int x2] m (cvI a) := by
  refine ct_of (own := RX12) (ls0 := [some (.ref (G.2.2 0)), some (.int x1), some (.int x2), none]) (by decide) rfl rfl rfl (Nat.le_of_ble_eq_true rfl) hD (fun X h => ?_) l
  unfold fX12_sure
  refine j_aload_n h dX12_sure_0 rfl ?_
  refine j_iload_n h dX12_sure_1 rfl ?_
  refine j_callVP (q0 := 0) (ci := 12) h [.int x1] (kX12_isPerson _ G h.2.2.2.2.2.2.2.2.2.2 m x1) okX12_isPerson inX12_isPerson ml12_450 rfl rfl rfl rfl (by decide) (by decide) (Nat.le_of_ble_eq_true rfl) rfl dX12_sure_2 (fun r1 hr1 => ?_)
  refine j_if_ne (tgt := 10) h dX12_sure_5 (by decide) (fun c3 => ?_) (fun c3 => ?_)
  · refine j_aload_n h dX12_sure_10 rfl ?_
    refine j_iconst (v := (0 : Int32)) h dX12_sure_11 kiconst_0 ?_
    refine j_iload_n h dX12_sure_12 rfl ?_
    refine j_callVI (q0 := 0) (ci := 12) h [.int (0 : Int32), .int x2] (kX12_layFits _ G h.2.2.2.2.2.2.2.2.2.2 m (0 : Int32) x2) okX12_layFits inX12_layFits ml12_531 rfl rfl rfl rfl (by decide) (by decide) (Nat.le_of_ble_eq_true rfl) rfl dX12_sure_13 (fun r4 m5 hr4 => ?_)
    refine j_istore_n h dX12_sure_16 rfl rfl ?_
    refine j_iload_n h dX12_sure_17 rfl ?_
    refine j_if_ne (tgt := 25) h dX12_sure_18 (by decide) (fun c6 => ?_) (fun c6 => ?_)
    · refine j_aload_n h dX12_sure_25 rfl ?_
      refine gM_71 h dX12_sure_26 ?_
      refine j_iload_n h dX12_sure_29 rfl ?_
      refine aM_44 h dX12_sure_30 (fun v7 hv7 => ?_)
      refine j_iload_n h dX12_sure_31 rfl ?_
      refine j_icmp_ne (tgt := 39) h dX12_sure_32 (by decide) (fun c8 => ?_) (fun c8 => ?_)
      · refine j_aload_n h dX12_sure_39 rfl ?_
        refine gM_71 h dX12_sure_40 ?_
        refine j_iload_n h dX12_sure_43 rfl ?_
        refine aM_44 h dX12_sure_44 (fun v9 hv9 => ?_)
        refine j_if_ne (tgt := 52) h dX12_sure_45 (by decide) (fun c10 => ?_) (fun c10 => ?_)
        · refine j_bipush (v := (-2 : Int32)) h dX12_sure_52 kbipush_m2 ?_
          exact j_iret h rfl dX12_sure_54
        · refine j_iconst (v := (0 : Int32)) h dX12_sure_48 kiconst_0 ?_
          refine j_goto (tgt := 54) h dX12_sure_49 (by decide) ?_
          exact j_iret h rfl dX12_sure_54
      · refine j_iconst (v := (1 : Int32)) h dX12_sure_35 kiconst_1 ?_
        refine j_goto (tgt := 54) h dX12_sure_36 (by decide) ?_
        exact j_iret h rfl dX12_sure_54
    · refine j_iconst (v := (-1 : Int32)) h dX12_sure_21 kiconst_m1 ?_
      refine j_goto (tgt := 54) h dX12_sure_22 (by decide) ?_
      exact j_iret h rfl dX12_sure_54
  · refine j_iconst (v := (-1 : Int32)) h dX12_sure_8 kiconst_m1 ?_
    exact j_iret h rfl dX12_sure_9
theorem dX12_ask_0 : DD cX12_ask 0 (.iload_n 1) 1 1 := ⟨by decide +kernel, rfl⟩
theorem dX12_ask_1 : DD cX12_ask 1 (.iconst 0) 1 2 := ⟨by decide +kernel, rfl⟩
theorem dX12_ask_2 : DD cX12_ask 2 (.bipush 9) 2 4 := ⟨by decide +kernel, rfl⟩
theorem dX12_ask_4 : DD cX12_ask 4 (.invokestatic 402) 3 7 := ⟨by decide +kernel, rfl⟩
theorem dX12_ask_7 : DD cX12_ask 7 (.ifCond .eq 12) 3 10 := ⟨by decide +kernel, rfl⟩
theorem dX12_ask_10 : DD cX12_ask 10 (.iload_n 2) 1 11 := ⟨by decide +kernel, rfl⟩
theorem dX12_ask_11 : DD cX12_ask 11 (.iconst 0) 1 12 := ⟨by decide +kernel, rfl⟩
theorem dX12_ask_12 : DD cX12_ask 12 (.iconst 1) 1 13 := ⟨by decide +kernel, rfl⟩
theorem dX12_ask_13 : DD cX12_ask 13 (.invokestatic 402) 3 16 := ⟨by decide +kernel, rfl⟩
theorem dX12_ask_16 : DD cX12_ask 16 (.ifCond .ne 5) 3 19 := ⟨by decide +kernel, rfl⟩
theorem dX12_ask_19 : DD cX12_ask 19 (.iconst (-1)) 1 20 := ⟨by decide +kernel, rfl⟩
theorem dX12_ask_20 : DD cX12_ask 20 (.ireturn) 1 21 := ⟨by decide +kernel, rfl⟩
theorem dX12_ask_21 : DD cX12_ask 21 (.aload_n 0) 1 22 := ⟨by decide +kernel, rfl⟩
theorem dX12_ask_22 : DD cX12_ask 22 (.iload_n 1) 1 23 := ⟨by decide +kernel, rfl⟩
theorem dX12_ask_23 : DD cX12_ask 23 (.iload_n 3) 1 24 := ⟨by decide +kernel, rfl⟩
theorem dX12_ask_24 : DD cX12_ask 24 (.invokevirtual 531) 3 27 := ⟨by decide +kernel, rfl⟩
theorem dX12_ask_27 : DD cX12_ask 27 (.istore 4) 2 29 := ⟨by decide +kernel, rfl⟩
theorem dX12_ask_29 : DD cX12_ask 29 (.iconst (-1)) 1 30 := ⟨by decide +kernel, rfl⟩
theorem dX12_ask_30 : DD cX12_ask 30 (.istore 5) 2 32 := ⟨by decide +kernel, rfl⟩
theorem dX12_ask_32 : DD cX12_ask 32 (.iload 4) 2 34 := ⟨by decide +kernel, rfl⟩
theorem dX12_ask_34 : DD cX12_ask 34 (.iconst 1) 1 35 := ⟨by decide +kernel, rfl⟩
theorem dX12_ask_35 : DD cX12_ask 35 (.iadd) 1 36 := ⟨by decide +kernel, rfl⟩
theorem dX12_ask_36 : DD cX12_ask 36 (.istore 6) 2 38 := ⟨by decide +kernel, rfl⟩
theorem dX12_ask_38 : DD cX12_ask 38 (.iconst 0) 1 39 := ⟨by decide +kernel, rfl⟩
theorem dX12_ask_39 : DD cX12_ask 39 (.istore 7) 2 41 := ⟨by decide +kernel, rfl⟩
theorem dX12_ask_41 : DD cX12_ask 41 (.iload 7) 2 43 := ⟨by decide +kernel, rfl⟩
theorem dX12_ask_43 : DD cX12_ask 43 (.bipush 24) 2 45 := ⟨by decide +kernel, rfl⟩
theorem dX12_ask_45 : DD cX12_ask 45 (.if_icmp .ge 74) 3 48 := ⟨by decide +kernel, rfl⟩
theorem dX12_ask_48 : DD cX12_ask 48 (.iload 4) 2 50 := ⟨by decide +kernel, rfl⟩
theorem dX12_ask_50 : DD cX12_ask 50 (.ifCond .le 69) 3 53 := ⟨by decide +kernel, rfl⟩
theorem dX12_ask_53 : DD cX12_ask 53 (.aload_n 0) 1 54 := ⟨by decide +kernel, rfl⟩
theorem dX12_ask_54 : DD cX12_ask 54 (.getfield 148) 3 57 := ⟨by decide +kernel, rfl⟩
theorem dX12_ask_57 : DD cX12_ask 57 (.iload 7) 2 59 := ⟨by decide +kernel, rfl⟩
theorem dX12_ask_59 : DD cX12_ask 59 (.iaload) 1 60 := ⟨by decide +kernel, rfl⟩
theorem dX12_ask_60 : DD cX12_ask 60 (.iload 4) 2 62 := ⟨by decide +kernel, rfl⟩
theorem dX12_ask_62 : DD cX12_ask 62 (.aload_n 0) 1 63 := ⟨by decide +kernel, rfl⟩
theorem dX12_ask_63 : DD cX12_ask 63 (.getfield 148) 3 66 := ⟨by decide +kernel, rfl⟩
theorem dX12_ask_66 : DD cX12_ask 66 (.iload 7) 2 68 := ⟨by decide +kernel, rfl⟩
theorem dX12_ask_68 : DD cX12_ask 68 (.iaload) 1 69 := ⟨by decide +kernel, rfl⟩
theorem dX12_ask_69 : DD cX12_ask 69 (.isub) 1 70 := ⟨by decide +kernel, rfl⟩
theorem dX12_ask_70 : DD cX12_ask 70 (.if_icmp .le 13) 3 73 := ⟨by decide +kernel, rfl⟩
theorem dX12_ask_73 : DD cX12_ask 73 (.aload_n 0) 1 74 := ⟨by decide +kernel, rfl⟩
theorem dX12_ask_74 : DD cX12_ask 74 (.getfield 148) 3 77 := ⟨by decide +kernel, rfl⟩
theorem dX12_ask_77 : DD cX12_ask 77 (.iload 7) 2 79 := ⟨by decide +kernel, rfl⟩
theorem dX12_ask_79 : DD cX12_ask 79 (.iaload) 1 80 := ⟨by decide +kernel, rfl⟩
theorem dX12_ask_80 : DD cX12_ask 80 (.goto 13) 3 83 := ⟨by decide +kernel, rfl⟩
theorem dX12_ask_83 : DD cX12_ask 83 (.iload 4) 2 85 := ⟨by decide +kernel, rfl⟩
theorem dX12_ask_85 : DD cX12_ask 85 (.aload_n 0) 1 86 := ⟨by decide +kernel, rfl⟩
theorem dX12_ask_86 : DD cX12_ask 86 (.getfield 148) 3 89 := ⟨by decide +kernel, rfl⟩
theorem dX12_ask_89 : DD cX12_ask 89 (.iload 7) 2 91 := ⟨by decide +kernel, rfl⟩
theorem dX12_ask_91 : DD cX12_ask 91 (.iaload) 1 92 := ⟨by decide +kernel, rfl⟩
theorem dX12_ask_92 : DD cX12_ask 92 (.isub) 1 93 := ⟨by decide +kernel, rfl⟩
theorem dX12_ask_93 : DD cX12_ask 93 (.istore 8) 2 95 := ⟨by decide +kernel, rfl⟩
theorem dX12_ask_95 : DD cX12_ask 95 (.iload 8) 2 97 := ⟨by decide +kernel, rfl⟩
theorem dX12_ask_97 : DD cX12_ask 97 (.iload 6) 2 99 := ⟨by decide +kernel, rfl⟩
theorem dX12_ask_99 : DD cX12_ask 99 (.if_icmp .lt 6) 3 102 := ⟨by decide +kernel, rfl⟩
theorem dX12_ask_102 : DD cX12_ask 102 (.goto 11) 3 105 := ⟨by decide +kernel, rfl⟩
theorem dX12_ask_105 : DD cX12_ask 105 (.iload 7) 2 107 := ⟨by decide +kernel, rfl⟩
theorem dX12_ask_107 : DD cX12_ask 107 (.istore 5) 2 109 := ⟨by decide +kernel, rfl⟩
theorem dX12_ask_109 : DD cX12_ask 109 (.iload 8) 2 111 := ⟨by decide +kernel, rfl⟩
theorem dX12_ask_111 : DD cX12_ask 111 (.istore 6) 2 113 := ⟨by decide +kernel, rfl⟩
theorem dX12_ask_113 : DD cX12_ask 113 (.iinc 7 1) 3 116 := ⟨by decide +kernel, rfl⟩
theorem dX12_ask_116 : DD cX12_ask 116 (.goto (-75)) 3 119 := ⟨by decide +kernel, rfl⟩
theorem dX12_ask_119 : DD cX12_ask 119 (.iload 5) 2 121 := ⟨by decide +kernel, rfl⟩
theorem dX12_ask_121 : DD cX12_ask 121 (.ifCond .ge 7) 3 124 := ⟨by decide +kernel, rfl⟩
theorem dX12_ask_124 : DD cX12_ask 124 (.iconst (-1)) 1 125 := ⟨by decide +kernel, rfl⟩
theorem dX12_ask_125 : DD cX12_ask 125 (.goto 14) 3 128 := ⟨by decide +kernel, rfl⟩
theorem dX12_ask_128 : DD cX12_ask 128 (.iload_n 2) 1 129 := ⟨by decide +kernel, rfl⟩
theorem dX12_ask_129 : DD cX12_ask 129 (.ifCond .ne 8) 3 132 := ⟨by decide +kernel, rfl⟩
theorem dX12_ask_132 : DD cX12_ask 132 (.iload 5) 2 134 := ⟨by decide +kernel, rfl⟩
theorem dX12_ask_134 : DD cX12_ask 134 (.goto 5) 3 137 := ⟨by decide +kernel, rfl⟩
theorem dX12_ask_137 : DD cX12_ask 137 (.iload 6) 2 139 := ⟨by decide +kernel, rfl⟩
theorem dX12_ask_139 : DD cX12_ask 139 (.ireturn) 1 140 := ⟨by decide +kernel, rfl⟩
def gX12_ask : Nat → Int32 → Int32 → Int32 → Int32 → Int32 → Mem → Option (Int32 × Mem)
  | 0, _, _, _, _, _, _ => none
  | f + 1, x2, x4, x5, x6, x7, m => (if (24 : Int32) ≤ x7 then (if 0 ≤ x5 then (if x2 = 0 then (some (x5, m)) else (some (x6, m))) else (some ((-1 : Int32), m))) else (if x4 ≤ 0 then (if 0 ≤ x5 then (if x2 = 0 then (some (x5, m)) else (some (x6, m))) else (some ((-1 : Int32), m))) else (rd (m.1 45) 24 x7 fun v7 => (rd (m.1 45) 24 x7 fun v8 => (if v7 ≤ (x4 - v8) then (rd (m.1 45) 24 x7 fun v10 => (nm (x4 - v10) fun v11 => (if v11 < x6 then (gX12_ask f x2 x4 x7 v11 (x7 + (1 : Int32)) m) else (gX12_ask f x2 x4 x5 x6 (x7 + (1 : Int32)) m)))) else (rd (m.1 45) 24 x7 fun v13 => (if v13 < x6 then (gX12_ask f x2 x4 x7 v13 (x7 + (1 : Int32)) m) else (gX12_ask f x2 x4 x5 x6 (x7 + (1 : Int32)) m))))))))
def fX12_ask (m : Mem) (x1 : Int32) (x2 : Int32) (x3 : Int32) : Option (Int32 × Mem) := (cP (fX12_isIn x1 (0 : Int32) (9 : Int32)) fun r1 => (if r1 = 0 then (some ((-1 : Int32), m)) else (cP (fX12_isIn x2 (0 : Int32) (1 : Int32)) fun r4 => (if r4 = 0 then (some ((-1 : Int32), m)) else (cI (fX12_layFits m x1 x3) fun r7 m8 => (nm (r7 + (1 : Int32)) fun v9 => (gX12_ask 5000 x2 r7 (-1 : Int32) v9 (0 : Int32) m8)))))))
set_option maxHeartbeats 4000000 in
set_option maxRecDepth 100000 in
theorem wX12_ask {X : Cx} {G : Gt} (h : OkX (X, G, wM, nM) cX12_ask RX12 9 (some .int) 8) : ∀ f : Nat, (∀ (x2 : Int32) (x4 : Int32) (x5 : Int32) (x6 : Int32) (x7 : Int32) (m : Mem), JR (X, G, wM, nM) cvI m 41 [some (.ref (G.2.2 0)), none, some (.int x2), none, some (.int x4), some (.int x5), some (.int x6), some (.int x7), none] [] (gX12_ask f x2 x4 x5 x6 x7 m)) := by
  intro f
  induction f with
  | zero => exact (fun _ _ _ _ _ _ => j_none)
  | succ f ih =>
    intro x2 x4 x5 x6 x7 m
    rw [gX12_ask]
    refine j_iload h dX12_ask_41 rfl ?_
    refine j_bipush (v := (24 : Int32)) h dX12_ask_43 kbipush_24 ?_
    refine j_icmp_ge (tgt := 119) h dX12_ask_45 (by decide) (fun c1 => ?_) (fun c1 => ?_)
    · refine j_iload h dX12_ask_119 rfl ?_
      refine j_if_ge (tgt := 128) h dX12_ask_121 (by decide) (fun c2 => ?_) (fun c2 => ?_)
      · refine j_iload_n h dX12_ask_128 rfl ?_
        refine j_if_ne (tgt := 137) h dX12_ask_129 (by decide) (fun c3 => ?_) (fun c3 => ?_)
        · refine j_iload h dX12_ask_137 rfl ?_
          exact j_iret h rfl dX12_ask_139
        · refine j_iload h dX12_ask_132 rfl ?_
          refine j_goto (tgt := 139) h dX12_ask_134 (by decide) ?_
          exact j_iret h rfl dX12_ask_139
      · refine j_iconst (v := (-1 : Int32)) h dX12_ask_124 kiconst_m1 ?_
        refine j_goto (tgt := 139) h dX12_ask_125 (by decide) ?_
        exact j_iret h rfl dX12_ask_139
    · refine j_iload h dX12_ask_48 rfl ?_
      refine j_if_le (tgt := 119) h dX12_ask_50 (by decide) (fun c4 => ?_) (fun c4 => ?_)
      · refine j_iload h dX12_ask_119 rfl ?_
        refine j_if_ge (tgt := 128) h dX12_ask_121 (by decide) (fun c5 => ?_) (fun c5 => ?_)
        · refine j_iload_n h dX12_ask_128 rfl ?_
          refine j_if_ne (tgt := 137) h dX12_ask_129 (by decide) (fun c6 => ?_) (fun c6 => ?_)
          · refine j_iload h dX12_ask_137 rfl ?_
            exact j_iret h rfl dX12_ask_139
          · refine j_iload h dX12_ask_132 rfl ?_
            refine j_goto (tgt := 139) h dX12_ask_134 (by decide) ?_
            exact j_iret h rfl dX12_ask_139
        · refine j_iconst (v := (-1 : Int32)) h dX12_ask_124 kiconst_m1 ?_
          refine j_goto (tgt := 139) h dX12_ask_125 (by decide) ?_
          exact j_iret h rfl dX12_ask_139
      · refine j_aload_n h dX12_ask_53 rfl ?_
        refine gM_72 h dX12_ask_54 ?_
        refine j_iload h dX12_ask_57 rfl ?_
        refine aM_45 h dX12_ask_59 (fun v7 hv7 => ?_)
        refine j_iload h dX12_ask_60 rfl ?_
        refine j_aload_n h dX12_ask_62 rfl ?_
        refine gM_72 h dX12_ask_63 ?_
        refine j_iload h dX12_ask_66 rfl ?_
        refine aM_45 h dX12_ask_68 (fun v8 hv8 => ?_)
        refine j_isub h dX12_ask_69 ?_
        refine j_icmp_le (tgt := 83) h dX12_ask_70 (by decide) (fun c9 => ?_) (fun c9 => ?_)
        · refine j_iload h dX12_ask_83 rfl ?_
          refine j_aload_n h dX12_ask_85 rfl ?_
          refine gM_72 h dX12_ask_86 ?_
          refine j_iload h dX12_ask_89 rfl ?_
          refine aM_45 h dX12_ask_91 (fun v10 hv10 => ?_)
          refine j_isub h dX12_ask_92 ?_
          refine j_nm (fun v11 hv11 => ?_)
          refine j_istore h dX12_ask_93 rfl rfl ?_
          refine j_iload h dX12_ask_95 rfl ?_
          refine j_iload h dX12_ask_97 rfl ?_
          refine j_icmp_lt (tgt := 105) h dX12_ask_99 (by decide) (fun c12 => ?_) (fun c12 => ?_)
          · refine j_iload h dX12_ask_105 rfl ?_
            refine j_istore h dX12_ask_107 rfl rfl ?_
            refine j_iload h dX12_ask_109 rfl ?_
            refine j_istore h dX12_ask_111 rfl rfl ?_
            refine j_iinc (v := (x7 + (1 : Int32))) h dX12_ask_113 rfl (by rw [kiconst_1]) rfl ?_
            refine j_goto (tgt := 41) h dX12_ask_116 (by decide) ?_
            refine j_wk (ls' := [some (.ref (G.2.2 0)), none, some (.int x2), none, some (.int x4), some (.int x7), some (.int v11), some (.int (x7 + (1 : Int32))), none]) (And.intro rfl (And.intro rfl (And.intro rfl (And.intro rfl (And.intro rfl (And.intro rfl trivial)))))) ?_
            exact ih x2 x4 x7 v11 (x7 + (1 : Int32)) m
          · refine j_goto (tgt := 113) h dX12_ask_102 (by decide) ?_
            refine j_iinc (v := (x7 + (1 : Int32))) h dX12_ask_113 rfl (by rw [kiconst_1]) rfl ?_
            refine j_goto (tgt := 41) h dX12_ask_116 (by decide) ?_
            refine j_wk (ls' := [some (.ref (G.2.2 0)), none, some (.int x2), none, some (.int x4), some (.int x5), some (.int x6), some (.int (x7 + (1 : Int32))), none]) (And.intro rfl (And.intro rfl (And.intro rfl (And.intro rfl (And.intro rfl (And.intro rfl trivial)))))) ?_
            exact ih x2 x4 x5 x6 (x7 + (1 : Int32)) m
        · refine j_aload_n h dX12_ask_73 rfl ?_
          refine gM_72 h dX12_ask_74 ?_
          refine j_iload h dX12_ask_77 rfl ?_
          refine aM_45 h dX12_ask_79 (fun v13 hv13 => ?_)
          refine j_goto (tgt := 93) h dX12_ask_80 (by decide) ?_
          refine j_istore h dX12_ask_93 rfl rfl ?_
          refine j_iload h dX12_ask_95 rfl ?_
          refine j_iload h dX12_ask_97 rfl ?_
          refine j_icmp_lt (tgt := 105) h dX12_ask_99 (by decide) (fun c14 => ?_) (fun c14 => ?_)
          · refine j_iload h dX12_ask_105 rfl ?_
            refine j_istore h dX12_ask_107 rfl rfl ?_
            refine j_iload h dX12_ask_109 rfl ?_
            refine j_istore h dX12_ask_111 rfl rfl ?_
            refine j_iinc (v := (x7 + (1 : Int32))) h dX12_ask_113 rfl (by rw [kiconst_1]) rfl ?_
            refine j_goto (tgt := 41) h dX12_ask_116 (by decide) ?_
            refine j_wk (ls' := [some (.ref (G.2.2 0)), none, some (.int x2), none, some (.int x4), some (.int x7), some (.int v13), some (.int (x7 + (1 : Int32))), none]) (And.intro rfl (And.intro rfl (And.intro rfl (And.intro rfl (And.intro rfl (And.intro rfl trivial)))))) ?_
            exact ih x2 x4 x7 v13 (x7 + (1 : Int32)) m
          · refine j_goto (tgt := 113) h dX12_ask_102 (by decide) ?_
            refine j_iinc (v := (x7 + (1 : Int32))) h dX12_ask_113 rfl (by rw [kiconst_1]) rfl ?_
            refine j_goto (tgt := 41) h dX12_ask_116 (by decide) ?_
            refine j_wk (ls' := [some (.ref (G.2.2 0)), none, some (.int x2), none, some (.int x4), some (.int x5), some (.int x6), some (.int (x7 + (1 : Int32))), none]) (And.intro rfl (And.intro rfl (And.intro rfl (And.intro rfl (And.intro rfl (And.intro rfl trivial)))))) ?_
            exact ih x2 x4 x5 x6 (x7 + (1 : Int32)) m
set_option maxHeartbeats 4000000 in
set_option maxRecDepth 100000 in
theorem kX12_ask (l : Launch) (G : Gt) (hD : ∀ m, va_D (inA G nM) (wM G m)) (m : Mem) (x1 : Int32) (x2 : Int32) (x3 : Int32) : ∀ a, fX12_ask m x1 x2 x3 = some a → Ct l G wM nM yX12_ask cX12_ask 9 (some .int) 8 [.ref (G.2.2 0), .int x1, .int x2, .int x3] m (cvI a) := by
  refine ct_of (own := RX12) (ls0 := [some (.ref (G.2.2 0)), some (.int x1), some (.int x2), some (.int x3), none, none, none, none, none]) (by decide) rfl rfl rfl (Nat.le_of_ble_eq_true rfl) hD (fun X h => ?_) l
  unfold fX12_ask
  refine j_iload_n h dX12_ask_0 rfl ?_
  refine j_iconst (v := (0 : Int32)) h dX12_ask_1 kiconst_0 ?_
  refine j_bipush (v := (9 : Int32)) h dX12_ask_2 kbipush_9 ?_
  refine j_callSP h [.int x1, .int (0 : Int32), .int (9 : Int32)] (kX12_isIn _ G h.2.2.2.2.2.2.2.2.2.2 m x1 (0 : Int32) (9 : Int32)) okX12_isIn stX12_isIn ml12_402 rfl rfl (by decide) (by decide) (Nat.le_of_ble_eq_true rfl) rfl dX12_ask_4 (fun r1 hr1 => ?_)
  refine j_if_eq (tgt := 19) h dX12_ask_7 (by decide) (fun c3 => ?_) (fun c3 => ?_)
  · refine j_iconst (v := (-1 : Int32)) h dX12_ask_19 kiconst_m1 ?_
    exact j_iret h rfl dX12_ask_20
  · refine j_iload_n h dX12_ask_10 rfl ?_
    refine j_iconst (v := (0 : Int32)) h dX12_ask_11 kiconst_0 ?_
    refine j_iconst (v := (1 : Int32)) h dX12_ask_12 kiconst_1 ?_
    refine j_callSP h [.int x2, .int (0 : Int32), .int (1 : Int32)] (kX12_isIn _ G h.2.2.2.2.2.2.2.2.2.2 m x2 (0 : Int32) (1 : Int32)) okX12_isIn stX12_isIn ml12_402 rfl rfl (by decide) (by decide) (Nat.le_of_ble_eq_true rfl) rfl dX12_ask_13 (fun r4 hr4 => ?_)
    refine j_if_ne (tgt := 21) h dX12_ask_16 (by decide) (fun c6 => ?_) (fun c6 => ?_)
    · refine j_aload_n h dX12_ask_21 rfl ?_
      refine j_iload_n h dX12_ask_22 rfl ?_
      refine j_iload_n h dX12_ask_23 rfl ?_
      refine j_callVI (q0 := 0) (ci := 12) h [.int x1, .int x3] (kX12_layFits _ G h.2.2.2.2.2.2.2.2.2.2 m x1 x3) okX12_layFits inX12_layFits ml12_531 rfl rfl rfl rfl (by decide) (by decide) (Nat.le_of_ble_eq_true rfl) rfl dX12_ask_24 (fun r7 m8 hr7 => ?_)
      refine j_istore h dX12_ask_27 rfl rfl ?_
      refine j_iconst (v := (-1 : Int32)) h dX12_ask_29 kiconst_m1 ?_
      refine j_istore h dX12_ask_30 rfl rfl ?_
      refine j_iload h dX12_ask_32 rfl ?_
      refine j_iconst (v := (1 : Int32)) h dX12_ask_34 kiconst_1 ?_
      refine j_iadd h dX12_ask_35 ?_
      refine j_nm (fun v9 hv9 => ?_)
      refine j_istore h dX12_ask_36 rfl rfl ?_
      refine j_iconst (v := (0 : Int32)) h dX12_ask_38 kiconst_0 ?_
      refine j_istore h dX12_ask_39 rfl rfl ?_
      refine j_wk (ls' := [some (.ref (G.2.2 0)), none, some (.int x2), none, some (.int r7), some (.int (-1 : Int32)), some (.int v9), some (.int (0 : Int32)), none]) (And.intro rfl (And.intro rfl (And.intro rfl (And.intro rfl (And.intro rfl (And.intro rfl trivial)))))) ?_
      exact (wX12_ask h 5000) x2 r7 (-1 : Int32) v9 (0 : Int32) m8
    · refine j_iconst (v := (-1 : Int32)) h dX12_ask_19 kiconst_m1 ?_
      exact j_iret h rfl dX12_ask_20
theorem dX12_isBox_0 : DD cX12_isBox 0 (.iload_n 0) 1 1 := ⟨by decide +kernel, rfl⟩
theorem dX12_isBox_1 : DD cX12_isBox 1 (.ifCond .lt 12) 3 4 := ⟨by decide +kernel, rfl⟩
theorem dX12_isBox_4 : DD cX12_isBox 4 (.iload_n 0) 1 5 := ⟨by decide +kernel, rfl⟩
theorem dX12_isBox_5 : DD cX12_isBox 5 (.iconst 3) 1 6 := ⟨by decide +kernel, rfl⟩
theorem dX12_isBox_6 : DD cX12_isBox 6 (.if_icmp .ge 7) 3 9 := ⟨by decide +kernel, rfl⟩
theorem dX12_isBox_9 : DD cX12_isBox 9 (.iconst 1) 1 10 := ⟨by decide +kernel, rfl⟩
theorem dX12_isBox_10 : DD cX12_isBox 10 (.goto 4) 3 13 := ⟨by decide +kernel, rfl⟩
theorem dX12_isBox_13 : DD cX12_isBox 13 (.iconst 0) 1 14 := ⟨by decide +kernel, rfl⟩
theorem dX12_isBox_14 : DD cX12_isBox 14 (.ireturn) 1 15 := ⟨by decide +kernel, rfl⟩
def fX12_isBox (x0 : Int32) : Option Int32 := (if x0 < 0 then (some (0 : Int32)) else (if (3 : Int32) ≤ x0 then (some (0 : Int32)) else (some (1 : Int32))))
set_option maxHeartbeats 4000000 in
set_option maxRecDepth 100000 in
theorem kX12_isBox (l : Launch) (G : Gt) (hD : ∀ m, va_D (inA G nM) (wM G m)) (m : Mem) (x0 : Int32) : ∀ a, fX12_isBox x0 = some a → Ct l G wM nM yX12_isBox cX12_isBox 1 (some .boolean) 1 [.int x0] m ((cvP m) a) := by
  refine ct_of (own := RX12) (ls0 := [some (.int x0)]) (by decide) rfl rfl rfl (Nat.le_of_ble_eq_true rfl) hD (fun X h => ?_) l
  unfold fX12_isBox
  refine j_iload_n h dX12_isBox_0 rfl ?_
  refine j_if_lt (tgt := 13) h dX12_isBox_1 (by decide) (fun c1 => ?_) (fun c1 => ?_)
  · refine j_iconst (v := (0 : Int32)) h dX12_isBox_13 kiconst_0 ?_
    exact j_zretB h rfl rfl dX12_isBox_14
  · refine j_iload_n h dX12_isBox_4 rfl ?_
    refine j_iconst (v := (3 : Int32)) h dX12_isBox_5 kiconst_3 ?_
    refine j_icmp_ge (tgt := 13) h dX12_isBox_6 (by decide) (fun c2 => ?_) (fun c2 => ?_)
    · refine j_iconst (v := (0 : Int32)) h dX12_isBox_13 kiconst_0 ?_
      exact j_zretB h rfl rfl dX12_isBox_14
    · refine j_iconst (v := (1 : Int32)) h dX12_isBox_9 kiconst_1 ?_
      refine j_goto (tgt := 14) h dX12_isBox_10 (by decide) ?_
      exact j_zretB h rfl rfl dX12_isBox_14
theorem dX12_image_0 : DD cX12_image 0 (.iload_n 1) 1 1 := ⟨by decide +kernel, rfl⟩
theorem dX12_image_1 : DD cX12_image 1 (.invokestatic 534) 3 4 := ⟨by decide +kernel, rfl⟩
theorem dX12_image_4 : DD cX12_image 4 (.ifCond .ne 5) 3 7 := ⟨by decide +kernel, rfl⟩
theorem dX12_image_7 : DD cX12_image 7 (.iconst (-1)) 1 8 := ⟨by decide +kernel, rfl⟩
theorem dX12_image_8 : DD cX12_image 8 (.ireturn) 1 9 := ⟨by decide +kernel, rfl⟩
theorem dX12_image_9 : DD cX12_image 9 (.aload_n 0) 1 10 := ⟨by decide +kernel, rfl⟩
theorem dX12_image_10 : DD cX12_image 10 (.getfield 151) 3 13 := ⟨by decide +kernel, rfl⟩
theorem dX12_image_13 : DD cX12_image 13 (.iload_n 1) 1 14 := ⟨by decide +kernel, rfl⟩
theorem dX12_image_14 : DD cX12_image 14 (.iconst 1) 1 15 := ⟨by decide +kernel, rfl⟩
theorem dX12_image_15 : DD cX12_image 15 (.bastore) 1 16 := ⟨by decide +kernel, rfl⟩
theorem dX12_image_16 : DD cX12_image 16 (.iconst 0) 1 17 := ⟨by decide +kernel, rfl⟩
theorem dX12_image_17 : DD cX12_image 17 (.istore_n 2) 1 18 := ⟨by decide +kernel, rfl⟩
theorem dX12_image_18 : DD cX12_image 18 (.iload_n 2) 1 19 := ⟨by decide +kernel, rfl⟩
theorem dX12_image_19 : DD cX12_image 19 (.bipush 37) 2 21 := ⟨by decide +kernel, rfl⟩
theorem dX12_image_21 : DD cX12_image 21 (.if_icmp .ge 26) 3 24 := ⟨by decide +kernel, rfl⟩
theorem dX12_image_24 : DD cX12_image 24 (.aload_n 0) 1 25 := ⟨by decide +kernel, rfl⟩
theorem dX12_image_25 : DD cX12_image 25 (.getfield 154) 3 28 := ⟨by decide +kernel, rfl⟩
theorem dX12_image_28 : DD cX12_image 28 (.bipush 37) 2 30 := ⟨by decide +kernel, rfl⟩
theorem dX12_image_30 : DD cX12_image 30 (.iload_n 1) 1 31 := ⟨by decide +kernel, rfl⟩
theorem dX12_image_31 : DD cX12_image 31 (.imul) 1 32 := ⟨by decide +kernel, rfl⟩
theorem dX12_image_32 : DD cX12_image 32 (.iload_n 2) 1 33 := ⟨by decide +kernel, rfl⟩
theorem dX12_image_33 : DD cX12_image 33 (.iadd) 1 34 := ⟨by decide +kernel, rfl⟩
theorem dX12_image_34 : DD cX12_image 34 (.aload_n 0) 1 35 := ⟨by decide +kernel, rfl⟩
theorem dX12_image_35 : DD cX12_image 35 (.getfield 112) 3 38 := ⟨by decide +kernel, rfl⟩
theorem dX12_image_38 : DD cX12_image 38 (.iload_n 2) 1 39 := ⟨by decide +kernel, rfl⟩
theorem dX12_image_39 : DD cX12_image 39 (.iaload) 1 40 := ⟨by decide +kernel, rfl⟩
theorem dX12_image_40 : DD cX12_image 40 (.iastore) 1 41 := ⟨by decide +kernel, rfl⟩
theorem dX12_image_41 : DD cX12_image 41 (.iinc 2 1) 3 44 := ⟨by decide +kernel, rfl⟩
theorem dX12_image_44 : DD cX12_image 44 (.goto (-26)) 3 47 := ⟨by decide +kernel, rfl⟩
theorem dX12_image_47 : DD cX12_image 47 (.aload_n 0) 1 48 := ⟨by decide +kernel, rfl⟩
theorem dX12_image_48 : DD cX12_image 48 (.getfield 112) 3 51 := ⟨by decide +kernel, rfl⟩
theorem dX12_image_51 : DD cX12_image 51 (.bipush 36) 2 53 := ⟨by decide +kernel, rfl⟩
theorem dX12_image_53 : DD cX12_image 53 (.iaload) 1 54 := ⟨by decide +kernel, rfl⟩
theorem dX12_image_54 : DD cX12_image 54 (.ireturn) 1 55 := ⟨by decide +kernel, rfl⟩
def gX12_image : Nat → Int32 → Int32 → Mem → Option (Int32 × Mem)
  | 0, _, _, _ => none
  | f + 1, x1, x2, m => (if (37 : Int32) ≤ x2 then (rd (m.1 33) 37 (36 : Int32) fun v2 => (some (v2, m))) else (rd (m.1 33) 37 x2 fun v3 => (wr m 47 111 (((37 : Int32) * x1) + x2) v3 fun m4 => (gX12_image f x1 (x2 + (1 : Int32)) m4))))
def fX12_image (m : Mem) (x1 : Int32) : Option (Int32 × Mem) := (cP (fX12_isBox x1) fun r1 => (if r1 = 0 then (some ((-1 : Int32), m)) else (wr m 46 3 x1 (vp_nar .boolean (1 : Int32)) fun m4 => (gX12_image 5000 x1 (0 : Int32) m4))))
set_option maxHeartbeats 4000000 in
set_option maxRecDepth 100000 in
theorem wX12_image {X : Cx} {G : Gt} (h : OkX (X, G, wM, nM) cX12_image RX12 3 (some .int) 2) : ∀ f : Nat, (∀ (x1 : Int32) (x2 : Int32) (m : Mem), JR (X, G, wM, nM) cvI m 18 [some (.ref (G.2.2 0)), some (.int x1), some (.int x2)] [] (gX12_image f x1 x2 m)) := by
  intro f
  induction f with
  | zero => exact (fun _ _ _ => j_none)
  | succ f ih =>
    intro x1 x2 m
    rw [gX12_image]
    refine j_iload_n h dX12_image_18 rfl ?_
    refine j_bipush (v := (37 : Int32)) h dX12_image_19 kbipush_37 ?_
    refine j_icmp_ge (tgt := 47) h dX12_image_21 (by decide) (fun c1 => ?_) (fun c1 => ?_)
    · refine j_aload_n h dX12_image_47 rfl ?_
      refine gM_55 h dX12_image_48 ?_
      refine j_bipush (v := (36 : Int32)) h dX12_image_51 kbipush_36 ?_
      refine aM_33 h dX12_image_53 (fun v2 hv2 => ?_)
      exact j_iret h rfl dX12_image_54
    · refine j_aload_n h dX12_image_24 rfl ?_
      refine gM_74 h dX12_image_25 ?_
      refine j_bipush (v := (37 : Int32)) h dX12_image_28 kbipush_37 ?_
      refine j_iload_n h dX12_image_30 rfl ?_
      refine j_imul h dX12_image_31 ?_
      refine j_iload_n h dX12_image_32 rfl ?_
      refine j_iadd h dX12_image_33 ?_
      refine j_aload_n h dX12_image_34 rfl ?_
      refine gM_55 h dX12_image_35 ?_
      refine j_iload_n h dX12_image_38 rfl ?_
      refine aM_33 h dX12_image_39 (fun v3 hv3 => ?_)
      refine bM_47 h dX12_image_40 (fun m4 hm4 => ?_)
      refine j_iinc (v := (x2 + (1 : Int32))) h dX12_image_41 rfl (by rw [kiconst_1]) rfl ?_
      refine j_goto (tgt := 18) h dX12_image_44 (by decide) ?_
      refine j_wk (ls' := [some (.ref (G.2.2 0)), some (.int x1), some (.int (x2 + (1 : Int32)))]) (And.intro rfl (And.intro rfl (And.intro rfl trivial))) ?_
      exact ih x1 (x2 + (1 : Int32)) m4
set_option maxHeartbeats 4000000 in
set_option maxRecDepth 100000 in
theorem kX12_image (l : Launch) (G : Gt) (hD : ∀ m, va_D (inA G nM) (wM G m)) (m : Mem) (x1 : Int32) : ∀ a, fX12_image m x1 = some a → Ct l G wM nM yX12_image cX12_image 3 (some .int) 2 [.ref (G.2.2 0), .int x1] m (cvI a) := by
  refine ct_of (own := RX12) (ls0 := [some (.ref (G.2.2 0)), some (.int x1), none]) (by decide) rfl rfl rfl (Nat.le_of_ble_eq_true rfl) hD (fun X h => ?_) l
  unfold fX12_image
  refine j_iload_n h dX12_image_0 rfl ?_
  refine j_callSP h [.int x1] (kX12_isBox _ G h.2.2.2.2.2.2.2.2.2.2 m x1) okX12_isBox stX12_isBox ml12_534 rfl rfl (by decide) (by decide) (Nat.le_of_ble_eq_true rfl) rfl dX12_image_1 (fun r1 hr1 => ?_)
  refine j_if_ne (tgt := 9) h dX12_image_4 (by decide) (fun c3 => ?_) (fun c3 => ?_)
  · refine j_aload_n h dX12_image_9 rfl ?_
    refine gM_73 h dX12_image_10 ?_
    refine j_iload_n h dX12_image_13 rfl ?_
    refine j_iconst (v := (1 : Int32)) h dX12_image_14 kiconst_1 ?_
    refine bM_46 h dX12_image_15 (fun m4 hm4 => ?_)
    refine j_iconst (v := (0 : Int32)) h dX12_image_16 kiconst_0 ?_
    refine j_istore_n h dX12_image_17 rfl rfl ?_
    refine j_wk (ls' := [some (.ref (G.2.2 0)), some (.int x1), some (.int (0 : Int32))]) (And.intro rfl (And.intro rfl (And.intro rfl trivial))) ?_
    exact (wX12_image h 5000) x1 (0 : Int32) m4
  · refine j_iconst (v := (-1 : Int32)) h dX12_image_7 kiconst_m1 ?_
    exact j_iret h rfl dX12_image_8
theorem dX12_back_0 : DD cX12_back 0 (.iload_n 1) 1 1 := ⟨by decide +kernel, rfl⟩
theorem dX12_back_1 : DD cX12_back 1 (.invokestatic 534) 3 4 := ⟨by decide +kernel, rfl⟩
theorem dX12_back_4 : DD cX12_back 4 (.ifCond .eq 12) 3 7 := ⟨by decide +kernel, rfl⟩
theorem dX12_back_7 : DD cX12_back 7 (.aload_n 0) 1 8 := ⟨by decide +kernel, rfl⟩
theorem dX12_back_8 : DD cX12_back 8 (.getfield 151) 3 11 := ⟨by decide +kernel, rfl⟩
theorem dX12_back_11 : DD cX12_back 11 (.iload_n 1) 1 12 := ⟨by decide +kernel, rfl⟩
theorem dX12_back_12 : DD cX12_back 12 (.baload) 1 13 := ⟨by decide +kernel, rfl⟩
theorem dX12_back_13 : DD cX12_back 13 (.ifCond .ne 5) 3 16 := ⟨by decide +kernel, rfl⟩
theorem dX12_back_16 : DD cX12_back 16 (.iconst (-1)) 1 17 := ⟨by decide +kernel, rfl⟩
theorem dX12_back_17 : DD cX12_back 17 (.ireturn) 1 18 := ⟨by decide +kernel, rfl⟩
theorem dX12_back_18 : DD cX12_back 18 (.iconst 0) 1 19 := ⟨by decide +kernel, rfl⟩
theorem dX12_back_19 : DD cX12_back 19 (.istore_n 2) 1 20 := ⟨by decide +kernel, rfl⟩
theorem dX12_back_20 : DD cX12_back 20 (.iload_n 2) 1 21 := ⟨by decide +kernel, rfl⟩
theorem dX12_back_21 : DD cX12_back 21 (.bipush 37) 2 23 := ⟨by decide +kernel, rfl⟩
theorem dX12_back_23 : DD cX12_back 23 (.if_icmp .ge 26) 3 26 := ⟨by decide +kernel, rfl⟩
theorem dX12_back_26 : DD cX12_back 26 (.aload_n 0) 1 27 := ⟨by decide +kernel, rfl⟩
theorem dX12_back_27 : DD cX12_back 27 (.getfield 112) 3 30 := ⟨by decide +kernel, rfl⟩
theorem dX12_back_30 : DD cX12_back 30 (.iload_n 2) 1 31 := ⟨by decide +kernel, rfl⟩
theorem dX12_back_31 : DD cX12_back 31 (.aload_n 0) 1 32 := ⟨by decide +kernel, rfl⟩
theorem dX12_back_32 : DD cX12_back 32 (.getfield 154) 3 35 := ⟨by decide +kernel, rfl⟩
theorem dX12_back_35 : DD cX12_back 35 (.bipush 37) 2 37 := ⟨by decide +kernel, rfl⟩
theorem dX12_back_37 : DD cX12_back 37 (.iload_n 1) 1 38 := ⟨by decide +kernel, rfl⟩
theorem dX12_back_38 : DD cX12_back 38 (.imul) 1 39 := ⟨by decide +kernel, rfl⟩
theorem dX12_back_39 : DD cX12_back 39 (.iload_n 2) 1 40 := ⟨by decide +kernel, rfl⟩
theorem dX12_back_40 : DD cX12_back 40 (.iadd) 1 41 := ⟨by decide +kernel, rfl⟩
theorem dX12_back_41 : DD cX12_back 41 (.iaload) 1 42 := ⟨by decide +kernel, rfl⟩
theorem dX12_back_42 : DD cX12_back 42 (.iastore) 1 43 := ⟨by decide +kernel, rfl⟩
theorem dX12_back_43 : DD cX12_back 43 (.iinc 2 1) 3 46 := ⟨by decide +kernel, rfl⟩
theorem dX12_back_46 : DD cX12_back 46 (.goto (-26)) 3 49 := ⟨by decide +kernel, rfl⟩
theorem dX12_back_49 : DD cX12_back 49 (.aload_n 0) 1 50 := ⟨by decide +kernel, rfl⟩
theorem dX12_back_50 : DD cX12_back 50 (.iconst 0) 1 51 := ⟨by decide +kernel, rfl⟩
theorem dX12_back_51 : DD cX12_back 51 (.putfield 390) 3 54 := ⟨by decide +kernel, rfl⟩
theorem dX12_back_54 : DD cX12_back 54 (.aload_n 0) 1 55 := ⟨by decide +kernel, rfl⟩
theorem dX12_back_55 : DD cX12_back 55 (.iconst 0) 1 56 := ⟨by decide +kernel, rfl⟩
theorem dX12_back_56 : DD cX12_back 56 (.putfield 393) 3 59 := ⟨by decide +kernel, rfl⟩
theorem dX12_back_59 : DD cX12_back 59 (.aload_n 0) 1 60 := ⟨by decide +kernel, rfl⟩
theorem dX12_back_60 : DD cX12_back 60 (.getfield 112) 3 63 := ⟨by decide +kernel, rfl⟩
theorem dX12_back_63 : DD cX12_back 63 (.bipush 36) 2 65 := ⟨by decide +kernel, rfl⟩
theorem dX12_back_65 : DD cX12_back 65 (.iaload) 1 66 := ⟨by decide +kernel, rfl⟩
theorem dX12_back_66 : DD cX12_back 66 (.ireturn) 1 67 := ⟨by decide +kernel, rfl⟩
def gX12_back : Nat → Int32 → Int32 → Mem → Option (Int32 × Mem)
  | 0, _, _, _ => none
  | f + 1, x1, x2, m => (if (37 : Int32) ≤ x2 then (pt (sI m 0 60 (0 : Int32)) fun m2 => (pt (sI m2 0 61 (0 : Int32)) fun m3 => (rd (m3.1 33) 37 (36 : Int32) fun v4 => (some (v4, m3))))) else (rd (m.1 47) 111 (((37 : Int32) * x1) + x2) fun v5 => (wr m 33 37 x2 v5 fun m6 => (gX12_back f x1 (x2 + (1 : Int32)) m6))))
def fX12_back (m : Mem) (x1 : Int32) : Option (Int32 × Mem) := (cP (fX12_isBox x1) fun r1 => (if r1 = 0 then (some ((-1 : Int32), m)) else (rd (m.1 46) 3 x1 fun v4 => (if v4 = 0 then (some ((-1 : Int32), m)) else (gX12_back 5000 x1 (0 : Int32) m)))))
set_option maxHeartbeats 4000000 in
set_option maxRecDepth 100000 in
theorem wX12_back {X : Cx} {G : Gt} (h : OkX (X, G, wM, nM) cX12_back RX12 3 (some .int) 2) : ∀ f : Nat, (∀ (x1 : Int32) (x2 : Int32) (m : Mem), JR (X, G, wM, nM) cvI m 20 [some (.ref (G.2.2 0)), some (.int x1), some (.int x2)] [] (gX12_back f x1 x2 m)) := by
  intro f
  induction f with
  | zero => exact (fun _ _ _ => j_none)
  | succ f ih =>
    intro x1 x2 m
    rw [gX12_back]
    refine j_iload_n h dX12_back_20 rfl ?_
    refine j_bipush (v := (37 : Int32)) h dX12_back_21 kbipush_37 ?_
    refine j_icmp_ge (tgt := 49) h dX12_back_23 (by decide) (fun c1 => ?_) (fun c1 => ?_)
    · refine j_aload_n h dX12_back_49 rfl ?_
      refine j_iconst (v := (0 : Int32)) h dX12_back_50 kiconst_0 ?_
      refine pM_60 h dX12_back_51 (fun m2 hm2 => ?_)
      refine j_aload_n h dX12_back_54 rfl ?_
      refine j_iconst (v := (0 : Int32)) h dX12_back_55 kiconst_0 ?_
      refine pM_61 h dX12_back_56 (fun m3 hm3 => ?_)
      refine j_aload_n h dX12_back_59 rfl ?_
      refine gM_55 h dX12_back_60 ?_
      refine j_bipush (v := (36 : Int32)) h dX12_back_63 kbipush_36 ?_
      refine aM_33 h dX12_back_65 (fun v4 hv4 => ?_)
      exact j_iret h rfl dX12_back_66
    · refine j_aload_n h dX12_back_26 rfl ?_
      refine gM_55 h dX12_back_27 ?_
      refine j_iload_n h dX12_back_30 rfl ?_
      refine j_aload_n h dX12_back_31 rfl ?_
      refine gM_74 h dX12_back_32 ?_
      refine j_bipush (v := (37 : Int32)) h dX12_back_35 kbipush_37 ?_
      refine j_iload_n h dX12_back_37 rfl ?_
      refine j_imul h dX12_back_38 ?_
      refine j_iload_n h dX12_back_39 rfl ?_
      refine j_iadd h dX12_back_40 ?_
      refine aM_47 h dX12_back_41 (fun v5 hv5 => ?_)
      refine bM_33 h dX12_back_42 (fun m6 hm6 => ?_)
      refine j_iinc (v := (x2 + (1 : Int32))) h dX12_back_43 rfl (by rw [kiconst_1]) rfl ?_
      refine j_goto (tgt := 20) h dX12_back_46 (by decide) ?_
      refine j_wk (ls' := [some (.ref (G.2.2 0)), some (.int x1), some (.int (x2 + (1 : Int32)))]) (And.intro rfl (And.intro rfl (And.intro rfl trivial))) ?_
      exact ih x1 (x2 + (1 : Int32)) m6
set_option maxHeartbeats 4000000 in
set_option maxRecDepth 100000 in
theorem kX12_back (l : Launch) (G : Gt) (hD : ∀ m, va_D (inA G nM) (wM G m)) (m : Mem) (x1 : Int32) : ∀ a, fX12_back m x1 = some a → Ct l G wM nM yX12_back cX12_back 3 (some .int) 2 [.ref (G.2.2 0), .int x1] m (cvI a) := by
  refine ct_of (own := RX12) (ls0 := [some (.ref (G.2.2 0)), some (.int x1), none]) (by decide) rfl rfl rfl (Nat.le_of_ble_eq_true rfl) hD (fun X h => ?_) l
  unfold fX12_back
  refine j_iload_n h dX12_back_0 rfl ?_
  refine j_callSP h [.int x1] (kX12_isBox _ G h.2.2.2.2.2.2.2.2.2.2 m x1) okX12_isBox stX12_isBox ml12_534 rfl rfl (by decide) (by decide) (Nat.le_of_ble_eq_true rfl) rfl dX12_back_1 (fun r1 hr1 => ?_)
  refine j_if_eq (tgt := 16) h dX12_back_4 (by decide) (fun c3 => ?_) (fun c3 => ?_)
  · refine j_iconst (v := (-1 : Int32)) h dX12_back_16 kiconst_m1 ?_
    exact j_iret h rfl dX12_back_17
  · refine j_aload_n h dX12_back_7 rfl ?_
    refine gM_73 h dX12_back_8 ?_
    refine j_iload_n h dX12_back_11 rfl ?_
    refine aM_46 h dX12_back_12 (fun v4 hv4 => ?_)
    refine j_if_ne (tgt := 18) h dX12_back_13 (by decide) (fun c5 => ?_) (fun c5 => ?_)
    · refine j_iconst (v := (0 : Int32)) h dX12_back_18 kiconst_0 ?_
      refine j_istore_n h dX12_back_19 rfl rfl ?_
      refine j_wk (ls' := [some (.ref (G.2.2 0)), some (.int x1), some (.int (0 : Int32))]) (And.intro rfl (And.intro rfl (And.intro rfl trivial))) ?_
      exact (wX12_back h 5000) x1 (0 : Int32) m
    · refine j_iconst (v := (-1 : Int32)) h dX12_back_16 kiconst_m1 ?_
      exact j_iret h rfl dX12_back_17
theorem dX12_about_0 : DD cX12_about 0 (.iload_n 1) 1 1 := ⟨by decide +kernel, rfl⟩
theorem dX12_about_1 : DD cX12_about 1 (.tableswitch 141 0 12 #[67, 72, 77, 82, 90, 98, 106, 111, 116, 121, 126, 131, 136]) 67 68 := ⟨by decide +kernel, rfl⟩
theorem dX12_about_68 : DD cX12_about 68 (.aload_n 0) 1 69 := ⟨by decide +kernel, rfl⟩
theorem dX12_about_69 : DD cX12_about 69 (.getfield 378) 3 72 := ⟨by decide +kernel, rfl⟩
theorem dX12_about_72 : DD cX12_about 72 (.ireturn) 1 73 := ⟨by decide +kernel, rfl⟩
theorem dX12_about_73 : DD cX12_about 73 (.aload_n 0) 1 74 := ⟨by decide +kernel, rfl⟩
theorem dX12_about_74 : DD cX12_about 74 (.getfield 381) 3 77 := ⟨by decide +kernel, rfl⟩
theorem dX12_about_77 : DD cX12_about 77 (.ireturn) 1 78 := ⟨by decide +kernel, rfl⟩
theorem dX12_about_78 : DD cX12_about 78 (.aload_n 0) 1 79 := ⟨by decide +kernel, rfl⟩
theorem dX12_about_79 : DD cX12_about 79 (.getfield 384) 3 82 := ⟨by decide +kernel, rfl⟩
theorem dX12_about_82 : DD cX12_about 82 (.ireturn) 1 83 := ⟨by decide +kernel, rfl⟩
theorem dX12_about_83 : DD cX12_about 83 (.aload_n 0) 1 84 := ⟨by decide +kernel, rfl⟩
theorem dX12_about_84 : DD cX12_about 84 (.getfield 112) 3 87 := ⟨by decide +kernel, rfl⟩
theorem dX12_about_87 : DD cX12_about 87 (.bipush 35) 2 89 := ⟨by decide +kernel, rfl⟩
theorem dX12_about_89 : DD cX12_about 89 (.iaload) 1 90 := ⟨by decide +kernel, rfl⟩
theorem dX12_about_90 : DD cX12_about 90 (.ireturn) 1 91 := ⟨by decide +kernel, rfl⟩
theorem dX12_about_91 : DD cX12_about 91 (.aload_n 0) 1 92 := ⟨by decide +kernel, rfl⟩
theorem dX12_about_92 : DD cX12_about 92 (.getfield 112) 3 95 := ⟨by decide +kernel, rfl⟩
theorem dX12_about_95 : DD cX12_about 95 (.bipush 36) 2 97 := ⟨by decide +kernel, rfl⟩
theorem dX12_about_97 : DD cX12_about 97 (.iaload) 1 98 := ⟨by decide +kernel, rfl⟩
theorem dX12_about_98 : DD cX12_about 98 (.ireturn) 1 99 := ⟨by decide +kernel, rfl⟩
theorem dX12_about_99 : DD cX12_about 99 (.aload_n 0) 1 100 := ⟨by decide +kernel, rfl⟩
theorem dX12_about_100 : DD cX12_about 100 (.getfield 112) 3 103 := ⟨by decide +kernel, rfl⟩
theorem dX12_about_103 : DD cX12_about 103 (.bipush 34) 2 105 := ⟨by decide +kernel, rfl⟩
theorem dX12_about_105 : DD cX12_about 105 (.iaload) 1 106 := ⟨by decide +kernel, rfl⟩
theorem dX12_about_106 : DD cX12_about 106 (.ireturn) 1 107 := ⟨by decide +kernel, rfl⟩
theorem dX12_about_107 : DD cX12_about 107 (.aload_n 0) 1 108 := ⟨by decide +kernel, rfl⟩
theorem dX12_about_108 : DD cX12_about 108 (.getfield 390) 3 111 := ⟨by decide +kernel, rfl⟩
theorem dX12_about_111 : DD cX12_about 111 (.ireturn) 1 112 := ⟨by decide +kernel, rfl⟩
theorem dX12_about_112 : DD cX12_about 112 (.aload_n 0) 1 113 := ⟨by decide +kernel, rfl⟩
theorem dX12_about_113 : DD cX12_about 113 (.getfield 393) 3 116 := ⟨by decide +kernel, rfl⟩
theorem dX12_about_116 : DD cX12_about 116 (.ireturn) 1 117 := ⟨by decide +kernel, rfl⟩
theorem dX12_about_117 : DD cX12_about 117 (.aload_n 0) 1 118 := ⟨by decide +kernel, rfl⟩
theorem dX12_about_118 : DD cX12_about 118 (.getfield 396) 3 121 := ⟨by decide +kernel, rfl⟩
theorem dX12_about_121 : DD cX12_about 121 (.ireturn) 1 122 := ⟨by decide +kernel, rfl⟩
theorem dX12_about_122 : DD cX12_about 122 (.aload_n 0) 1 123 := ⟨by decide +kernel, rfl⟩
theorem dX12_about_123 : DD cX12_about 123 (.getfield 521) 3 126 := ⟨by decide +kernel, rfl⟩
theorem dX12_about_126 : DD cX12_about 126 (.ireturn) 1 127 := ⟨by decide +kernel, rfl⟩
theorem dX12_about_127 : DD cX12_about 127 (.aload_n 0) 1 128 := ⟨by decide +kernel, rfl⟩
theorem dX12_about_128 : DD cX12_about 128 (.getfield 157) 3 131 := ⟨by decide +kernel, rfl⟩
theorem dX12_about_131 : DD cX12_about 131 (.ireturn) 1 132 := ⟨by decide +kernel, rfl⟩
theorem dX12_about_132 : DD cX12_about 132 (.aload_n 0) 1 133 := ⟨by decide +kernel, rfl⟩
theorem dX12_about_133 : DD cX12_about 133 (.getfield 387) 3 136 := ⟨by decide +kernel, rfl⟩
theorem dX12_about_136 : DD cX12_about 136 (.ireturn) 1 137 := ⟨by decide +kernel, rfl⟩
theorem dX12_about_137 : DD cX12_about 137 (.aload_n 0) 1 138 := ⟨by decide +kernel, rfl⟩
theorem dX12_about_138 : DD cX12_about 138 (.getfield 399) 3 141 := ⟨by decide +kernel, rfl⟩
theorem dX12_about_141 : DD cX12_about 141 (.ireturn) 1 142 := ⟨by decide +kernel, rfl⟩
theorem dX12_about_142 : DD cX12_about 142 (.iconst (-1)) 1 143 := ⟨by decide +kernel, rfl⟩
theorem dX12_about_143 : DD cX12_about 143 (.ireturn) 1 144 := ⟨by decide +kernel, rfl⟩
def fX12_about (m : Mem) (x1 : Int32) : Option Int32 := (if x1 = (0 : Int32) then (some (m.1 0 51)) else (if x1 = (1 : Int32) then (some (m.1 0 52)) else (if x1 = (2 : Int32) then (some (m.1 0 53)) else (if x1 = (3 : Int32) then (rd (m.1 33) 37 (35 : Int32) fun v5 => (some v5)) else (if x1 = (4 : Int32) then (rd (m.1 33) 37 (36 : Int32) fun v7 => (some v7)) else (if x1 = (5 : Int32) then (rd (m.1 33) 37 (34 : Int32) fun v9 => (some v9)) else (if x1 = (6 : Int32) then (some (m.1 0 60)) else (if x1 = (7 : Int32) then (some (m.1 0 61)) else (if x1 = (8 : Int32) then (some (m.1 0 69)) else (if x1 = (9 : Int32) then (some (m.1 0 70)) else (if x1 = (10 : Int32) then (some (m.1 0 1)) else (if x1 = (11 : Int32) then (some (m.1 0 24)) else (if x1 = (12 : Int32) then (some (m.1 0 63)) else (some (-1 : Int32)))))))))))))))
set_option maxHeartbeats 4000000 in
set_option maxRecDepth 100000 in
theorem kX12_about (l : Launch) (G : Gt) (hD : ∀ m, va_D (inA G nM) (wM G m)) (m : Mem) (x1 : Int32) : ∀ a, fX12_about m x1 = some a → Ct l G wM nM yX12_about cX12_about 2 (some .int) 1 [.ref (G.2.2 0), .int x1] m ((cvP m) a) := by
  refine ct_of (own := RX12) (ls0 := [some (.ref (G.2.2 0)), some (.int x1)]) (by decide) rfl rfl rfl (Nat.le_of_ble_eq_true rfl) hD (fun X h => ?_) l
  unfold fX12_about
  refine j_iload_n h dX12_about_0 rfl ?_
  by_cases c1 : x1 = (0 : Int32)
  · rw [if_pos c1]
    refine j_tabIn (off := 67) (tgt := 68) h c1 dX12_about_1 (by decide) (by decide) (by decide) (by decide) ?_
    refine j_aload_n h dX12_about_68 rfl ?_
    refine gM_51 h dX12_about_69 ?_
    exact j_iret h rfl dX12_about_72
  · rw [if_neg c1]
    by_cases c2 : x1 = (1 : Int32)
    · rw [if_pos c2]
      refine j_tabIn (off := 72) (tgt := 73) h c2 dX12_about_1 (by decide) (by decide) (by decide) (by decide) ?_
      refine j_aload_n h dX12_about_73 rfl ?_
      refine gM_52 h dX12_about_74 ?_
      exact j_iret h rfl dX12_about_77
    · rw [if_neg c2]
      by_cases c3 : x1 = (2 : Int32)
      · rw [if_pos c3]
        refine j_tabIn (off := 77) (tgt := 78) h c3 dX12_about_1 (by decide) (by decide) (by decide) (by decide) ?_
        refine j_aload_n h dX12_about_78 rfl ?_
        refine gM_53 h dX12_about_79 ?_
        exact j_iret h rfl dX12_about_82
      · rw [if_neg c3]
        by_cases c4 : x1 = (3 : Int32)
        · rw [if_pos c4]
          refine j_tabIn (off := 82) (tgt := 83) h c4 dX12_about_1 (by decide) (by decide) (by decide) (by decide) ?_
          refine j_aload_n h dX12_about_83 rfl ?_
          refine gM_55 h dX12_about_84 ?_
          refine j_bipush (v := (35 : Int32)) h dX12_about_87 kbipush_35 ?_
          refine aM_33 h dX12_about_89 (fun v5 hv5 => ?_)
          exact j_iret h rfl dX12_about_90
        · rw [if_neg c4]
          by_cases c6 : x1 = (4 : Int32)
          · rw [if_pos c6]
            refine j_tabIn (off := 90) (tgt := 91) h c6 dX12_about_1 (by decide) (by decide) (by decide) (by decide) ?_
            refine j_aload_n h dX12_about_91 rfl ?_
            refine gM_55 h dX12_about_92 ?_
            refine j_bipush (v := (36 : Int32)) h dX12_about_95 kbipush_36 ?_
            refine aM_33 h dX12_about_97 (fun v7 hv7 => ?_)
            exact j_iret h rfl dX12_about_98
          · rw [if_neg c6]
            by_cases c8 : x1 = (5 : Int32)
            · rw [if_pos c8]
              refine j_tabIn (off := 98) (tgt := 99) h c8 dX12_about_1 (by decide) (by decide) (by decide) (by decide) ?_
              refine j_aload_n h dX12_about_99 rfl ?_
              refine gM_55 h dX12_about_100 ?_
              refine j_bipush (v := (34 : Int32)) h dX12_about_103 kbipush_34 ?_
              refine aM_33 h dX12_about_105 (fun v9 hv9 => ?_)
              exact j_iret h rfl dX12_about_106
            · rw [if_neg c8]
              by_cases c10 : x1 = (6 : Int32)
              · rw [if_pos c10]
                refine j_tabIn (off := 106) (tgt := 107) h c10 dX12_about_1 (by decide) (by decide) (by decide) (by decide) ?_
                refine j_aload_n h dX12_about_107 rfl ?_
                refine gM_60 h dX12_about_108 ?_
                exact j_iret h rfl dX12_about_111
              · rw [if_neg c10]
                by_cases c11 : x1 = (7 : Int32)
                · rw [if_pos c11]
                  refine j_tabIn (off := 111) (tgt := 112) h c11 dX12_about_1 (by decide) (by decide) (by decide) (by decide) ?_
                  refine j_aload_n h dX12_about_112 rfl ?_
                  refine gM_61 h dX12_about_113 ?_
                  exact j_iret h rfl dX12_about_116
                · rw [if_neg c11]
                  by_cases c12 : x1 = (8 : Int32)
                  · rw [if_pos c12]
                    refine j_tabIn (off := 116) (tgt := 117) h c12 dX12_about_1 (by decide) (by decide) (by decide) (by decide) ?_
                    refine j_aload_n h dX12_about_117 rfl ?_
                    refine gM_69 h dX12_about_118 ?_
                    exact j_iret h rfl dX12_about_121
                  · rw [if_neg c12]
                    by_cases c13 : x1 = (9 : Int32)
                    · rw [if_pos c13]
                      refine j_tabIn (off := 121) (tgt := 122) h c13 dX12_about_1 (by decide) (by decide) (by decide) (by decide) ?_
                      refine j_aload_n h dX12_about_122 rfl ?_
                      refine gM_70 h dX12_about_123 ?_
                      exact j_iret h rfl dX12_about_126
                    · rw [if_neg c13]
                      by_cases c14 : x1 = (10 : Int32)
                      · rw [if_pos c14]
                        refine j_tabIn (off := 126) (tgt := 127) h c14 dX12_about_1 (by decide) (by decide) (by decide) (by decide) ?_
                        refine j_aload_n h dX12_about_127 rfl ?_
                        refine gM_1 h dX12_about_128 ?_
                        exact j_iret h rfl dX12_about_131
                      · rw [if_neg c14]
                        by_cases c15 : x1 = (11 : Int32)
                        · rw [if_pos c15]
                          refine j_tabIn (off := 131) (tgt := 132) h c15 dX12_about_1 (by decide) (by decide) (by decide) (by decide) ?_
                          refine j_aload_n h dX12_about_132 rfl ?_
                          refine gM_24 h dX12_about_133 ?_
                          exact j_iret h rfl dX12_about_136
                        · rw [if_neg c15]
                          by_cases c16 : x1 = (12 : Int32)
                          · rw [if_pos c16]
                            refine j_tabIn (off := 136) (tgt := 137) h c16 dX12_about_1 (by decide) (by decide) (by decide) (by decide) ?_
                            refine j_aload_n h dX12_about_137 rfl ?_
                            refine gM_63 h dX12_about_138 ?_
                            exact j_iret h rfl dX12_about_141
                          · rw [if_neg c16]
                            refine j_tabOut (tgt := 142) h [(0 : Int32), (1 : Int32), (2 : Int32), (3 : Int32), (4 : Int32), (5 : Int32), (6 : Int32), (7 : Int32), (8 : Int32), (9 : Int32), (10 : Int32), (11 : Int32), (12 : Int32)] dX12_about_1 (by intro v hv; simp only [List.mem_cons, List.not_mem_nil, or_false] at hv; rcases hv with rfl | rfl | rfl | rfl | rfl | rfl | rfl | rfl | rfl | rfl | rfl | rfl | rfl <;> assumption) (by decide) (by decide) (by decide) ?_
                            refine j_iconst (v := (-1 : Int32)) h dX12_about_142 kiconst_m1 ?_
                            exact j_iret h rfl dX12_about_143
