theorem dX12_four_0 : DD cX12_four 0 (.bipush 24) 2 2 := ⟨by decide +kernel, rfl⟩
theorem dX12_four_2 : DD cX12_four 2 (.istore_n 2) 1 3 := ⟨by decide +kernel, rfl⟩
theorem dX12_four_3 : DD cX12_four 3 (.iload_n 2) 1 4 := ⟨by decide +kernel, rfl⟩
theorem dX12_four_4 : DD cX12_four 4 (.ifCond .lt 35) 3 7 := ⟨by decide +kernel, rfl⟩
theorem dX12_four_7 : DD cX12_four 7 (.aload_n 0) 1 8 := ⟨by decide +kernel, rfl⟩
theorem dX12_four_8 : DD cX12_four 8 (.getfield 7) 3 11 := ⟨by decide +kernel, rfl⟩
theorem dX12_four_11 : DD cX12_four 11 (.aload_n 0) 1 12 := ⟨by decide +kernel, rfl⟩
theorem dX12_four_12 : DD cX12_four 12 (.getfield 157) 3 15 := ⟨by decide +kernel, rfl⟩
theorem dX12_four_15 : DD cX12_four 15 (.iload_n 1) 1 16 := ⟨by decide +kernel, rfl⟩
theorem dX12_four_16 : DD cX12_four 16 (.iload_n 2) 1 17 := ⟨by decide +kernel, rfl⟩
theorem dX12_four_17 : DD cX12_four 17 (.ishr) 1 18 := ⟨by decide +kernel, rfl⟩
theorem dX12_four_18 : DD cX12_four 18 (.sipush 255) 3 21 := ⟨by decide +kernel, rfl⟩
theorem dX12_four_21 : DD cX12_four 21 (.iand) 1 22 := ⟨by decide +kernel, rfl⟩
theorem dX12_four_22 : DD cX12_four 22 (.iastore) 1 23 := ⟨by decide +kernel, rfl⟩
theorem dX12_four_23 : DD cX12_four 23 (.aload_n 0) 1 24 := ⟨by decide +kernel, rfl⟩
theorem dX12_four_24 : DD cX12_four 24 (.dup) 1 25 := ⟨by decide +kernel, rfl⟩
theorem dX12_four_25 : DD cX12_four 25 (.getfield 157) 3 28 := ⟨by decide +kernel, rfl⟩
theorem dX12_four_28 : DD cX12_four 28 (.iconst 1) 1 29 := ⟨by decide +kernel, rfl⟩
theorem dX12_four_29 : DD cX12_four 29 (.iadd) 1 30 := ⟨by decide +kernel, rfl⟩
theorem dX12_four_30 : DD cX12_four 30 (.putfield 157) 3 33 := ⟨by decide +kernel, rfl⟩
theorem dX12_four_33 : DD cX12_four 33 (.iinc 2 (-8)) 3 36 := ⟨by decide +kernel, rfl⟩
theorem dX12_four_36 : DD cX12_four 36 (.goto (-33)) 3 39 := ⟨by decide +kernel, rfl⟩
theorem dX12_four_39 : DD cX12_four 39 (.return_) 1 40 := ⟨by decide +kernel, rfl⟩
def gX12_four : Nat → Int32 → Int32 → Mem → Option Mem
  | 0, _, _, _ => none
  | f + 1, x1, x2, m => (if x2 < 0 then (some m) else (wr m 1 1600 (m.1 0 1) ((x1 >>> (x2 &&& 31)) &&& (255 : Int32)) fun m2 => (pt (sI m2 0 1 ((m2.1 0 1) + (1 : Int32))) fun m3 => (gX12_four f x1 (x2 + (-8 : Int32)) m3))))
def fX12_four (m : Mem) (x1 : Int32) : Option Mem := (gX12_four 5000 x1 (24 : Int32) m)
set_option maxHeartbeats 4000000 in
set_option maxRecDepth 100000 in
theorem wX12_four {X : Cx} {G : Gt} (h : OkX (X, G, wM, nM) cX12_four RX12 3 none 1) : ∀ f : Nat, (∀ (x1 : Int32) (x2 : Int32) (m : Mem), JR (X, G, wM, nM) cvV m 3 [some (.ref (G.2.2 0)), some (.int x1), some (.int x2)] [] (gX12_four f x1 x2 m)) := by
  intro f
  induction f with
  | zero => exact (fun _ _ _ => j_none)
  | succ f ih =>
    intro x1 x2 m
    rw [gX12_four]
    refine j_iload_n h dX12_four_3 rfl ?_
    refine j_if_lt (tgt := 39) h dX12_four_4 (by decide) (fun c1 => ?_) (fun c1 => ?_)
    · exact j_vret h rfl dX12_four_39
    · refine j_aload_n h dX12_four_7 rfl ?_
      refine gM_0 h dX12_four_8 ?_
      refine j_aload_n h dX12_four_11 rfl ?_
      refine gM_1 h dX12_four_12 ?_
      refine j_iload_n h dX12_four_15 rfl ?_
      refine j_iload_n h dX12_four_16 rfl ?_
      refine j_ishr h dX12_four_17 ?_
      refine j_sipush (v := (255 : Int32)) h dX12_four_18 ksipush_255 ?_
      refine j_iand h dX12_four_21 ?_
      refine bM_1 h dX12_four_22 (fun m2 hm2 => ?_)
      refine j_aload_n h dX12_four_23 rfl ?_
      refine j_dup h dX12_four_24 rfl ?_
      refine gM_1 h dX12_four_25 ?_
      refine j_iconst (v := (1 : Int32)) h dX12_four_28 kiconst_1 ?_
      refine j_iadd h dX12_four_29 ?_
      refine pM_1 h dX12_four_30 (fun m3 hm3 => ?_)
      refine j_iinc (v := (x2 + (-8 : Int32))) h dX12_four_33 rfl (by rw [kiconst_m8]) rfl ?_
      refine j_goto (tgt := 3) h dX12_four_36 (by decide) ?_
      refine j_wk (ls' := [some (.ref (G.2.2 0)), some (.int x1), some (.int (x2 + (-8 : Int32)))]) (And.intro rfl (And.intro rfl (And.intro rfl trivial))) ?_
      exact ih x1 (x2 + (-8 : Int32)) m3
set_option maxHeartbeats 4000000 in
set_option maxRecDepth 100000 in
theorem kX12_four (l : Launch) (G : Gt) (hD : ∀ m, va_D (inA G nM) (wM G m)) (m : Mem) (x1 : Int32) : ∀ a, fX12_four m x1 = some a → Ct l G wM nM yX12_four cX12_four 3 none 1 [.ref (G.2.2 0), .int x1] m (cvV a) := by
  refine ct_of (own := RX12) (ls0 := [some (.ref (G.2.2 0)), some (.int x1), none]) (by decide) rfl rfl rfl (Nat.le_of_ble_eq_true rfl) hD (fun X h => ?_) l
  unfold fX12_four
  refine j_bipush (v := (24 : Int32)) h dX12_four_0 kbipush_24 ?_
  refine j_istore_n h dX12_four_2 rfl rfl ?_
  refine j_wk (ls' := [some (.ref (G.2.2 0)), some (.int x1), some (.int (24 : Int32))]) (And.intro rfl (And.intro rfl (And.intro rfl trivial))) ?_
  exact (wX12_four h 5000) x1 (24 : Int32) m
theorem dX12_feed_0 : DD cX12_feed 0 (.aload_n 0) 1 1 := ⟨by decide +kernel, rfl⟩
theorem dX12_feed_1 : DD cX12_feed 1 (.getfield 157) 3 4 := ⟨by decide +kernel, rfl⟩
theorem dX12_feed_4 : DD cX12_feed 4 (.bipush 20) 2 6 := ⟨by decide +kernel, rfl⟩
theorem dX12_feed_6 : DD cX12_feed 6 (.iadd) 1 7 := ⟨by decide +kernel, rfl⟩
theorem dX12_feed_7 : DD cX12_feed 7 (.sipush 1600) 3 10 := ⟨by decide +kernel, rfl⟩
theorem dX12_feed_10 : DD cX12_feed 10 (.if_icmp .le 5) 3 13 := ⟨by decide +kernel, rfl⟩
theorem dX12_feed_13 : DD cX12_feed 13 (.iconst (-1)) 1 14 := ⟨by decide +kernel, rfl⟩
theorem dX12_feed_14 : DD cX12_feed 14 (.ireturn) 1 15 := ⟨by decide +kernel, rfl⟩
theorem dX12_feed_15 : DD cX12_feed 15 (.aload_n 0) 1 16 := ⟨by decide +kernel, rfl⟩
theorem dX12_feed_16 : DD cX12_feed 16 (.iload_n 1) 1 17 := ⟨by decide +kernel, rfl⟩
theorem dX12_feed_17 : DD cX12_feed 17 (.invokevirtual 160) 3 20 := ⟨by decide +kernel, rfl⟩
theorem dX12_feed_20 : DD cX12_feed 20 (.aload_n 0) 1 21 := ⟨by decide +kernel, rfl⟩
theorem dX12_feed_21 : DD cX12_feed 21 (.iload_n 2) 1 22 := ⟨by decide +kernel, rfl⟩
theorem dX12_feed_22 : DD cX12_feed 22 (.invokevirtual 160) 3 25 := ⟨by decide +kernel, rfl⟩
theorem dX12_feed_25 : DD cX12_feed 25 (.aload_n 0) 1 26 := ⟨by decide +kernel, rfl⟩
theorem dX12_feed_26 : DD cX12_feed 26 (.iload_n 3) 1 27 := ⟨by decide +kernel, rfl⟩
theorem dX12_feed_27 : DD cX12_feed 27 (.invokevirtual 160) 3 30 := ⟨by decide +kernel, rfl⟩
theorem dX12_feed_30 : DD cX12_feed 30 (.aload_n 0) 1 31 := ⟨by decide +kernel, rfl⟩
theorem dX12_feed_31 : DD cX12_feed 31 (.iload 4) 2 33 := ⟨by decide +kernel, rfl⟩
theorem dX12_feed_33 : DD cX12_feed 33 (.invokevirtual 160) 3 36 := ⟨by decide +kernel, rfl⟩
theorem dX12_feed_36 : DD cX12_feed 36 (.aload_n 0) 1 37 := ⟨by decide +kernel, rfl⟩
theorem dX12_feed_37 : DD cX12_feed 37 (.iload 5) 2 39 := ⟨by decide +kernel, rfl⟩
theorem dX12_feed_39 : DD cX12_feed 39 (.invokevirtual 160) 3 42 := ⟨by decide +kernel, rfl⟩
theorem dX12_feed_42 : DD cX12_feed 42 (.aload_n 0) 1 43 := ⟨by decide +kernel, rfl⟩
theorem dX12_feed_43 : DD cX12_feed 43 (.getfield 157) 3 46 := ⟨by decide +kernel, rfl⟩
theorem dX12_feed_46 : DD cX12_feed 46 (.ireturn) 1 47 := ⟨by decide +kernel, rfl⟩
def fX12_feed (m : Mem) (x1 : Int32) (x2 : Int32) (x3 : Int32) (x4 : Int32) (x5 : Int32) : Option (Int32 × Mem) := (if ((m.1 0 1) + (20 : Int32)) ≤ (1600 : Int32) then (cV (fX12_four m x1) fun m3 => (cV (fX12_four m3 x2) fun m5 => (cV (fX12_four m5 x3) fun m7 => (cV (fX12_four m7 x4) fun m9 => (cV (fX12_four m9 x5) fun m11 => (some ((m11.1 0 1), m11))))))) else (some ((-1 : Int32), m)))
set_option maxHeartbeats 4000000 in
set_option maxRecDepth 100000 in
theorem kX12_feed (l : Launch) (G : Gt) (hD : ∀ m, va_D (inA G nM) (wM G m)) (m : Mem) (x1 : Int32) (x2 : Int32) (x3 : Int32) (x4 : Int32) (x5 : Int32) : ∀ a, fX12_feed m x1 x2 x3 x4 x5 = some a → Ct l G wM nM yX12_feed cX12_feed 6 (some .int) 2 [.ref (G.2.2 0), .int x1, .int x2, .int x3, .int x4, .int x5] m (cvI a) := by
  refine ct_of (own := RX12) (ls0 := [some (.ref (G.2.2 0)), some (.int x1), some (.int x2), some (.int x3), some (.int x4), some (.int x5)]) (by decide) rfl rfl rfl (Nat.le_of_ble_eq_true rfl) hD (fun X h => ?_) l
  unfold fX12_feed
  refine j_aload_n h dX12_feed_0 rfl ?_
  refine gM_1 h dX12_feed_1 ?_
  refine j_bipush (v := (20 : Int32)) h dX12_feed_4 kbipush_20 ?_
  refine j_iadd h dX12_feed_6 ?_
  refine j_sipush (v := (1600 : Int32)) h dX12_feed_7 ksipush_1600 ?_
  refine j_icmp_le (tgt := 15) h dX12_feed_10 (by decide) (fun c1 => ?_) (fun c1 => ?_)
  · refine j_aload_n h dX12_feed_15 rfl ?_
    refine j_iload_n h dX12_feed_16 rfl ?_
    refine j_callVV (q0 := 0) (ci := 12) h [.int x1] (kX12_four _ G h.2.2.2.2.2.2.2.2.2.2 m x1) okX12_four inX12_four ml12_160 rfl rfl rfl rfl (by decide) (by decide) (Nat.le_of_ble_eq_true rfl) rfl dX12_feed_17 (fun m3 hm3 => ?_)
    refine j_aload_n h dX12_feed_20 rfl ?_
    refine j_iload_n h dX12_feed_21 rfl ?_
    refine j_callVV (q0 := 0) (ci := 12) h [.int x2] (kX12_four _ G h.2.2.2.2.2.2.2.2.2.2 m3 x2) okX12_four inX12_four ml12_160 rfl rfl rfl rfl (by decide) (by decide) (Nat.le_of_ble_eq_true rfl) rfl dX12_feed_22 (fun m5 hm5 => ?_)
    refine j_aload_n h dX12_feed_25 rfl ?_
    refine j_iload_n h dX12_feed_26 rfl ?_
    refine j_callVV (q0 := 0) (ci := 12) h [.int x3] (kX12_four _ G h.2.2.2.2.2.2.2.2.2.2 m5 x3) okX12_four inX12_four ml12_160 rfl rfl rfl rfl (by decide) (by decide) (Nat.le_of_ble_eq_true rfl) rfl dX12_feed_27 (fun m7 hm7 => ?_)
    refine j_aload_n h dX12_feed_30 rfl ?_
    refine j_iload h dX12_feed_31 rfl ?_
    refine j_callVV (q0 := 0) (ci := 12) h [.int x4] (kX12_four _ G h.2.2.2.2.2.2.2.2.2.2 m7 x4) okX12_four inX12_four ml12_160 rfl rfl rfl rfl (by decide) (by decide) (Nat.le_of_ble_eq_true rfl) rfl dX12_feed_33 (fun m9 hm9 => ?_)
    refine j_aload_n h dX12_feed_36 rfl ?_
    refine j_iload h dX12_feed_37 rfl ?_
    refine j_callVV (q0 := 0) (ci := 12) h [.int x5] (kX12_four _ G h.2.2.2.2.2.2.2.2.2.2 m9 x5) okX12_four inX12_four ml12_160 rfl rfl rfl rfl (by decide) (by decide) (Nat.le_of_ble_eq_true rfl) rfl dX12_feed_39 (fun m11 hm11 => ?_)
    refine j_aload_n h dX12_feed_42 rfl ?_
    refine gM_1 h dX12_feed_43 ?_
    exact j_iret h rfl dX12_feed_46
  · refine j_iconst (v := (-1 : Int32)) h dX12_feed_13 kiconst_m1 ?_
    exact j_iret h rfl dX12_feed_14
theorem dX12_end_0 : DD cX12_end 0 (.iload_n 1) 1 1 := ⟨by decide +kernel, rfl⟩
theorem dX12_end_1 : DD cX12_end 1 (.ifCond .lt 11) 3 4 := ⟨by decide +kernel, rfl⟩
theorem dX12_end_4 : DD cX12_end 4 (.iload_n 1) 1 5 := ⟨by decide +kernel, rfl⟩
theorem dX12_end_5 : DD cX12_end 5 (.aload_n 0) 1 6 := ⟨by decide +kernel, rfl⟩
theorem dX12_end_6 : DD cX12_end 6 (.getfield 157) 3 9 := ⟨by decide +kernel, rfl⟩
theorem dX12_end_9 : DD cX12_end 9 (.if_icmp .le 5) 3 12 := ⟨by decide +kernel, rfl⟩
theorem dX12_end_12 : DD cX12_end 12 (.iconst (-1)) 1 13 := ⟨by decide +kernel, rfl⟩
theorem dX12_end_13 : DD cX12_end 13 (.ireturn) 1 14 := ⟨by decide +kernel, rfl⟩
theorem dX12_end_14 : DD cX12_end 14 (.aload_n 0) 1 15 := ⟨by decide +kernel, rfl⟩
theorem dX12_end_15 : DD cX12_end 15 (.iload_n 1) 1 16 := ⟨by decide +kernel, rfl⟩
theorem dX12_end_16 : DD cX12_end 16 (.putfield 157) 3 19 := ⟨by decide +kernel, rfl⟩
theorem dX12_end_19 : DD cX12_end 19 (.iload_n 1) 1 20 := ⟨by decide +kernel, rfl⟩
theorem dX12_end_20 : DD cX12_end 20 (.ireturn) 1 21 := ⟨by decide +kernel, rfl⟩
def fX12_end (m : Mem) (x1 : Int32) : Option (Int32 × Mem) := (if x1 < 0 then (some ((-1 : Int32), m)) else (if x1 ≤ (m.1 0 1) then (pt (sI m 0 1 x1) fun m3 => (some (x1, m3))) else (some ((-1 : Int32), m))))
set_option maxHeartbeats 4000000 in
set_option maxRecDepth 100000 in
theorem kX12_end (l : Launch) (G : Gt) (hD : ∀ m, va_D (inA G nM) (wM G m)) (m : Mem) (x1 : Int32) : ∀ a, fX12_end m x1 = some a → Ct l G wM nM yX12_end cX12_end 2 (some .int) 1 [.ref (G.2.2 0), .int x1] m (cvI a) := by
  refine ct_of (own := RX12) (ls0 := [some (.ref (G.2.2 0)), some (.int x1)]) (by decide) rfl rfl rfl (Nat.le_of_ble_eq_true rfl) hD (fun X h => ?_) l
  unfold fX12_end
  refine j_iload_n h dX12_end_0 rfl ?_
  refine j_if_lt (tgt := 12) h dX12_end_1 (by decide) (fun c1 => ?_) (fun c1 => ?_)
  · refine j_iconst (v := (-1 : Int32)) h dX12_end_12 kiconst_m1 ?_
    exact j_iret h rfl dX12_end_13
  · refine j_iload_n h dX12_end_4 rfl ?_
    refine j_aload_n h dX12_end_5 rfl ?_
    refine gM_1 h dX12_end_6 ?_
    refine j_icmp_le (tgt := 14) h dX12_end_9 (by decide) (fun c2 => ?_) (fun c2 => ?_)
    · refine j_aload_n h dX12_end_14 rfl ?_
      refine j_iload_n h dX12_end_15 rfl ?_
      refine pM_1 h dX12_end_16 (fun m3 hm3 => ?_)
      refine j_iload_n h dX12_end_19 rfl ?_
      exact j_iret h rfl dX12_end_20
    · refine j_iconst (v := (-1 : Int32)) h dX12_end_12 kiconst_m1 ?_
      exact j_iret h rfl dX12_end_13
theorem dX12_here_0 : DD cX12_here 0 (.aload_n 0) 1 1 := ⟨by decide +kernel, rfl⟩
theorem dX12_here_1 : DD cX12_here 1 (.getfield 164) 3 4 := ⟨by decide +kernel, rfl⟩
theorem dX12_here_4 : DD cX12_here 4 (.iload_n 1) 1 5 := ⟨by decide +kernel, rfl⟩
theorem dX12_here_5 : DD cX12_here 5 (.iadd) 1 6 := ⟨by decide +kernel, rfl⟩
theorem dX12_here_6 : DD cX12_here 6 (.aload_n 0) 1 7 := ⟨by decide +kernel, rfl⟩
theorem dX12_here_7 : DD cX12_here 7 (.getfield 167) 3 10 := ⟨by decide +kernel, rfl⟩
theorem dX12_here_10 : DD cX12_here 10 (.if_icmp .ge 17) 3 13 := ⟨by decide +kernel, rfl⟩
theorem dX12_here_13 : DD cX12_here 13 (.aload_n 0) 1 14 := ⟨by decide +kernel, rfl⟩
theorem dX12_here_14 : DD cX12_here 14 (.getfield 7) 3 17 := ⟨by decide +kernel, rfl⟩
theorem dX12_here_17 : DD cX12_here 17 (.aload_n 0) 1 18 := ⟨by decide +kernel, rfl⟩
theorem dX12_here_18 : DD cX12_here 18 (.getfield 164) 3 21 := ⟨by decide +kernel, rfl⟩
theorem dX12_here_21 : DD cX12_here 21 (.iload_n 1) 1 22 := ⟨by decide +kernel, rfl⟩
theorem dX12_here_22 : DD cX12_here 22 (.iadd) 1 23 := ⟨by decide +kernel, rfl⟩
theorem dX12_here_23 : DD cX12_here 23 (.iaload) 1 24 := ⟨by decide +kernel, rfl⟩
theorem dX12_here_24 : DD cX12_here 24 (.goto 4) 3 27 := ⟨by decide +kernel, rfl⟩
theorem dX12_here_27 : DD cX12_here 27 (.iconst (-1)) 1 28 := ⟨by decide +kernel, rfl⟩
theorem dX12_here_28 : DD cX12_here 28 (.ireturn) 1 29 := ⟨by decide +kernel, rfl⟩
def fX12_here (m : Mem) (x1 : Int32) : Option Int32 := (if (m.1 0 5) ≤ ((m.1 0 4) + x1) then (some (-1 : Int32)) else (rd (m.1 1) 1600 ((m.1 0 4) + x1) fun v2 => (some v2)))
set_option maxHeartbeats 4000000 in
set_option maxRecDepth 100000 in
theorem kX12_here (l : Launch) (G : Gt) (hD : ∀ m, va_D (inA G nM) (wM G m)) (m : Mem) (x1 : Int32) : ∀ a, fX12_here m x1 = some a → Ct l G wM nM yX12_here cX12_here 2 (some .int) 1 [.ref (G.2.2 0), .int x1] m ((cvP m) a) := by
  refine ct_of (own := RX12) (ls0 := [some (.ref (G.2.2 0)), some (.int x1)]) (by decide) rfl rfl rfl (Nat.le_of_ble_eq_true rfl) hD (fun X h => ?_) l
  unfold fX12_here
  refine j_aload_n h dX12_here_0 rfl ?_
  refine gM_4 h dX12_here_1 ?_
  refine j_iload_n h dX12_here_4 rfl ?_
  refine j_iadd h dX12_here_5 ?_
  refine j_aload_n h dX12_here_6 rfl ?_
  refine gM_5 h dX12_here_7 ?_
  refine j_icmp_ge (tgt := 27) h dX12_here_10 (by decide) (fun c1 => ?_) (fun c1 => ?_)
  · refine j_iconst (v := (-1 : Int32)) h dX12_here_27 kiconst_m1 ?_
    exact j_iret h rfl dX12_here_28
  · refine j_aload_n h dX12_here_13 rfl ?_
    refine gM_0 h dX12_here_14 ?_
    refine j_aload_n h dX12_here_17 rfl ?_
    refine gM_4 h dX12_here_18 ?_
    refine j_iload_n h dX12_here_21 rfl ?_
    refine j_iadd h dX12_here_22 ?_
    refine aM_1 h dX12_here_23 (fun v2 hv2 => ?_)
    refine j_goto (tgt := 28) h dX12_here_24 (by decide) ?_
    exact j_iret h rfl dX12_here_28
theorem dX12_isLetter_0 : DD cX12_isLetter 0 (.iload_n 0) 1 1 := ⟨by decide +kernel, rfl⟩
theorem dX12_isLetter_1 : DD cX12_isLetter 1 (.bipush 97) 2 3 := ⟨by decide +kernel, rfl⟩
theorem dX12_isLetter_3 : DD cX12_isLetter 3 (.if_icmp .lt 13) 3 6 := ⟨by decide +kernel, rfl⟩
theorem dX12_isLetter_6 : DD cX12_isLetter 6 (.iload_n 0) 1 7 := ⟨by decide +kernel, rfl⟩
theorem dX12_isLetter_7 : DD cX12_isLetter 7 (.bipush 122) 2 9 := ⟨by decide +kernel, rfl⟩
theorem dX12_isLetter_9 : DD cX12_isLetter 9 (.if_icmp .gt 7) 3 12 := ⟨by decide +kernel, rfl⟩
theorem dX12_isLetter_12 : DD cX12_isLetter 12 (.iconst 1) 1 13 := ⟨by decide +kernel, rfl⟩
theorem dX12_isLetter_13 : DD cX12_isLetter 13 (.goto 4) 3 16 := ⟨by decide +kernel, rfl⟩
theorem dX12_isLetter_16 : DD cX12_isLetter 16 (.iconst 0) 1 17 := ⟨by decide +kernel, rfl⟩
theorem dX12_isLetter_17 : DD cX12_isLetter 17 (.ireturn) 1 18 := ⟨by decide +kernel, rfl⟩
def fX12_isLetter (x0 : Int32) : Option Int32 := (if x0 < (97 : Int32) then (some (0 : Int32)) else (if (122 : Int32) < x0 then (some (0 : Int32)) else (some (1 : Int32))))
set_option maxHeartbeats 4000000 in
set_option maxRecDepth 100000 in
theorem kX12_isLetter (l : Launch) (G : Gt) (hD : ∀ m, va_D (inA G nM) (wM G m)) (m : Mem) (x0 : Int32) : ∀ a, fX12_isLetter x0 = some a → Ct l G wM nM yX12_isLetter cX12_isLetter 1 (some .boolean) 1 [.int x0] m ((cvP m) a) := by
  refine ct_of (own := RX12) (ls0 := [some (.int x0)]) (by decide) rfl rfl rfl (Nat.le_of_ble_eq_true rfl) hD (fun X h => ?_) l
  unfold fX12_isLetter
  refine j_iload_n h dX12_isLetter_0 rfl ?_
  refine j_bipush (v := (97 : Int32)) h dX12_isLetter_1 kbipush_97 ?_
  refine j_icmp_lt (tgt := 16) h dX12_isLetter_3 (by decide) (fun c1 => ?_) (fun c1 => ?_)
  · refine j_iconst (v := (0 : Int32)) h dX12_isLetter_16 kiconst_0 ?_
    exact j_zretB h rfl rfl dX12_isLetter_17
  · refine j_iload_n h dX12_isLetter_6 rfl ?_
    refine j_bipush (v := (122 : Int32)) h dX12_isLetter_7 kbipush_122 ?_
    refine j_icmp_gt (tgt := 16) h dX12_isLetter_9 (by decide) (fun c2 => ?_) (fun c2 => ?_)
    · refine j_iconst (v := (0 : Int32)) h dX12_isLetter_16 kiconst_0 ?_
      exact j_zretB h rfl rfl dX12_isLetter_17
    · refine j_iconst (v := (1 : Int32)) h dX12_isLetter_12 kiconst_1 ?_
      refine j_goto (tgt := 17) h dX12_isLetter_13 (by decide) ?_
      exact j_zretB h rfl rfl dX12_isLetter_17
theorem dX12_isDigit_0 : DD cX12_isDigit 0 (.iload_n 0) 1 1 := ⟨by decide +kernel, rfl⟩
theorem dX12_isDigit_1 : DD cX12_isDigit 1 (.bipush 48) 2 3 := ⟨by decide +kernel, rfl⟩
theorem dX12_isDigit_3 : DD cX12_isDigit 3 (.if_icmp .lt 13) 3 6 := ⟨by decide +kernel, rfl⟩
theorem dX12_isDigit_6 : DD cX12_isDigit 6 (.iload_n 0) 1 7 := ⟨by decide +kernel, rfl⟩
theorem dX12_isDigit_7 : DD cX12_isDigit 7 (.bipush 57) 2 9 := ⟨by decide +kernel, rfl⟩
theorem dX12_isDigit_9 : DD cX12_isDigit 9 (.if_icmp .gt 7) 3 12 := ⟨by decide +kernel, rfl⟩
theorem dX12_isDigit_12 : DD cX12_isDigit 12 (.iconst 1) 1 13 := ⟨by decide +kernel, rfl⟩
theorem dX12_isDigit_13 : DD cX12_isDigit 13 (.goto 4) 3 16 := ⟨by decide +kernel, rfl⟩
theorem dX12_isDigit_16 : DD cX12_isDigit 16 (.iconst 0) 1 17 := ⟨by decide +kernel, rfl⟩
theorem dX12_isDigit_17 : DD cX12_isDigit 17 (.ireturn) 1 18 := ⟨by decide +kernel, rfl⟩
def fX12_isDigit (x0 : Int32) : Option Int32 := (if x0 < (48 : Int32) then (some (0 : Int32)) else (if (57 : Int32) < x0 then (some (0 : Int32)) else (some (1 : Int32))))
set_option maxHeartbeats 4000000 in
set_option maxRecDepth 100000 in
theorem kX12_isDigit (l : Launch) (G : Gt) (hD : ∀ m, va_D (inA G nM) (wM G m)) (m : Mem) (x0 : Int32) : ∀ a, fX12_isDigit x0 = some a → Ct l G wM nM yX12_isDigit cX12_isDigit 1 (some .boolean) 1 [.int x0] m ((cvP m) a) := by
  refine ct_of (own := RX12) (ls0 := [some (.int x0)]) (by decide) rfl rfl rfl (Nat.le_of_ble_eq_true rfl) hD (fun X h => ?_) l
  unfold fX12_isDigit
  refine j_iload_n h dX12_isDigit_0 rfl ?_
  refine j_bipush (v := (48 : Int32)) h dX12_isDigit_1 kbipush_48 ?_
  refine j_icmp_lt (tgt := 16) h dX12_isDigit_3 (by decide) (fun c1 => ?_) (fun c1 => ?_)
  · refine j_iconst (v := (0 : Int32)) h dX12_isDigit_16 kiconst_0 ?_
    exact j_zretB h rfl rfl dX12_isDigit_17
  · refine j_iload_n h dX12_isDigit_6 rfl ?_
    refine j_bipush (v := (57 : Int32)) h dX12_isDigit_7 kbipush_57 ?_
    refine j_icmp_gt (tgt := 16) h dX12_isDigit_9 (by decide) (fun c2 => ?_) (fun c2 => ?_)
    · refine j_iconst (v := (0 : Int32)) h dX12_isDigit_16 kiconst_0 ?_
      exact j_zretB h rfl rfl dX12_isDigit_17
    · refine j_iconst (v := (1 : Int32)) h dX12_isDigit_12 kiconst_1 ?_
      refine j_goto (tgt := 17) h dX12_isDigit_13 (by decide) ?_
      exact j_zretB h rfl rfl dX12_isDigit_17
theorem dX12_isSign_0 : DD cX12_isSign 0 (.iload_n 0) 1 1 := ⟨by decide +kernel, rfl⟩
theorem dX12_isSign_1 : DD cX12_isSign 1 (.bipush 59) 2 3 := ⟨by decide +kernel, rfl⟩
theorem dX12_isSign_3 : DD cX12_isSign 3 (.if_icmp .eq 63) 3 6 := ⟨by decide +kernel, rfl⟩
theorem dX12_isSign_6 : DD cX12_isSign 6 (.iload_n 0) 1 7 := ⟨by decide +kernel, rfl⟩
theorem dX12_isSign_7 : DD cX12_isSign 7 (.bipush 40) 2 9 := ⟨by decide +kernel, rfl⟩
theorem dX12_isSign_9 : DD cX12_isSign 9 (.if_icmp .eq 57) 3 12 := ⟨by decide +kernel, rfl⟩
theorem dX12_isSign_12 : DD cX12_isSign 12 (.iload_n 0) 1 13 := ⟨by decide +kernel, rfl⟩
theorem dX12_isSign_13 : DD cX12_isSign 13 (.bipush 41) 2 15 := ⟨by decide +kernel, rfl⟩
theorem dX12_isSign_15 : DD cX12_isSign 15 (.if_icmp .eq 51) 3 18 := ⟨by decide +kernel, rfl⟩
theorem dX12_isSign_18 : DD cX12_isSign 18 (.iload_n 0) 1 19 := ⟨by decide +kernel, rfl⟩
theorem dX12_isSign_19 : DD cX12_isSign 19 (.bipush 60) 2 21 := ⟨by decide +kernel, rfl⟩
theorem dX12_isSign_21 : DD cX12_isSign 21 (.if_icmp .eq 45) 3 24 := ⟨by decide +kernel, rfl⟩
theorem dX12_isSign_24 : DD cX12_isSign 24 (.iload_n 0) 1 25 := ⟨by decide +kernel, rfl⟩
theorem dX12_isSign_25 : DD cX12_isSign 25 (.bipush 62) 2 27 := ⟨by decide +kernel, rfl⟩
theorem dX12_isSign_27 : DD cX12_isSign 27 (.if_icmp .eq 39) 3 30 := ⟨by decide +kernel, rfl⟩
theorem dX12_isSign_30 : DD cX12_isSign 30 (.iload_n 0) 1 31 := ⟨by decide +kernel, rfl⟩
theorem dX12_isSign_31 : DD cX12_isSign 31 (.bipush 61) 2 33 := ⟨by decide +kernel, rfl⟩
theorem dX12_isSign_33 : DD cX12_isSign 33 (.if_icmp .eq 33) 3 36 := ⟨by decide +kernel, rfl⟩
theorem dX12_isSign_36 : DD cX12_isSign 36 (.iload_n 0) 1 37 := ⟨by decide +kernel, rfl⟩
theorem dX12_isSign_37 : DD cX12_isSign 37 (.bipush 43) 2 39 := ⟨by decide +kernel, rfl⟩
theorem dX12_isSign_39 : DD cX12_isSign 39 (.if_icmp .eq 27) 3 42 := ⟨by decide +kernel, rfl⟩
theorem dX12_isSign_42 : DD cX12_isSign 42 (.iload_n 0) 1 43 := ⟨by decide +kernel, rfl⟩
theorem dX12_isSign_43 : DD cX12_isSign 43 (.bipush 45) 2 45 := ⟨by decide +kernel, rfl⟩
theorem dX12_isSign_45 : DD cX12_isSign 45 (.if_icmp .eq 21) 3 48 := ⟨by decide +kernel, rfl⟩
theorem dX12_isSign_48 : DD cX12_isSign 48 (.iload_n 0) 1 49 := ⟨by decide +kernel, rfl⟩
theorem dX12_isSign_49 : DD cX12_isSign 49 (.bipush 42) 2 51 := ⟨by decide +kernel, rfl⟩
theorem dX12_isSign_51 : DD cX12_isSign 51 (.if_icmp .eq 15) 3 54 := ⟨by decide +kernel, rfl⟩
theorem dX12_isSign_54 : DD cX12_isSign 54 (.iload_n 0) 1 55 := ⟨by decide +kernel, rfl⟩
theorem dX12_isSign_55 : DD cX12_isSign 55 (.bipush 47) 2 57 := ⟨by decide +kernel, rfl⟩
theorem dX12_isSign_57 : DD cX12_isSign 57 (.if_icmp .eq 9) 3 60 := ⟨by decide +kernel, rfl⟩
theorem dX12_isSign_60 : DD cX12_isSign 60 (.iload_n 0) 1 61 := ⟨by decide +kernel, rfl⟩
theorem dX12_isSign_61 : DD cX12_isSign 61 (.bipush 37) 2 63 := ⟨by decide +kernel, rfl⟩
theorem dX12_isSign_63 : DD cX12_isSign 63 (.if_icmp .ne 7) 3 66 := ⟨by decide +kernel, rfl⟩
theorem dX12_isSign_66 : DD cX12_isSign 66 (.iconst 1) 1 67 := ⟨by decide +kernel, rfl⟩
theorem dX12_isSign_67 : DD cX12_isSign 67 (.goto 4) 3 70 := ⟨by decide +kernel, rfl⟩
theorem dX12_isSign_70 : DD cX12_isSign 70 (.iconst 0) 1 71 := ⟨by decide +kernel, rfl⟩
theorem dX12_isSign_71 : DD cX12_isSign 71 (.ireturn) 1 72 := ⟨by decide +kernel, rfl⟩
def fX12_isSign (x0 : Int32) : Option Int32 := (if x0 = (59 : Int32) then (some (1 : Int32)) else (if x0 = (40 : Int32) then (some (1 : Int32)) else (if x0 = (41 : Int32) then (some (1 : Int32)) else (if x0 = (60 : Int32) then (some (1 : Int32)) else (if x0 = (62 : Int32) then (some (1 : Int32)) else (if x0 = (61 : Int32) then (some (1 : Int32)) else (if x0 = (43 : Int32) then (some (1 : Int32)) else (if x0 = (45 : Int32) then (some (1 : Int32)) else (if x0 = (42 : Int32) then (some (1 : Int32)) else (if x0 = (47 : Int32) then (some (1 : Int32)) else (if x0 = (37 : Int32) then (some (1 : Int32)) else (some (0 : Int32)))))))))))))
set_option maxHeartbeats 4000000 in
set_option maxRecDepth 100000 in
theorem kX12_isSign (l : Launch) (G : Gt) (hD : ∀ m, va_D (inA G nM) (wM G m)) (m : Mem) (x0 : Int32) : ∀ a, fX12_isSign x0 = some a → Ct l G wM nM yX12_isSign cX12_isSign 1 (some .boolean) 1 [.int x0] m ((cvP m) a) := by
  refine ct_of (own := RX12) (ls0 := [some (.int x0)]) (by decide) rfl rfl rfl (Nat.le_of_ble_eq_true rfl) hD (fun X h => ?_) l
  unfold fX12_isSign
  refine j_iload_n h dX12_isSign_0 rfl ?_
  refine j_bipush (v := (59 : Int32)) h dX12_isSign_1 kbipush_59 ?_
  refine j_icmp_eq (tgt := 66) h dX12_isSign_3 (by decide) (fun c1 => ?_) (fun c1 => ?_)
  · refine j_iconst (v := (1 : Int32)) h dX12_isSign_66 kiconst_1 ?_
    refine j_goto (tgt := 71) h dX12_isSign_67 (by decide) ?_
    exact j_zretB h rfl rfl dX12_isSign_71
  · refine j_iload_n h dX12_isSign_6 rfl ?_
    refine j_bipush (v := (40 : Int32)) h dX12_isSign_7 kbipush_40 ?_
    refine j_icmp_eq (tgt := 66) h dX12_isSign_9 (by decide) (fun c2 => ?_) (fun c2 => ?_)
    · refine j_iconst (v := (1 : Int32)) h dX12_isSign_66 kiconst_1 ?_
      refine j_goto (tgt := 71) h dX12_isSign_67 (by decide) ?_
      exact j_zretB h rfl rfl dX12_isSign_71
    · refine j_iload_n h dX12_isSign_12 rfl ?_
      refine j_bipush (v := (41 : Int32)) h dX12_isSign_13 kbipush_41 ?_
      refine j_icmp_eq (tgt := 66) h dX12_isSign_15 (by decide) (fun c3 => ?_) (fun c3 => ?_)
      · refine j_iconst (v := (1 : Int32)) h dX12_isSign_66 kiconst_1 ?_
        refine j_goto (tgt := 71) h dX12_isSign_67 (by decide) ?_
        exact j_zretB h rfl rfl dX12_isSign_71
      · refine j_iload_n h dX12_isSign_18 rfl ?_
        refine j_bipush (v := (60 : Int32)) h dX12_isSign_19 kbipush_60 ?_
        refine j_icmp_eq (tgt := 66) h dX12_isSign_21 (by decide) (fun c4 => ?_) (fun c4 => ?_)
        · refine j_iconst (v := (1 : Int32)) h dX12_isSign_66 kiconst_1 ?_
          refine j_goto (tgt := 71) h dX12_isSign_67 (by decide) ?_
          exact j_zretB h rfl rfl dX12_isSign_71
        · refine j_iload_n h dX12_isSign_24 rfl ?_
          refine j_bipush (v := (62 : Int32)) h dX12_isSign_25 kbipush_62 ?_
          refine j_icmp_eq (tgt := 66) h dX12_isSign_27 (by decide) (fun c5 => ?_) (fun c5 => ?_)
          · refine j_iconst (v := (1 : Int32)) h dX12_isSign_66 kiconst_1 ?_
            refine j_goto (tgt := 71) h dX12_isSign_67 (by decide) ?_
            exact j_zretB h rfl rfl dX12_isSign_71
          · refine j_iload_n h dX12_isSign_30 rfl ?_
            refine j_bipush (v := (61 : Int32)) h dX12_isSign_31 kbipush_61 ?_
            refine j_icmp_eq (tgt := 66) h dX12_isSign_33 (by decide) (fun c6 => ?_) (fun c6 => ?_)
            · refine j_iconst (v := (1 : Int32)) h dX12_isSign_66 kiconst_1 ?_
              refine j_goto (tgt := 71) h dX12_isSign_67 (by decide) ?_
              exact j_zretB h rfl rfl dX12_isSign_71
            · refine j_iload_n h dX12_isSign_36 rfl ?_
              refine j_bipush (v := (43 : Int32)) h dX12_isSign_37 kbipush_43 ?_
              refine j_icmp_eq (tgt := 66) h dX12_isSign_39 (by decide) (fun c7 => ?_) (fun c7 => ?_)
              · refine j_iconst (v := (1 : Int32)) h dX12_isSign_66 kiconst_1 ?_
                refine j_goto (tgt := 71) h dX12_isSign_67 (by decide) ?_
                exact j_zretB h rfl rfl dX12_isSign_71
              · refine j_iload_n h dX12_isSign_42 rfl ?_
                refine j_bipush (v := (45 : Int32)) h dX12_isSign_43 kbipush_45 ?_
                refine j_icmp_eq (tgt := 66) h dX12_isSign_45 (by decide) (fun c8 => ?_) (fun c8 => ?_)
                · refine j_iconst (v := (1 : Int32)) h dX12_isSign_66 kiconst_1 ?_
                  refine j_goto (tgt := 71) h dX12_isSign_67 (by decide) ?_
                  exact j_zretB h rfl rfl dX12_isSign_71
                · refine j_iload_n h dX12_isSign_48 rfl ?_
                  refine j_bipush (v := (42 : Int32)) h dX12_isSign_49 kbipush_42 ?_
                  refine j_icmp_eq (tgt := 66) h dX12_isSign_51 (by decide) (fun c9 => ?_) (fun c9 => ?_)
                  · refine j_iconst (v := (1 : Int32)) h dX12_isSign_66 kiconst_1 ?_
                    refine j_goto (tgt := 71) h dX12_isSign_67 (by decide) ?_
                    exact j_zretB h rfl rfl dX12_isSign_71
                  · refine j_iload_n h dX12_isSign_54 rfl ?_
                    refine j_bipush (v := (47 : Int32)) h dX12_isSign_55 kbipush_47 ?_
                    refine j_icmp_eq (tgt := 66) h dX12_isSign_57 (by decide) (fun c10 => ?_) (fun c10 => ?_)
                    · refine j_iconst (v := (1 : Int32)) h dX12_isSign_66 kiconst_1 ?_
                      refine j_goto (tgt := 71) h dX12_isSign_67 (by decide) ?_
                      exact j_zretB h rfl rfl dX12_isSign_71
                    · refine j_iload_n h dX12_isSign_60 rfl ?_
                      refine j_bipush (v := (37 : Int32)) h dX12_isSign_61 kbipush_37 ?_
                      refine j_icmp_ne (tgt := 70) h dX12_isSign_63 (by decide) (fun c11 => ?_) (fun c11 => ?_)
                      · refine j_iconst (v := (0 : Int32)) h dX12_isSign_70 kiconst_0 ?_
                        exact j_zretB h rfl rfl dX12_isSign_71
                      · refine j_iconst (v := (1 : Int32)) h dX12_isSign_66 kiconst_1 ?_
                        refine j_goto (tgt := 71) h dX12_isSign_67 (by decide) ?_
                        exact j_zretB h rfl rfl dX12_isSign_71
theorem dX12_token_0 : DD cX12_token 0 (.aload_n 0) 1 1 := ⟨by decide +kernel, rfl⟩
theorem dX12_token_1 : DD cX12_token 1 (.iconst 0) 1 2 := ⟨by decide +kernel, rfl⟩
theorem dX12_token_2 : DD cX12_token 2 (.invokevirtual 170) 3 5 := ⟨by decide +kernel, rfl⟩
theorem dX12_token_5 : DD cX12_token 5 (.bipush 32) 2 7 := ⟨by decide +kernel, rfl⟩
theorem dX12_token_7 : DD cX12_token 7 (.if_icmp .eq 13) 3 10 := ⟨by decide +kernel, rfl⟩
theorem dX12_token_10 : DD cX12_token 10 (.aload_n 0) 1 11 := ⟨by decide +kernel, rfl⟩
theorem dX12_token_11 : DD cX12_token 11 (.iconst 0) 1 12 := ⟨by decide +kernel, rfl⟩
theorem dX12_token_12 : DD cX12_token 12 (.invokevirtual 170) 3 15 := ⟨by decide +kernel, rfl⟩
theorem dX12_token_15 : DD cX12_token 15 (.bipush 10) 2 17 := ⟨by decide +kernel, rfl⟩
theorem dX12_token_17 : DD cX12_token 17 (.if_icmp .ne 16) 3 20 := ⟨by decide +kernel, rfl⟩
theorem dX12_token_20 : DD cX12_token 20 (.aload_n 0) 1 21 := ⟨by decide +kernel, rfl⟩
theorem dX12_token_21 : DD cX12_token 21 (.dup) 1 22 := ⟨by decide +kernel, rfl⟩
theorem dX12_token_22 : DD cX12_token 22 (.getfield 164) 3 25 := ⟨by decide +kernel, rfl⟩
theorem dX12_token_25 : DD cX12_token 25 (.iconst 1) 1 26 := ⟨by decide +kernel, rfl⟩
theorem dX12_token_26 : DD cX12_token 26 (.iadd) 1 27 := ⟨by decide +kernel, rfl⟩
theorem dX12_token_27 : DD cX12_token 27 (.putfield 164) 3 30 := ⟨by decide +kernel, rfl⟩
theorem dX12_token_30 : DD cX12_token 30 (.goto (-30)) 3 33 := ⟨by decide +kernel, rfl⟩
theorem dX12_token_33 : DD cX12_token 33 (.aload_n 0) 1 34 := ⟨by decide +kernel, rfl⟩
theorem dX12_token_34 : DD cX12_token 34 (.aload_n 0) 1 35 := ⟨by decide +kernel, rfl⟩
theorem dX12_token_35 : DD cX12_token 35 (.getfield 164) 3 38 := ⟨by decide +kernel, rfl⟩
theorem dX12_token_38 : DD cX12_token 38 (.putfield 174) 3 41 := ⟨by decide +kernel, rfl⟩
theorem dX12_token_41 : DD cX12_token 41 (.aload_n 0) 1 42 := ⟨by decide +kernel, rfl⟩
theorem dX12_token_42 : DD cX12_token 42 (.iconst 0) 1 43 := ⟨by decide +kernel, rfl⟩
theorem dX12_token_43 : DD cX12_token 43 (.invokevirtual 170) 3 46 := ⟨by decide +kernel, rfl⟩
theorem dX12_token_46 : DD cX12_token 46 (.istore_n 1) 1 47 := ⟨by decide +kernel, rfl⟩
theorem dX12_token_47 : DD cX12_token 47 (.iconst 0) 1 48 := ⟨by decide +kernel, rfl⟩
theorem dX12_token_48 : DD cX12_token 48 (.istore_n 2) 1 49 := ⟨by decide +kernel, rfl⟩
theorem dX12_token_49 : DD cX12_token 49 (.aload_n 0) 1 50 := ⟨by decide +kernel, rfl⟩
theorem dX12_token_50 : DD cX12_token 50 (.lconst 0) 1 51 := ⟨by decide +kernel, rfl⟩
theorem dX12_token_51 : DD cX12_token 51 (.putfield 177) 3 54 := ⟨by decide +kernel, rfl⟩
theorem dX12_token_54 : DD cX12_token 54 (.aload_n 0) 1 55 := ⟨by decide +kernel, rfl⟩
theorem dX12_token_55 : DD cX12_token 55 (.iconst 0) 1 56 := ⟨by decide +kernel, rfl⟩
theorem dX12_token_56 : DD cX12_token 56 (.putfield 181) 3 59 := ⟨by decide +kernel, rfl⟩
theorem dX12_token_59 : DD cX12_token 59 (.iload_n 1) 1 60 := ⟨by decide +kernel, rfl⟩
theorem dX12_token_60 : DD cX12_token 60 (.ifCond .ge 11) 3 63 := ⟨by decide +kernel, rfl⟩
theorem dX12_token_63 : DD cX12_token 63 (.aload_n 0) 1 64 := ⟨by decide +kernel, rfl⟩
theorem dX12_token_64 : DD cX12_token 64 (.iconst 0) 1 65 := ⟨by decide +kernel, rfl⟩
theorem dX12_token_65 : DD cX12_token 65 (.putfield 184) 3 68 := ⟨by decide +kernel, rfl⟩
theorem dX12_token_68 : DD cX12_token 68 (.goto 164) 3 71 := ⟨by decide +kernel, rfl⟩
theorem dX12_token_71 : DD cX12_token 71 (.iload_n 1) 1 72 := ⟨by decide +kernel, rfl⟩
theorem dX12_token_72 : DD cX12_token 72 (.invokestatic 187) 3 75 := ⟨by decide +kernel, rfl⟩
theorem dX12_token_75 : DD cX12_token 75 (.ifCond .eq 62) 3 78 := ⟨by decide +kernel, rfl⟩
theorem dX12_token_78 : DD cX12_token 78 (.aload_n 0) 1 79 := ⟨by decide +kernel, rfl⟩
theorem dX12_token_79 : DD cX12_token 79 (.iload_n 2) 1 80 := ⟨by decide +kernel, rfl⟩
theorem dX12_token_80 : DD cX12_token 80 (.invokevirtual 170) 3 83 := ⟨by decide +kernel, rfl⟩
theorem dX12_token_83 : DD cX12_token 83 (.invokestatic 187) 3 86 := ⟨by decide +kernel, rfl⟩
theorem dX12_token_86 : DD cX12_token 86 (.ifCond .eq 33) 3 89 := ⟨by decide +kernel, rfl⟩
theorem dX12_token_89 : DD cX12_token 89 (.iload_n 2) 1 90 := ⟨by decide +kernel, rfl⟩
theorem dX12_token_90 : DD cX12_token 90 (.bipush 8) 2 92 := ⟨by decide +kernel, rfl⟩
theorem dX12_token_92 : DD cX12_token 92 (.if_icmp .ge 21) 3 95 := ⟨by decide +kernel, rfl⟩
theorem dX12_token_95 : DD cX12_token 95 (.aload_n 0) 1 96 := ⟨by decide +kernel, rfl⟩
theorem dX12_token_96 : DD cX12_token 96 (.aload_n 0) 1 97 := ⟨by decide +kernel, rfl⟩
theorem dX12_token_97 : DD cX12_token 97 (.getfield 177) 3 100 := ⟨by decide +kernel, rfl⟩
theorem dX12_token_100 : DD cX12_token 100 (.bipush 8) 2 102 := ⟨by decide +kernel, rfl⟩
theorem dX12_token_102 : DD cX12_token 102 (.lshl) 1 103 := ⟨by decide +kernel, rfl⟩
theorem dX12_token_103 : DD cX12_token 103 (.aload_n 0) 1 104 := ⟨by decide +kernel, rfl⟩
theorem dX12_token_104 : DD cX12_token 104 (.iload_n 2) 1 105 := ⟨by decide +kernel, rfl⟩
theorem dX12_token_105 : DD cX12_token 105 (.invokevirtual 170) 3 108 := ⟨by decide +kernel, rfl⟩
theorem dX12_token_108 : DD cX12_token 108 (.i2l) 1 109 := ⟨by decide +kernel, rfl⟩
theorem dX12_token_109 : DD cX12_token 109 (.lor) 1 110 := ⟨by decide +kernel, rfl⟩
theorem dX12_token_110 : DD cX12_token 110 (.putfield 177) 3 113 := ⟨by decide +kernel, rfl⟩
theorem dX12_token_113 : DD cX12_token 113 (.iinc 2 1) 3 116 := ⟨by decide +kernel, rfl⟩
theorem dX12_token_116 : DD cX12_token 116 (.goto (-38)) 3 119 := ⟨by decide +kernel, rfl⟩
theorem dX12_token_119 : DD cX12_token 119 (.aload_n 0) 1 120 := ⟨by decide +kernel, rfl⟩
theorem dX12_token_120 : DD cX12_token 120 (.iload_n 2) 1 121 := ⟨by decide +kernel, rfl⟩
theorem dX12_token_121 : DD cX12_token 121 (.bipush 8) 2 123 := ⟨by decide +kernel, rfl⟩
theorem dX12_token_123 : DD cX12_token 123 (.if_icmp .le 7) 3 126 := ⟨by decide +kernel, rfl⟩
theorem dX12_token_126 : DD cX12_token 126 (.iconst 3) 1 127 := ⟨by decide +kernel, rfl⟩
theorem dX12_token_127 : DD cX12_token 127 (.goto 4) 3 130 := ⟨by decide +kernel, rfl⟩
theorem dX12_token_130 : DD cX12_token 130 (.iconst 1) 1 131 := ⟨by decide +kernel, rfl⟩
theorem dX12_token_131 : DD cX12_token 131 (.putfield 184) 3 134 := ⟨by decide +kernel, rfl⟩
theorem dX12_token_134 : DD cX12_token 134 (.goto 98) 3 137 := ⟨by decide +kernel, rfl⟩
theorem dX12_token_137 : DD cX12_token 137 (.iload_n 1) 1 138 := ⟨by decide +kernel, rfl⟩
theorem dX12_token_138 : DD cX12_token 138 (.invokestatic 191) 3 141 := ⟨by decide +kernel, rfl⟩
theorem dX12_token_141 : DD cX12_token 141 (.ifCond .eq 73) 3 144 := ⟨by decide +kernel, rfl⟩
theorem dX12_token_144 : DD cX12_token 144 (.aload_n 0) 1 145 := ⟨by decide +kernel, rfl⟩
theorem dX12_token_145 : DD cX12_token 145 (.iload_n 2) 1 146 := ⟨by decide +kernel, rfl⟩
theorem dX12_token_146 : DD cX12_token 146 (.invokevirtual 170) 3 149 := ⟨by decide +kernel, rfl⟩
theorem dX12_token_149 : DD cX12_token 149 (.invokestatic 191) 3 152 := ⟨by decide +kernel, rfl⟩
theorem dX12_token_152 : DD cX12_token 152 (.ifCond .eq 34) 3 155 := ⟨by decide +kernel, rfl⟩
theorem dX12_token_155 : DD cX12_token 155 (.iload_n 2) 1 156 := ⟨by decide +kernel, rfl⟩
theorem dX12_token_156 : DD cX12_token 156 (.iconst 4) 1 157 := ⟨by decide +kernel, rfl⟩
theorem dX12_token_157 : DD cX12_token 157 (.if_icmp .ge 23) 3 160 := ⟨by decide +kernel, rfl⟩
theorem dX12_token_160 : DD cX12_token 160 (.aload_n 0) 1 161 := ⟨by decide +kernel, rfl⟩
theorem dX12_token_161 : DD cX12_token 161 (.bipush 10) 2 163 := ⟨by decide +kernel, rfl⟩
theorem dX12_token_163 : DD cX12_token 163 (.aload_n 0) 1 164 := ⟨by decide +kernel, rfl⟩
theorem dX12_token_164 : DD cX12_token 164 (.getfield 181) 3 167 := ⟨by decide +kernel, rfl⟩
theorem dX12_token_167 : DD cX12_token 167 (.imul) 1 168 := ⟨by decide +kernel, rfl⟩
theorem dX12_token_168 : DD cX12_token 168 (.aload_n 0) 1 169 := ⟨by decide +kernel, rfl⟩
theorem dX12_token_169 : DD cX12_token 169 (.iload_n 2) 1 170 := ⟨by decide +kernel, rfl⟩
theorem dX12_token_170 : DD cX12_token 170 (.invokevirtual 170) 3 173 := ⟨by decide +kernel, rfl⟩
theorem dX12_token_173 : DD cX12_token 173 (.iadd) 1 174 := ⟨by decide +kernel, rfl⟩
theorem dX12_token_174 : DD cX12_token 174 (.bipush 48) 2 176 := ⟨by decide +kernel, rfl⟩
theorem dX12_token_176 : DD cX12_token 176 (.isub) 1 177 := ⟨by decide +kernel, rfl⟩
theorem dX12_token_177 : DD cX12_token 177 (.putfield 181) 3 180 := ⟨by decide +kernel, rfl⟩
theorem dX12_token_180 : DD cX12_token 180 (.iinc 2 1) 3 183 := ⟨by decide +kernel, rfl⟩
theorem dX12_token_183 : DD cX12_token 183 (.goto (-39)) 3 186 := ⟨by decide +kernel, rfl⟩
theorem dX12_token_186 : DD cX12_token 186 (.aload_n 0) 1 187 := ⟨by decide +kernel, rfl⟩
theorem dX12_token_187 : DD cX12_token 187 (.iload_n 2) 1 188 := ⟨by decide +kernel, rfl⟩
theorem dX12_token_188 : DD cX12_token 188 (.iconst 4) 1 189 := ⟨by decide +kernel, rfl⟩
theorem dX12_token_189 : DD cX12_token 189 (.if_icmp .gt 14) 3 192 := ⟨by decide +kernel, rfl⟩
theorem dX12_token_192 : DD cX12_token 192 (.aload_n 0) 1 193 := ⟨by decide +kernel, rfl⟩
theorem dX12_token_193 : DD cX12_token 193 (.iload_n 2) 1 194 := ⟨by decide +kernel, rfl⟩
theorem dX12_token_194 : DD cX12_token 194 (.invokevirtual 170) 3 197 := ⟨by decide +kernel, rfl⟩
theorem dX12_token_197 : DD cX12_token 197 (.invokestatic 187) 3 200 := ⟨by decide +kernel, rfl⟩
theorem dX12_token_200 : DD cX12_token 200 (.ifCond .eq 7) 3 203 := ⟨by decide +kernel, rfl⟩
theorem dX12_token_203 : DD cX12_token 203 (.iconst 3) 1 204 := ⟨by decide +kernel, rfl⟩
theorem dX12_token_204 : DD cX12_token 204 (.goto 4) 3 207 := ⟨by decide +kernel, rfl⟩
theorem dX12_token_207 : DD cX12_token 207 (.iconst 2) 1 208 := ⟨by decide +kernel, rfl⟩
theorem dX12_token_208 : DD cX12_token 208 (.putfield 184) 3 211 := ⟨by decide +kernel, rfl⟩
theorem dX12_token_211 : DD cX12_token 211 (.goto 21) 3 214 := ⟨by decide +kernel, rfl⟩
theorem dX12_token_214 : DD cX12_token 214 (.iconst 1) 1 215 := ⟨by decide +kernel, rfl⟩
theorem dX12_token_215 : DD cX12_token 215 (.istore_n 2) 1 216 := ⟨by decide +kernel, rfl⟩
theorem dX12_token_216 : DD cX12_token 216 (.aload_n 0) 1 217 := ⟨by decide +kernel, rfl⟩
theorem dX12_token_217 : DD cX12_token 217 (.iload_n 1) 1 218 := ⟨by decide +kernel, rfl⟩
theorem dX12_token_218 : DD cX12_token 218 (.invokestatic 194) 3 221 := ⟨by decide +kernel, rfl⟩
theorem dX12_token_221 : DD cX12_token 221 (.ifCond .eq 7) 3 224 := ⟨by decide +kernel, rfl⟩
theorem dX12_token_224 : DD cX12_token 224 (.iload_n 1) 1 225 := ⟨by decide +kernel, rfl⟩
theorem dX12_token_225 : DD cX12_token 225 (.goto 4) 3 228 := ⟨by decide +kernel, rfl⟩
theorem dX12_token_228 : DD cX12_token 228 (.iconst 3) 1 229 := ⟨by decide +kernel, rfl⟩
theorem dX12_token_229 : DD cX12_token 229 (.putfield 184) 3 232 := ⟨by decide +kernel, rfl⟩
theorem dX12_token_232 : DD cX12_token 232 (.aload_n 0) 1 233 := ⟨by decide +kernel, rfl⟩
theorem dX12_token_233 : DD cX12_token 233 (.getfield 184) 3 236 := ⟨by decide +kernel, rfl⟩
theorem dX12_token_236 : DD cX12_token 236 (.iconst 3) 1 237 := ⟨by decide +kernel, rfl⟩
theorem dX12_token_237 : DD cX12_token 237 (.if_icmp .eq 13) 3 240 := ⟨by decide +kernel, rfl⟩
theorem dX12_token_240 : DD cX12_token 240 (.aload_n 0) 1 241 := ⟨by decide +kernel, rfl⟩
theorem dX12_token_241 : DD cX12_token 241 (.dup) 1 242 := ⟨by decide +kernel, rfl⟩
theorem dX12_token_242 : DD cX12_token 242 (.getfield 164) 3 245 := ⟨by decide +kernel, rfl⟩
theorem dX12_token_245 : DD cX12_token 245 (.iload_n 2) 1 246 := ⟨by decide +kernel, rfl⟩
theorem dX12_token_246 : DD cX12_token 246 (.iadd) 1 247 := ⟨by decide +kernel, rfl⟩
theorem dX12_token_247 : DD cX12_token 247 (.putfield 164) 3 250 := ⟨by decide +kernel, rfl⟩
theorem dX12_token_250 : DD cX12_token 250 (.return_) 1 251 := ⟨by decide +kernel, rfl⟩
def gX12_token : Nat → Nat → Int32 → Mem → Option Mem
  | 0, _, _, _ => none
  | f + 1, 0, x2, m => (cP (fX12_here m (0 : Int32)) fun r1 => (if r1 = (32 : Int32) then (pt (sI m 0 4 ((m.1 0 4) + (1 : Int32))) fun m4 => (gX12_token f 0 0 m4)) else (cP (fX12_here m (0 : Int32)) fun r5 => (if r5 = (10 : Int32) then (pt (sI m 0 4 ((m.1 0 4) + (1 : Int32))) fun m32 => (gX12_token f 0 0 m32)) else (pt (sI m 0 7 (m.1 0 4)) fun m8 => (cP (fX12_here m8 (0 : Int32)) fun r9 => (pt (sL m8 0 9 (0 : Int64)) fun m11 => (pt (sI m11 0 8 (0 : Int32)) fun m12 => (if 0 ≤ r9 then (cP (fX12_isLetter r9) fun r14 => (if r14 = 0 then (cP (fX12_isDigit r9) fun r17 => (if r17 = 0 then (cP (fX12_isSign r9) fun r20 => (if r20 = 0 then (pt (sI m12 0 6 (3 : Int32)) fun m23 => (if (m23.1 0 6) = (3 : Int32) then (some m23) else (pt (sI m23 0 4 ((m23.1 0 4) + (1 : Int32))) fun m25 => (some m25)))) else (pt (sI m12 0 6 r9) fun m26 => (if (m26.1 0 6) = (3 : Int32) then (some m26) else (pt (sI m26 0 4 ((m26.1 0 4) + (1 : Int32))) fun m28 => (some m28)))))) else (gX12_token f 2 (0 : Int32) m12))) else (gX12_token f 1 (0 : Int32) m12))) else (pt (sI m12 0 6 (0 : Int32)) fun m29 => (if (m29.1 0 6) = (3 : Int32) then (some m29) else (pt (sI m29 0 4 ((m29.1 0 4) + (0 : Int32))) fun m31 => (some m31)))))))))))))
  | f + 1, 1, x2, m => (cP (fX12_here m x2) fun r1 => (cP (fX12_isLetter r1) fun r3 => (if r3 = 0 then (if x2 ≤ (8 : Int32) then (pt (sI m 0 6 (1 : Int32)) fun m7 => (if (m7.1 0 6) = (3 : Int32) then (some m7) else (pt (sI m7 0 4 ((m7.1 0 4) + x2)) fun m9 => (some m9)))) else (pt (sI m 0 6 (3 : Int32)) fun m10 => (if (m10.1 0 6) = (3 : Int32) then (some m10) else (pt (sI m10 0 4 ((m10.1 0 4) + x2)) fun m12 => (some m12))))) else (if (8 : Int32) ≤ x2 then (gX12_token f 1 (x2 + (1 : Int32)) m) else (cP (fX12_here m x2) fun r14 => (pt (sL m 0 9 (((m.2.1 0 9) <<< (((8 : Int32)).toInt64 &&& 63)) ||| (r14).toInt64)) fun m16 => (gX12_token f 1 (x2 + (1 : Int32)) m16)))))))
  | f + 1, 2, x2, m => (cP (fX12_here m x2) fun r1 => (cP (fX12_isDigit r1) fun r3 => (if r3 = 0 then (if (4 : Int32) < x2 then (pt (sI m 0 6 (3 : Int32)) fun m7 => (if (m7.1 0 6) = (3 : Int32) then (some m7) else (pt (sI m7 0 4 ((m7.1 0 4) + x2)) fun m9 => (some m9)))) else (cP (fX12_here m x2) fun r10 => (cP (fX12_isLetter r10) fun r12 => (if r12 = 0 then (pt (sI m 0 6 (2 : Int32)) fun m15 => (if (m15.1 0 6) = (3 : Int32) then (some m15) else (pt (sI m15 0 4 ((m15.1 0 4) + x2)) fun m17 => (some m17)))) else (pt (sI m 0 6 (3 : Int32)) fun m18 => (if (m18.1 0 6) = (3 : Int32) then (some m18) else (pt (sI m18 0 4 ((m18.1 0 4) + x2)) fun m20 => (some m20)))))))) else (if (4 : Int32) ≤ x2 then (gX12_token f 2 (x2 + (1 : Int32)) m) else (cP (fX12_here m x2) fun r22 => (pt (sI m 0 8 ((((10 : Int32) * (m.1 0 8)) + r22) - (48 : Int32))) fun m24 => (gX12_token f 2 (x2 + (1 : Int32)) m24)))))))
  | _ + 1, _ + 3, _, _ => none
def fX12_token (m : Mem) : Option Mem := (gX12_token 5000 0 0 m)
set_option maxHeartbeats 4000000 in
set_option maxRecDepth 100000 in
theorem wX12_token {X : Cx} {G : Gt} (h : OkX (X, G, wM, nM) cX12_token RX12 3 none 2) : ∀ f : Nat, (∀ (x2 : Int32) (m : Mem), JR (X, G, wM, nM) cvV m 0 [some (.ref (G.2.2 0)), none, none] [] (gX12_token f 0 x2 m)) ∧ (∀ (x2 : Int32) (m : Mem), JR (X, G, wM, nM) cvV m 78 [some (.ref (G.2.2 0)), none, some (.int x2)] [] (gX12_token f 1 x2 m)) ∧ (∀ (x2 : Int32) (m : Mem), JR (X, G, wM, nM) cvV m 144 [some (.ref (G.2.2 0)), none, some (.int x2)] [] (gX12_token f 2 x2 m)) := by
  intro f
  induction f with
  | zero => exact ⟨(fun _ _ => j_none), (fun _ _ => j_none), (fun _ _ => j_none)⟩
  | succ f ih =>
    refine ⟨?_, ?_, ?_⟩
    · intro x2 m
      rw [gX12_token]
      refine j_aload_n h dX12_token_0 rfl ?_
      refine j_iconst (v := (0 : Int32)) h dX12_token_1 kiconst_0 ?_
      refine j_callVP (q0 := 0) (ci := 12) h [.int (0 : Int32)] (kX12_here _ G h.2.2.2.2.2.2.2.2.2.2 m (0 : Int32)) okX12_here inX12_here ml12_170 rfl rfl rfl rfl (by decide) (by decide) (Nat.le_of_ble_eq_true rfl) rfl dX12_token_2 (fun r1 hr1 => ?_)
      refine j_bipush (v := (32 : Int32)) h dX12_token_5 kbipush_32 ?_
      refine j_icmp_eq (tgt := 20) h dX12_token_7 (by decide) (fun c3 => ?_) (fun c3 => ?_)
      · refine j_aload_n h dX12_token_20 rfl ?_
        refine j_dup h dX12_token_21 rfl ?_
        refine gM_4 h dX12_token_22 ?_
        refine j_iconst (v := (1 : Int32)) h dX12_token_25 kiconst_1 ?_
        refine j_iadd h dX12_token_26 ?_
        refine pM_4 h dX12_token_27 (fun m4 hm4 => ?_)
        refine j_goto (tgt := 0) h dX12_token_30 (by decide) ?_
        refine j_wk (ls' := [some (.ref (G.2.2 0)), none, none]) (And.intro rfl trivial) ?_
        exact ih.1 0 m4
      · refine j_aload_n h dX12_token_10 rfl ?_
        refine j_iconst (v := (0 : Int32)) h dX12_token_11 kiconst_0 ?_
        refine j_callVP (q0 := 0) (ci := 12) h [.int (0 : Int32)] (kX12_here _ G h.2.2.2.2.2.2.2.2.2.2 m (0 : Int32)) okX12_here inX12_here ml12_170 rfl rfl rfl rfl (by decide) (by decide) (Nat.le_of_ble_eq_true rfl) rfl dX12_token_12 (fun r5 hr5 => ?_)
        refine j_bipush (v := (10 : Int32)) h dX12_token_15 kbipush_10 ?_
        refine j_icmp_ne (tgt := 33) h dX12_token_17 (by decide) (fun c7 => ?_) (fun c7 => ?_)
        · refine j_aload_n h dX12_token_33 rfl ?_
          refine j_aload_n h dX12_token_34 rfl ?_
          refine gM_4 h dX12_token_35 ?_
          refine pM_7 h dX12_token_38 (fun m8 hm8 => ?_)
          refine j_aload_n h dX12_token_41 rfl ?_
          refine j_iconst (v := (0 : Int32)) h dX12_token_42 kiconst_0 ?_
          refine j_callVP (q0 := 0) (ci := 12) h [.int (0 : Int32)] (kX12_here _ G h.2.2.2.2.2.2.2.2.2.2 m8 (0 : Int32)) okX12_here inX12_here ml12_170 rfl rfl rfl rfl (by decide) (by decide) (Nat.le_of_ble_eq_true rfl) rfl dX12_token_43 (fun r9 hr9 => ?_)
          refine j_istore_n h dX12_token_46 rfl rfl ?_
          refine j_iconst (v := (0 : Int32)) h dX12_token_47 kiconst_0 ?_
          refine j_istore_n h dX12_token_48 rfl rfl ?_
          refine j_aload_n h dX12_token_49 rfl ?_
          refine j_lconst (v := (0 : Int64)) h dX12_token_50 rfl ?_
          refine pM_9 h dX12_token_51 (fun m11 hm11 => ?_)
          refine j_aload_n h dX12_token_54 rfl ?_
          refine j_iconst (v := (0 : Int32)) h dX12_token_55 kiconst_0 ?_
          refine pM_8 h dX12_token_56 (fun m12 hm12 => ?_)
          refine j_iload_n h dX12_token_59 rfl ?_
          refine j_if_ge (tgt := 71) h dX12_token_60 (by decide) (fun c13 => ?_) (fun c13 => ?_)
          · refine j_iload_n h dX12_token_71 rfl ?_
            refine j_callSP h [.int r9] (kX12_isLetter _ G h.2.2.2.2.2.2.2.2.2.2 m12 r9) okX12_isLetter stX12_isLetter ml12_187 rfl rfl (by decide) (by decide) (Nat.le_of_ble_eq_true rfl) rfl dX12_token_72 (fun r14 hr14 => ?_)
            refine j_if_eq (tgt := 137) h dX12_token_75 (by decide) (fun c16 => ?_) (fun c16 => ?_)
            · refine j_iload_n h dX12_token_137 rfl ?_
              refine j_callSP h [.int r9] (kX12_isDigit _ G h.2.2.2.2.2.2.2.2.2.2 m12 r9) okX12_isDigit stX12_isDigit ml12_191 rfl rfl (by decide) (by decide) (Nat.le_of_ble_eq_true rfl) rfl dX12_token_138 (fun r17 hr17 => ?_)
              refine j_if_eq (tgt := 214) h dX12_token_141 (by decide) (fun c19 => ?_) (fun c19 => ?_)
              · refine j_iconst (v := (1 : Int32)) h dX12_token_214 kiconst_1 ?_
                refine j_istore_n h dX12_token_215 rfl rfl ?_
                refine j_aload_n h dX12_token_216 rfl ?_
                refine j_iload_n h dX12_token_217 rfl ?_
                refine j_callSP h [.int r9] (kX12_isSign _ G h.2.2.2.2.2.2.2.2.2.2 m12 r9) okX12_isSign stX12_isSign ml12_194 rfl rfl (by decide) (by decide) (Nat.le_of_ble_eq_true rfl) rfl dX12_token_218 (fun r20 hr20 => ?_)
                refine j_if_eq (tgt := 228) h dX12_token_221 (by decide) (fun c22 => ?_) (fun c22 => ?_)
                · refine j_iconst (v := (3 : Int32)) h dX12_token_228 kiconst_3 ?_
                  refine pM_6 h dX12_token_229 (fun m23 hm23 => ?_)
                  refine j_aload_n h dX12_token_232 rfl ?_
                  refine gM_6 h dX12_token_233 ?_
                  refine j_iconst (v := (3 : Int32)) h dX12_token_236 kiconst_3 ?_
                  refine j_icmp_eq (tgt := 250) h dX12_token_237 (by decide) (fun c24 => ?_) (fun c24 => ?_)
                  · exact j_vret h rfl dX12_token_250
                  · refine j_aload_n h dX12_token_240 rfl ?_
                    refine j_dup h dX12_token_241 rfl ?_
                    refine gM_4 h dX12_token_242 ?_
                    refine j_iload_n h dX12_token_245 rfl ?_
                    refine j_iadd h dX12_token_246 ?_
                    refine pM_4 h dX12_token_247 (fun m25 hm25 => ?_)
                    exact j_vret h rfl dX12_token_250
                · refine j_iload_n h dX12_token_224 rfl ?_
                  refine j_goto (tgt := 229) h dX12_token_225 (by decide) ?_
                  refine pM_6 h dX12_token_229 (fun m26 hm26 => ?_)
                  refine j_aload_n h dX12_token_232 rfl ?_
                  refine gM_6 h dX12_token_233 ?_
                  refine j_iconst (v := (3 : Int32)) h dX12_token_236 kiconst_3 ?_
                  refine j_icmp_eq (tgt := 250) h dX12_token_237 (by decide) (fun c27 => ?_) (fun c27 => ?_)
                  · exact j_vret h rfl dX12_token_250
                  · refine j_aload_n h dX12_token_240 rfl ?_
                    refine j_dup h dX12_token_241 rfl ?_
                    refine gM_4 h dX12_token_242 ?_
                    refine j_iload_n h dX12_token_245 rfl ?_
                    refine j_iadd h dX12_token_246 ?_
                    refine pM_4 h dX12_token_247 (fun m28 hm28 => ?_)
                    exact j_vret h rfl dX12_token_250
              · refine j_wk (ls' := [some (.ref (G.2.2 0)), none, some (.int (0 : Int32))]) (And.intro rfl (And.intro rfl trivial)) ?_
                exact ih.2.2 (0 : Int32) m12
            · refine j_wk (ls' := [some (.ref (G.2.2 0)), none, some (.int (0 : Int32))]) (And.intro rfl (And.intro rfl trivial)) ?_
              exact ih.2.1 (0 : Int32) m12
          · refine j_aload_n h dX12_token_63 rfl ?_
            refine j_iconst (v := (0 : Int32)) h dX12_token_64 kiconst_0 ?_
            refine pM_6 h dX12_token_65 (fun m29 hm29 => ?_)
            refine j_goto (tgt := 232) h dX12_token_68 (by decide) ?_
            refine j_aload_n h dX12_token_232 rfl ?_
            refine gM_6 h dX12_token_233 ?_
            refine j_iconst (v := (3 : Int32)) h dX12_token_236 kiconst_3 ?_
            refine j_icmp_eq (tgt := 250) h dX12_token_237 (by decide) (fun c30 => ?_) (fun c30 => ?_)
            · exact j_vret h rfl dX12_token_250
            · refine j_aload_n h dX12_token_240 rfl ?_
              refine j_dup h dX12_token_241 rfl ?_
              refine gM_4 h dX12_token_242 ?_
              refine j_iload_n h dX12_token_245 rfl ?_
              refine j_iadd h dX12_token_246 ?_
              refine pM_4 h dX12_token_247 (fun m31 hm31 => ?_)
              exact j_vret h rfl dX12_token_250
        · refine j_aload_n h dX12_token_20 rfl ?_
          refine j_dup h dX12_token_21 rfl ?_
          refine gM_4 h dX12_token_22 ?_
          refine j_iconst (v := (1 : Int32)) h dX12_token_25 kiconst_1 ?_
          refine j_iadd h dX12_token_26 ?_
          refine pM_4 h dX12_token_27 (fun m32 hm32 => ?_)
          refine j_goto (tgt := 0) h dX12_token_30 (by decide) ?_
          refine j_wk (ls' := [some (.ref (G.2.2 0)), none, none]) (And.intro rfl trivial) ?_
          exact ih.1 0 m32
    · intro x2 m
      rw [gX12_token]
      refine j_aload_n h dX12_token_78 rfl ?_
      refine j_iload_n h dX12_token_79 rfl ?_
      refine j_callVP (q0 := 0) (ci := 12) h [.int x2] (kX12_here _ G h.2.2.2.2.2.2.2.2.2.2 m x2) okX12_here inX12_here ml12_170 rfl rfl rfl rfl (by decide) (by decide) (Nat.le_of_ble_eq_true rfl) rfl dX12_token_80 (fun r1 hr1 => ?_)
      refine j_callSP h [.int r1] (kX12_isLetter _ G h.2.2.2.2.2.2.2.2.2.2 m r1) okX12_isLetter stX12_isLetter ml12_187 rfl rfl (by decide) (by decide) (Nat.le_of_ble_eq_true rfl) rfl dX12_token_83 (fun r3 hr3 => ?_)
      refine j_if_eq (tgt := 119) h dX12_token_86 (by decide) (fun c5 => ?_) (fun c5 => ?_)
      · refine j_aload_n h dX12_token_119 rfl ?_
        refine j_iload_n h dX12_token_120 rfl ?_
        refine j_bipush (v := (8 : Int32)) h dX12_token_121 kbipush_8 ?_
        refine j_icmp_le (tgt := 130) h dX12_token_123 (by decide) (fun c6 => ?_) (fun c6 => ?_)
        · refine j_iconst (v := (1 : Int32)) h dX12_token_130 kiconst_1 ?_
          refine pM_6 h dX12_token_131 (fun m7 hm7 => ?_)
          refine j_goto (tgt := 232) h dX12_token_134 (by decide) ?_
          refine j_aload_n h dX12_token_232 rfl ?_
          refine gM_6 h dX12_token_233 ?_
          refine j_iconst (v := (3 : Int32)) h dX12_token_236 kiconst_3 ?_
          refine j_icmp_eq (tgt := 250) h dX12_token_237 (by decide) (fun c8 => ?_) (fun c8 => ?_)
          · exact j_vret h rfl dX12_token_250
          · refine j_aload_n h dX12_token_240 rfl ?_
            refine j_dup h dX12_token_241 rfl ?_
            refine gM_4 h dX12_token_242 ?_
            refine j_iload_n h dX12_token_245 rfl ?_
            refine j_iadd h dX12_token_246 ?_
            refine pM_4 h dX12_token_247 (fun m9 hm9 => ?_)
            exact j_vret h rfl dX12_token_250
        · refine j_iconst (v := (3 : Int32)) h dX12_token_126 kiconst_3 ?_
          refine j_goto (tgt := 131) h dX12_token_127 (by decide) ?_
          refine pM_6 h dX12_token_131 (fun m10 hm10 => ?_)
          refine j_goto (tgt := 232) h dX12_token_134 (by decide) ?_
          refine j_aload_n h dX12_token_232 rfl ?_
          refine gM_6 h dX12_token_233 ?_
          refine j_iconst (v := (3 : Int32)) h dX12_token_236 kiconst_3 ?_
          refine j_icmp_eq (tgt := 250) h dX12_token_237 (by decide) (fun c11 => ?_) (fun c11 => ?_)
          · exact j_vret h rfl dX12_token_250
          · refine j_aload_n h dX12_token_240 rfl ?_
            refine j_dup h dX12_token_241 rfl ?_
            refine gM_4 h dX12_token_242 ?_
            refine j_iload_n h dX12_token_245 rfl ?_
            refine j_iadd h dX12_token_246 ?_
            refine pM_4 h dX12_token_247 (fun m12 hm12 => ?_)
            exact j_vret h rfl dX12_token_250
      · refine j_iload_n h dX12_token_89 rfl ?_
        refine j_bipush (v := (8 : Int32)) h dX12_token_90 kbipush_8 ?_
        refine j_icmp_ge (tgt := 113) h dX12_token_92 (by decide) (fun c13 => ?_) (fun c13 => ?_)
        · refine j_iinc (v := (x2 + (1 : Int32))) h dX12_token_113 rfl (by rw [kiconst_1]) rfl ?_
          refine j_goto (tgt := 78) h dX12_token_116 (by decide) ?_
          refine j_wk (ls' := [some (.ref (G.2.2 0)), none, some (.int (x2 + (1 : Int32)))]) (And.intro rfl (And.intro rfl trivial)) ?_
          exact ih.2.1 (x2 + (1 : Int32)) m
        · refine j_aload_n h dX12_token_95 rfl ?_
          refine j_aload_n h dX12_token_96 rfl ?_
          refine gM_9 h dX12_token_97 ?_
          refine j_bipush (v := (8 : Int32)) h dX12_token_100 kbipush_8 ?_
          refine j_lshl h dX12_token_102 ?_
          refine j_aload_n h dX12_token_103 rfl ?_
          refine j_iload_n h dX12_token_104 rfl ?_
          refine j_callVP (q0 := 0) (ci := 12) h [.int x2] (kX12_here _ G h.2.2.2.2.2.2.2.2.2.2 m x2) okX12_here inX12_here ml12_170 rfl rfl rfl rfl (by decide) (by decide) (Nat.le_of_ble_eq_true rfl) rfl dX12_token_105 (fun r14 hr14 => ?_)
          refine j_i2l h dX12_token_108 ?_
          refine j_lor h dX12_token_109 ?_
          refine pM_9 h dX12_token_110 (fun m16 hm16 => ?_)
          refine j_iinc (v := (x2 + (1 : Int32))) h dX12_token_113 rfl (by rw [kiconst_1]) rfl ?_
          refine j_goto (tgt := 78) h dX12_token_116 (by decide) ?_
          refine j_wk (ls' := [some (.ref (G.2.2 0)), none, some (.int (x2 + (1 : Int32)))]) (And.intro rfl (And.intro rfl trivial)) ?_
          exact ih.2.1 (x2 + (1 : Int32)) m16
    · intro x2 m
      rw [gX12_token]
      refine j_aload_n h dX12_token_144 rfl ?_
      refine j_iload_n h dX12_token_145 rfl ?_
      refine j_callVP (q0 := 0) (ci := 12) h [.int x2] (kX12_here _ G h.2.2.2.2.2.2.2.2.2.2 m x2) okX12_here inX12_here ml12_170 rfl rfl rfl rfl (by decide) (by decide) (Nat.le_of_ble_eq_true rfl) rfl dX12_token_146 (fun r1 hr1 => ?_)
      refine j_callSP h [.int r1] (kX12_isDigit _ G h.2.2.2.2.2.2.2.2.2.2 m r1) okX12_isDigit stX12_isDigit ml12_191 rfl rfl (by decide) (by decide) (Nat.le_of_ble_eq_true rfl) rfl dX12_token_149 (fun r3 hr3 => ?_)
      refine j_if_eq (tgt := 186) h dX12_token_152 (by decide) (fun c5 => ?_) (fun c5 => ?_)
      · refine j_aload_n h dX12_token_186 rfl ?_
        refine j_iload_n h dX12_token_187 rfl ?_
        refine j_iconst (v := (4 : Int32)) h dX12_token_188 kiconst_4 ?_
        refine j_icmp_gt (tgt := 203) h dX12_token_189 (by decide) (fun c6 => ?_) (fun c6 => ?_)
        · refine j_iconst (v := (3 : Int32)) h dX12_token_203 kiconst_3 ?_
          refine j_goto (tgt := 208) h dX12_token_204 (by decide) ?_
          refine pM_6 h dX12_token_208 (fun m7 hm7 => ?_)
          refine j_goto (tgt := 232) h dX12_token_211 (by decide) ?_
          refine j_aload_n h dX12_token_232 rfl ?_
          refine gM_6 h dX12_token_233 ?_
          refine j_iconst (v := (3 : Int32)) h dX12_token_236 kiconst_3 ?_
          refine j_icmp_eq (tgt := 250) h dX12_token_237 (by decide) (fun c8 => ?_) (fun c8 => ?_)
          · exact j_vret h rfl dX12_token_250
          · refine j_aload_n h dX12_token_240 rfl ?_
            refine j_dup h dX12_token_241 rfl ?_
            refine gM_4 h dX12_token_242 ?_
            refine j_iload_n h dX12_token_245 rfl ?_
            refine j_iadd h dX12_token_246 ?_
            refine pM_4 h dX12_token_247 (fun m9 hm9 => ?_)
            exact j_vret h rfl dX12_token_250
        · refine j_aload_n h dX12_token_192 rfl ?_
          refine j_iload_n h dX12_token_193 rfl ?_
          refine j_callVP (q0 := 0) (ci := 12) h [.int x2] (kX12_here _ G h.2.2.2.2.2.2.2.2.2.2 m x2) okX12_here inX12_here ml12_170 rfl rfl rfl rfl (by decide) (by decide) (Nat.le_of_ble_eq_true rfl) rfl dX12_token_194 (fun r10 hr10 => ?_)
          refine j_callSP h [.int r10] (kX12_isLetter _ G h.2.2.2.2.2.2.2.2.2.2 m r10) okX12_isLetter stX12_isLetter ml12_187 rfl rfl (by decide) (by decide) (Nat.le_of_ble_eq_true rfl) rfl dX12_token_197 (fun r12 hr12 => ?_)
          refine j_if_eq (tgt := 207) h dX12_token_200 (by decide) (fun c14 => ?_) (fun c14 => ?_)
          · refine j_iconst (v := (2 : Int32)) h dX12_token_207 kiconst_2 ?_
            refine pM_6 h dX12_token_208 (fun m15 hm15 => ?_)
            refine j_goto (tgt := 232) h dX12_token_211 (by decide) ?_
            refine j_aload_n h dX12_token_232 rfl ?_
            refine gM_6 h dX12_token_233 ?_
            refine j_iconst (v := (3 : Int32)) h dX12_token_236 kiconst_3 ?_
            refine j_icmp_eq (tgt := 250) h dX12_token_237 (by decide) (fun c16 => ?_) (fun c16 => ?_)
            · exact j_vret h rfl dX12_token_250
            · refine j_aload_n h dX12_token_240 rfl ?_
              refine j_dup h dX12_token_241 rfl ?_
              refine gM_4 h dX12_token_242 ?_
              refine j_iload_n h dX12_token_245 rfl ?_
              refine j_iadd h dX12_token_246 ?_
              refine pM_4 h dX12_token_247 (fun m17 hm17 => ?_)
              exact j_vret h rfl dX12_token_250
          · refine j_iconst (v := (3 : Int32)) h dX12_token_203 kiconst_3 ?_
            refine j_goto (tgt := 208) h dX12_token_204 (by decide) ?_
            refine pM_6 h dX12_token_208 (fun m18 hm18 => ?_)
            refine j_goto (tgt := 232) h dX12_token_211 (by decide) ?_
            refine j_aload_n h dX12_token_232 rfl ?_
            refine gM_6 h dX12_token_233 ?_
            refine j_iconst (v := (3 : Int32)) h dX12_token_236 kiconst_3 ?_
            refine j_icmp_eq (tgt := 250) h dX12_token_237 (by decide) (fun c19 => ?_) (fun c19 => ?_)
            · exact j_vret h rfl dX12_token_250
            · refine j_aload_n h dX12_token_240 rfl ?_
              refine j_dup h dX12_token_241 rfl ?_
              refine gM_4 h dX12_token_242 ?_
              refine j_iload_n h dX12_token_245 rfl ?_
              refine j_iadd h dX12_token_246 ?_
              refine pM_4 h dX12_token_247 (fun m20 hm20 => ?_)
              exact j_vret h rfl dX12_token_250
      · refine j_iload_n h dX12_token_155 rfl ?_
        refine j_iconst (v := (4 : Int32)) h dX12_token_156 kiconst_4 ?_
        refine j_icmp_ge (tgt := 180) h dX12_token_157 (by decide) (fun c21 => ?_) (fun c21 => ?_)
        · refine j_iinc (v := (x2 + (1 : Int32))) h dX12_token_180 rfl (by rw [kiconst_1]) rfl ?_
          refine j_goto (tgt := 144) h dX12_token_183 (by decide) ?_
          refine j_wk (ls' := [some (.ref (G.2.2 0)), none, some (.int (x2 + (1 : Int32)))]) (And.intro rfl (And.intro rfl trivial)) ?_
          exact ih.2.2 (x2 + (1 : Int32)) m
        · refine j_aload_n h dX12_token_160 rfl ?_
          refine j_bipush (v := (10 : Int32)) h dX12_token_161 kbipush_10 ?_
          refine j_aload_n h dX12_token_163 rfl ?_
          refine gM_8 h dX12_token_164 ?_
          refine j_imul h dX12_token_167 ?_
          refine j_aload_n h dX12_token_168 rfl ?_
          refine j_iload_n h dX12_token_169 rfl ?_
          refine j_callVP (q0 := 0) (ci := 12) h [.int x2] (kX12_here _ G h.2.2.2.2.2.2.2.2.2.2 m x2) okX12_here inX12_here ml12_170 rfl rfl rfl rfl (by decide) (by decide) (Nat.le_of_ble_eq_true rfl) rfl dX12_token_170 (fun r22 hr22 => ?_)
          refine j_iadd h dX12_token_173 ?_
          refine j_bipush (v := (48 : Int32)) h dX12_token_174 kbipush_48 ?_
          refine j_isub h dX12_token_176 ?_
          refine pM_8 h dX12_token_177 (fun m24 hm24 => ?_)
          refine j_iinc (v := (x2 + (1 : Int32))) h dX12_token_180 rfl (by rw [kiconst_1]) rfl ?_
          refine j_goto (tgt := 144) h dX12_token_183 (by decide) ?_
          refine j_wk (ls' := [some (.ref (G.2.2 0)), none, some (.int (x2 + (1 : Int32)))]) (And.intro rfl (And.intro rfl trivial)) ?_
          exact ih.2.2 (x2 + (1 : Int32)) m24
set_option maxHeartbeats 4000000 in
set_option maxRecDepth 100000 in
theorem kX12_token (l : Launch) (G : Gt) (hD : ∀ m, va_D (inA G nM) (wM G m)) (m : Mem) : ∀ a, fX12_token m = some a → Ct l G wM nM yX12_token cX12_token 3 none 2 [.ref (G.2.2 0)] m (cvV a) := by
  refine ct_of (own := RX12) (ls0 := [some (.ref (G.2.2 0)), none, none]) (by decide) rfl rfl rfl (Nat.le_of_ble_eq_true rfl) hD (fun X h => ?_) l
  unfold fX12_token
  refine j_wk (ls' := [some (.ref (G.2.2 0)), none, none]) (And.intro rfl trivial) ?_
  exact (wX12_token h 5000).1 0 m
theorem dX12_wrong_0 : DD cX12_wrong 0 (.aload_n 0) 1 1 := ⟨by decide +kernel, rfl⟩
theorem dX12_wrong_1 : DD cX12_wrong 1 (.getfield 197) 3 4 := ⟨by decide +kernel, rfl⟩
theorem dX12_wrong_4 : DD cX12_wrong 4 (.ifCond .le 4) 3 7 := ⟨by decide +kernel, rfl⟩
theorem dX12_wrong_7 : DD cX12_wrong 7 (.return_) 1 8 := ⟨by decide +kernel, rfl⟩
theorem dX12_wrong_8 : DD cX12_wrong 8 (.aload_n 0) 1 9 := ⟨by decide +kernel, rfl⟩
theorem dX12_wrong_9 : DD cX12_wrong 9 (.aload_n 0) 1 10 := ⟨by decide +kernel, rfl⟩
theorem dX12_wrong_10 : DD cX12_wrong 10 (.getfield 184) 3 13 := ⟨by decide +kernel, rfl⟩
theorem dX12_wrong_13 : DD cX12_wrong 13 (.iconst 3) 1 14 := ⟨by decide +kernel, rfl⟩
theorem dX12_wrong_14 : DD cX12_wrong 14 (.if_icmp .ne 7) 3 17 := ⟨by decide +kernel, rfl⟩
theorem dX12_wrong_17 : DD cX12_wrong 17 (.iconst 1) 1 18 := ⟨by decide +kernel, rfl⟩
theorem dX12_wrong_18 : DD cX12_wrong 18 (.goto 4) 3 21 := ⟨by decide +kernel, rfl⟩
theorem dX12_wrong_21 : DD cX12_wrong 21 (.iload_n 1) 1 22 := ⟨by decide +kernel, rfl⟩
theorem dX12_wrong_22 : DD cX12_wrong 22 (.putfield 197) 3 25 := ⟨by decide +kernel, rfl⟩
theorem dX12_wrong_25 : DD cX12_wrong 25 (.aload_n 0) 1 26 := ⟨by decide +kernel, rfl⟩
theorem dX12_wrong_26 : DD cX12_wrong 26 (.aload_n 0) 1 27 := ⟨by decide +kernel, rfl⟩
theorem dX12_wrong_27 : DD cX12_wrong 27 (.getfield 174) 3 30 := ⟨by decide +kernel, rfl⟩
theorem dX12_wrong_30 : DD cX12_wrong 30 (.putfield 13) 3 33 := ⟨by decide +kernel, rfl⟩
theorem dX12_wrong_33 : DD cX12_wrong 33 (.return_) 1 34 := ⟨by decide +kernel, rfl⟩
def fX12_wrong (m : Mem) (x1 : Int32) : Option Mem := (if (m.1 0 2) ≤ 0 then (if (m.1 0 6) = (3 : Int32) then (pt (sI m 0 2 (1 : Int32)) fun m5 => (pt (sI m5 0 3 (m5.1 0 7)) fun m6 => (some m6))) else (pt (sI m 0 2 x1) fun m3 => (pt (sI m3 0 3 (m3.1 0 7)) fun m4 => (some m4)))) else (some m))
set_option maxHeartbeats 4000000 in
set_option maxRecDepth 100000 in
theorem kX12_wrong (l : Launch) (G : Gt) (hD : ∀ m, va_D (inA G nM) (wM G m)) (m : Mem) (x1 : Int32) : ∀ a, fX12_wrong m x1 = some a → Ct l G wM nM yX12_wrong cX12_wrong 2 none 1 [.ref (G.2.2 0), .int x1] m (cvV a) := by
  refine ct_of (own := RX12) (ls0 := [some (.ref (G.2.2 0)), some (.int x1)]) (by decide) rfl rfl rfl (Nat.le_of_ble_eq_true rfl) hD (fun X h => ?_) l
  unfold fX12_wrong
  refine j_aload_n h dX12_wrong_0 rfl ?_
  refine gM_2 h dX12_wrong_1 ?_
  refine j_if_le (tgt := 8) h dX12_wrong_4 (by decide) (fun c1 => ?_) (fun c1 => ?_)
  · refine j_aload_n h dX12_wrong_8 rfl ?_
    refine j_aload_n h dX12_wrong_9 rfl ?_
    refine gM_6 h dX12_wrong_10 ?_
    refine j_iconst (v := (3 : Int32)) h dX12_wrong_13 kiconst_3 ?_
    refine j_icmp_ne (tgt := 21) h dX12_wrong_14 (by decide) (fun c2 => ?_) (fun c2 => ?_)
    · refine j_iload_n h dX12_wrong_21 rfl ?_
      refine pM_2 h dX12_wrong_22 (fun m3 hm3 => ?_)
      refine j_aload_n h dX12_wrong_25 rfl ?_
      refine j_aload_n h dX12_wrong_26 rfl ?_
      refine gM_7 h dX12_wrong_27 ?_
      refine pM_3 h dX12_wrong_30 (fun m4 hm4 => ?_)
      exact j_vret h rfl dX12_wrong_33
    · refine j_iconst (v := (1 : Int32)) h dX12_wrong_17 kiconst_1 ?_
      refine j_goto (tgt := 22) h dX12_wrong_18 (by decide) ?_
      refine pM_2 h dX12_wrong_22 (fun m5 hm5 => ?_)
      refine j_aload_n h dX12_wrong_25 rfl ?_
      refine j_aload_n h dX12_wrong_26 rfl ?_
      refine gM_7 h dX12_wrong_27 ?_
      refine pM_3 h dX12_wrong_30 (fun m6 hm6 => ?_)
      exact j_vret h rfl dX12_wrong_33
  · exact j_vret h rfl dX12_wrong_7
theorem dX12_isWord_0 : DD cX12_isWord 0 (.aload_n 0) 1 1 := ⟨by decide +kernel, rfl⟩
theorem dX12_isWord_1 : DD cX12_isWord 1 (.getfield 184) 3 4 := ⟨by decide +kernel, rfl⟩
theorem dX12_isWord_4 : DD cX12_isWord 4 (.iconst 1) 1 5 := ⟨by decide +kernel, rfl⟩
theorem dX12_isWord_5 : DD cX12_isWord 5 (.if_icmp .ne 16) 3 8 := ⟨by decide +kernel, rfl⟩
theorem dX12_isWord_8 : DD cX12_isWord 8 (.aload_n 0) 1 9 := ⟨by decide +kernel, rfl⟩
theorem dX12_isWord_9 : DD cX12_isWord 9 (.getfield 177) 3 12 := ⟨by decide +kernel, rfl⟩
theorem dX12_isWord_12 : DD cX12_isWord 12 (.lload_n 1) 1 13 := ⟨by decide +kernel, rfl⟩
theorem dX12_isWord_13 : DD cX12_isWord 13 (.lcmp) 1 14 := ⟨by decide +kernel, rfl⟩
theorem dX12_isWord_14 : DD cX12_isWord 14 (.ifCond .ne 7) 3 17 := ⟨by decide +kernel, rfl⟩
theorem dX12_isWord_17 : DD cX12_isWord 17 (.iconst 1) 1 18 := ⟨by decide +kernel, rfl⟩
theorem dX12_isWord_18 : DD cX12_isWord 18 (.goto 4) 3 21 := ⟨by decide +kernel, rfl⟩
theorem dX12_isWord_21 : DD cX12_isWord 21 (.iconst 0) 1 22 := ⟨by decide +kernel, rfl⟩
theorem dX12_isWord_22 : DD cX12_isWord 22 (.ireturn) 1 23 := ⟨by decide +kernel, rfl⟩
def fX12_isWord (m : Mem) (x1 : Int64) : Option Int32 := (if (m.1 0 6) = (1 : Int32) then (if (lg_cmp (m.2.1 0 9) x1) = 0 then (some (1 : Int32)) else (some (0 : Int32))) else (some (0 : Int32)))
set_option maxHeartbeats 4000000 in
set_option maxRecDepth 100000 in
theorem kX12_isWord (l : Launch) (G : Gt) (hD : ∀ m, va_D (inA G nM) (wM G m)) (m : Mem) (x1 : Int64) : ∀ a, fX12_isWord m x1 = some a → Ct l G wM nM yX12_isWord cX12_isWord 3 (some .boolean) 1 [.ref (G.2.2 0), .long x1] m ((cvP m) a) := by
  refine ct_of (own := RX12) (ls0 := [some (.ref (G.2.2 0)), some (.long x1), none]) (by decide) rfl rfl rfl (Nat.le_of_ble_eq_true rfl) hD (fun X h => ?_) l
  unfold fX12_isWord
  refine j_aload_n h dX12_isWord_0 rfl ?_
  refine gM_6 h dX12_isWord_1 ?_
  refine j_iconst (v := (1 : Int32)) h dX12_isWord_4 kiconst_1 ?_
  refine j_icmp_ne (tgt := 21) h dX12_isWord_5 (by decide) (fun c1 => ?_) (fun c1 => ?_)
  · refine j_iconst (v := (0 : Int32)) h dX12_isWord_21 kiconst_0 ?_
    exact j_zretB h rfl rfl dX12_isWord_22
  · refine j_aload_n h dX12_isWord_8 rfl ?_
    refine gM_9 h dX12_isWord_9 ?_
    refine j_lload_n h dX12_isWord_12 rfl ?_
    refine j_lcmp h dX12_isWord_13 ?_
    refine j_if_ne (tgt := 21) h dX12_isWord_14 (by decide) (fun c2 => ?_) (fun c2 => ?_)
    · refine j_iconst (v := (0 : Int32)) h dX12_isWord_21 kiconst_0 ?_
      exact j_zretB h rfl rfl dX12_isWord_22
    · refine j_iconst (v := (1 : Int32)) h dX12_isWord_17 kiconst_1 ?_
      refine j_goto (tgt := 22) h dX12_isWord_18 (by decide) ?_
      exact j_zretB h rfl rfl dX12_isWord_22
theorem dX12_isOwn_0 : DD cX12_isOwn 0 (.aload_n 0) 1 1 := ⟨by decide +kernel, rfl⟩
theorem dX12_isOwn_1 : DD cX12_isOwn 1 (.getfield 177) 3 4 := ⟨by decide +kernel, rfl⟩
theorem dX12_isOwn_4 : DD cX12_isOwn 4 (.ldc2_w 200) 3 7 := ⟨by decide +kernel, rfl⟩
theorem dX12_isOwn_7 : DD cX12_isOwn 7 (.lcmp) 1 8 := ⟨by decide +kernel, rfl⟩
theorem dX12_isOwn_8 : DD cX12_isOwn 8 (.ifCond .eq 201) 3 11 := ⟨by decide +kernel, rfl⟩
theorem dX12_isOwn_11 : DD cX12_isOwn 11 (.aload_n 0) 1 12 := ⟨by decide +kernel, rfl⟩
theorem dX12_isOwn_12 : DD cX12_isOwn 12 (.getfield 177) 3 15 := ⟨by decide +kernel, rfl⟩
theorem dX12_isOwn_15 : DD cX12_isOwn 15 (.ldc2_w 202) 3 18 := ⟨by decide +kernel, rfl⟩
theorem dX12_isOwn_18 : DD cX12_isOwn 18 (.lcmp) 1 19 := ⟨by decide +kernel, rfl⟩
theorem dX12_isOwn_19 : DD cX12_isOwn 19 (.ifCond .eq 190) 3 22 := ⟨by decide +kernel, rfl⟩
theorem dX12_isOwn_22 : DD cX12_isOwn 22 (.aload_n 0) 1 23 := ⟨by decide +kernel, rfl⟩
theorem dX12_isOwn_23 : DD cX12_isOwn 23 (.getfield 177) 3 26 := ⟨by decide +kernel, rfl⟩
theorem dX12_isOwn_26 : DD cX12_isOwn 26 (.ldc2_w 204) 3 29 := ⟨by decide +kernel, rfl⟩
theorem dX12_isOwn_29 : DD cX12_isOwn 29 (.lcmp) 1 30 := ⟨by decide +kernel, rfl⟩
theorem dX12_isOwn_30 : DD cX12_isOwn 30 (.ifCond .eq 179) 3 33 := ⟨by decide +kernel, rfl⟩
theorem dX12_isOwn_33 : DD cX12_isOwn 33 (.aload_n 0) 1 34 := ⟨by decide +kernel, rfl⟩
theorem dX12_isOwn_34 : DD cX12_isOwn 34 (.getfield 177) 3 37 := ⟨by decide +kernel, rfl⟩
theorem dX12_isOwn_37 : DD cX12_isOwn 37 (.ldc2_w 206) 3 40 := ⟨by decide +kernel, rfl⟩
theorem dX12_isOwn_40 : DD cX12_isOwn 40 (.lcmp) 1 41 := ⟨by decide +kernel, rfl⟩
theorem dX12_isOwn_41 : DD cX12_isOwn 41 (.ifCond .eq 168) 3 44 := ⟨by decide +kernel, rfl⟩
theorem dX12_isOwn_44 : DD cX12_isOwn 44 (.aload_n 0) 1 45 := ⟨by decide +kernel, rfl⟩
theorem dX12_isOwn_45 : DD cX12_isOwn 45 (.getfield 177) 3 48 := ⟨by decide +kernel, rfl⟩
theorem dX12_isOwn_48 : DD cX12_isOwn 48 (.ldc2_w 208) 3 51 := ⟨by decide +kernel, rfl⟩
theorem dX12_isOwn_51 : DD cX12_isOwn 51 (.lcmp) 1 52 := ⟨by decide +kernel, rfl⟩
theorem dX12_isOwn_52 : DD cX12_isOwn 52 (.ifCond .eq 157) 3 55 := ⟨by decide +kernel, rfl⟩
theorem dX12_isOwn_55 : DD cX12_isOwn 55 (.aload_n 0) 1 56 := ⟨by decide +kernel, rfl⟩
theorem dX12_isOwn_56 : DD cX12_isOwn 56 (.getfield 177) 3 59 := ⟨by decide +kernel, rfl⟩
theorem dX12_isOwn_59 : DD cX12_isOwn 59 (.ldc2_w 210) 3 62 := ⟨by decide +kernel, rfl⟩
theorem dX12_isOwn_62 : DD cX12_isOwn 62 (.lcmp) 1 63 := ⟨by decide +kernel, rfl⟩
theorem dX12_isOwn_63 : DD cX12_isOwn 63 (.ifCond .eq 146) 3 66 := ⟨by decide +kernel, rfl⟩
theorem dX12_isOwn_66 : DD cX12_isOwn 66 (.aload_n 0) 1 67 := ⟨by decide +kernel, rfl⟩
theorem dX12_isOwn_67 : DD cX12_isOwn 67 (.getfield 177) 3 70 := ⟨by decide +kernel, rfl⟩
theorem dX12_isOwn_70 : DD cX12_isOwn 70 (.ldc2_w 212) 3 73 := ⟨by decide +kernel, rfl⟩
theorem dX12_isOwn_73 : DD cX12_isOwn 73 (.lcmp) 1 74 := ⟨by decide +kernel, rfl⟩
theorem dX12_isOwn_74 : DD cX12_isOwn 74 (.ifCond .eq 135) 3 77 := ⟨by decide +kernel, rfl⟩
theorem dX12_isOwn_77 : DD cX12_isOwn 77 (.aload_n 0) 1 78 := ⟨by decide +kernel, rfl⟩
theorem dX12_isOwn_78 : DD cX12_isOwn 78 (.getfield 177) 3 81 := ⟨by decide +kernel, rfl⟩
theorem dX12_isOwn_81 : DD cX12_isOwn 81 (.ldc2_w 214) 3 84 := ⟨by decide +kernel, rfl⟩
theorem dX12_isOwn_84 : DD cX12_isOwn 84 (.lcmp) 1 85 := ⟨by decide +kernel, rfl⟩
theorem dX12_isOwn_85 : DD cX12_isOwn 85 (.ifCond .eq 124) 3 88 := ⟨by decide +kernel, rfl⟩
theorem dX12_isOwn_88 : DD cX12_isOwn 88 (.aload_n 0) 1 89 := ⟨by decide +kernel, rfl⟩
theorem dX12_isOwn_89 : DD cX12_isOwn 89 (.getfield 177) 3 92 := ⟨by decide +kernel, rfl⟩
theorem dX12_isOwn_92 : DD cX12_isOwn 92 (.ldc2_w 216) 3 95 := ⟨by decide +kernel, rfl⟩
theorem dX12_isOwn_95 : DD cX12_isOwn 95 (.lcmp) 1 96 := ⟨by decide +kernel, rfl⟩
theorem dX12_isOwn_96 : DD cX12_isOwn 96 (.ifCond .eq 113) 3 99 := ⟨by decide +kernel, rfl⟩
theorem dX12_isOwn_99 : DD cX12_isOwn 99 (.aload_n 0) 1 100 := ⟨by decide +kernel, rfl⟩
theorem dX12_isOwn_100 : DD cX12_isOwn 100 (.getfield 177) 3 103 := ⟨by decide +kernel, rfl⟩
theorem dX12_isOwn_103 : DD cX12_isOwn 103 (.ldc2_w 218) 3 106 := ⟨by decide +kernel, rfl⟩
theorem dX12_isOwn_106 : DD cX12_isOwn 106 (.lcmp) 1 107 := ⟨by decide +kernel, rfl⟩
theorem dX12_isOwn_107 : DD cX12_isOwn 107 (.ifCond .eq 102) 3 110 := ⟨by decide +kernel, rfl⟩
theorem dX12_isOwn_110 : DD cX12_isOwn 110 (.aload_n 0) 1 111 := ⟨by decide +kernel, rfl⟩
theorem dX12_isOwn_111 : DD cX12_isOwn 111 (.getfield 177) 3 114 := ⟨by decide +kernel, rfl⟩
theorem dX12_isOwn_114 : DD cX12_isOwn 114 (.ldc2_w 220) 3 117 := ⟨by decide +kernel, rfl⟩
theorem dX12_isOwn_117 : DD cX12_isOwn 117 (.lcmp) 1 118 := ⟨by decide +kernel, rfl⟩
theorem dX12_isOwn_118 : DD cX12_isOwn 118 (.ifCond .eq 91) 3 121 := ⟨by decide +kernel, rfl⟩
theorem dX12_isOwn_121 : DD cX12_isOwn 121 (.aload_n 0) 1 122 := ⟨by decide +kernel, rfl⟩
theorem dX12_isOwn_122 : DD cX12_isOwn 122 (.getfield 177) 3 125 := ⟨by decide +kernel, rfl⟩
theorem dX12_isOwn_125 : DD cX12_isOwn 125 (.ldc2_w 222) 3 128 := ⟨by decide +kernel, rfl⟩
theorem dX12_isOwn_128 : DD cX12_isOwn 128 (.lcmp) 1 129 := ⟨by decide +kernel, rfl⟩
theorem dX12_isOwn_129 : DD cX12_isOwn 129 (.ifCond .eq 80) 3 132 := ⟨by decide +kernel, rfl⟩
theorem dX12_isOwn_132 : DD cX12_isOwn 132 (.aload_n 0) 1 133 := ⟨by decide +kernel, rfl⟩
theorem dX12_isOwn_133 : DD cX12_isOwn 133 (.getfield 177) 3 136 := ⟨by decide +kernel, rfl⟩
theorem dX12_isOwn_136 : DD cX12_isOwn 136 (.ldc2_w 224) 3 139 := ⟨by decide +kernel, rfl⟩
theorem dX12_isOwn_139 : DD cX12_isOwn 139 (.lcmp) 1 140 := ⟨by decide +kernel, rfl⟩
theorem dX12_isOwn_140 : DD cX12_isOwn 140 (.ifCond .eq 69) 3 143 := ⟨by decide +kernel, rfl⟩
theorem dX12_isOwn_143 : DD cX12_isOwn 143 (.aload_n 0) 1 144 := ⟨by decide +kernel, rfl⟩
theorem dX12_isOwn_144 : DD cX12_isOwn 144 (.getfield 177) 3 147 := ⟨by decide +kernel, rfl⟩
theorem dX12_isOwn_147 : DD cX12_isOwn 147 (.ldc2_w 226) 3 150 := ⟨by decide +kernel, rfl⟩
theorem dX12_isOwn_150 : DD cX12_isOwn 150 (.lcmp) 1 151 := ⟨by decide +kernel, rfl⟩
theorem dX12_isOwn_151 : DD cX12_isOwn 151 (.ifCond .eq 58) 3 154 := ⟨by decide +kernel, rfl⟩
theorem dX12_isOwn_154 : DD cX12_isOwn 154 (.aload_n 0) 1 155 := ⟨by decide +kernel, rfl⟩
theorem dX12_isOwn_155 : DD cX12_isOwn 155 (.getfield 177) 3 158 := ⟨by decide +kernel, rfl⟩
theorem dX12_isOwn_158 : DD cX12_isOwn 158 (.ldc2_w 228) 3 161 := ⟨by decide +kernel, rfl⟩
theorem dX12_isOwn_161 : DD cX12_isOwn 161 (.lcmp) 1 162 := ⟨by decide +kernel, rfl⟩
theorem dX12_isOwn_162 : DD cX12_isOwn 162 (.ifCond .eq 47) 3 165 := ⟨by decide +kernel, rfl⟩
theorem dX12_isOwn_165 : DD cX12_isOwn 165 (.aload_n 0) 1 166 := ⟨by decide +kernel, rfl⟩
theorem dX12_isOwn_166 : DD cX12_isOwn 166 (.getfield 177) 3 169 := ⟨by decide +kernel, rfl⟩
theorem dX12_isOwn_169 : DD cX12_isOwn 169 (.ldc2_w 230) 3 172 := ⟨by decide +kernel, rfl⟩
theorem dX12_isOwn_172 : DD cX12_isOwn 172 (.lcmp) 1 173 := ⟨by decide +kernel, rfl⟩
theorem dX12_isOwn_173 : DD cX12_isOwn 173 (.ifCond .eq 36) 3 176 := ⟨by decide +kernel, rfl⟩
theorem dX12_isOwn_176 : DD cX12_isOwn 176 (.aload_n 0) 1 177 := ⟨by decide +kernel, rfl⟩
theorem dX12_isOwn_177 : DD cX12_isOwn 177 (.getfield 177) 3 180 := ⟨by decide +kernel, rfl⟩
theorem dX12_isOwn_180 : DD cX12_isOwn 180 (.ldc2_w 232) 3 183 := ⟨by decide +kernel, rfl⟩
theorem dX12_isOwn_183 : DD cX12_isOwn 183 (.lcmp) 1 184 := ⟨by decide +kernel, rfl⟩
theorem dX12_isOwn_184 : DD cX12_isOwn 184 (.ifCond .eq 25) 3 187 := ⟨by decide +kernel, rfl⟩
theorem dX12_isOwn_187 : DD cX12_isOwn 187 (.aload_n 0) 1 188 := ⟨by decide +kernel, rfl⟩
theorem dX12_isOwn_188 : DD cX12_isOwn 188 (.getfield 177) 3 191 := ⟨by decide +kernel, rfl⟩
theorem dX12_isOwn_191 : DD cX12_isOwn 191 (.ldc2_w 234) 3 194 := ⟨by decide +kernel, rfl⟩
theorem dX12_isOwn_194 : DD cX12_isOwn 194 (.lcmp) 1 195 := ⟨by decide +kernel, rfl⟩
theorem dX12_isOwn_195 : DD cX12_isOwn 195 (.ifCond .eq 14) 3 198 := ⟨by decide +kernel, rfl⟩
theorem dX12_isOwn_198 : DD cX12_isOwn 198 (.aload_n 0) 1 199 := ⟨by decide +kernel, rfl⟩
theorem dX12_isOwn_199 : DD cX12_isOwn 199 (.getfield 177) 3 202 := ⟨by decide +kernel, rfl⟩
theorem dX12_isOwn_202 : DD cX12_isOwn 202 (.ldc2_w 236) 3 205 := ⟨by decide +kernel, rfl⟩
theorem dX12_isOwn_205 : DD cX12_isOwn 205 (.lcmp) 1 206 := ⟨by decide +kernel, rfl⟩
theorem dX12_isOwn_206 : DD cX12_isOwn 206 (.ifCond .ne 7) 3 209 := ⟨by decide +kernel, rfl⟩
theorem dX12_isOwn_209 : DD cX12_isOwn 209 (.iconst 1) 1 210 := ⟨by decide +kernel, rfl⟩
theorem dX12_isOwn_210 : DD cX12_isOwn 210 (.goto 4) 3 213 := ⟨by decide +kernel, rfl⟩
theorem dX12_isOwn_213 : DD cX12_isOwn 213 (.iconst 0) 1 214 := ⟨by decide +kernel, rfl⟩
theorem dX12_isOwn_214 : DD cX12_isOwn 214 (.ireturn) 1 215 := ⟨by decide +kernel, rfl⟩
def fX12_isOwn (m : Mem) : Option Int32 := (if (lg_cmp (m.2.1 0 9) (123581014175598 : Int64)) = 0 then (some (1 : Int32)) else (if (lg_cmp (m.2.1 0 9) (24948 : Int64)) = 0 then (some (1 : Int32)) else (if (lg_cmp (m.2.1 0 9) (474214787188 : Int64)) = 0 then (some (1 : Int32)) else (if (lg_cmp (m.2.1 0 9) (448445441893 : Int64)) = 0 then (some (1 : Int32)) else (if (lg_cmp (m.2.1 0 9) (1835361652 : Int64)) = 0 then (some (1 : Int32)) else (if (lg_cmp (m.2.1 0 9) (448546566771 : Int64)) = 0 then (some (1 : Int32)) else (if (lg_cmp (m.2.1 0 9) (512970880104 : Int64)) = 0 then (some (1 : Int32)) else (if (lg_cmp (m.2.1 0 9) (474315584357 : Int64)) = 0 then (some (1 : Int32)) else (if (lg_cmp (m.2.1 0 9) (1819243876 : Int64)) = 0 then (some (1 : Int32)) else (if (lg_cmp (m.2.1 0 9) (33602636119176556 : Int64)) = 0 then (some (1 : Int32)) else (if (lg_cmp (m.2.1 0 9) (1684109166 : Int64)) = 0 then (some (1 : Int32)) else (if (lg_cmp (m.2.1 0 9) (1685418859 : Int64)) = 0 then (some (1 : Int32)) else (if (lg_cmp (m.2.1 0 9) (1751216749 : Int64)) = 0 then (some (1 : Int32)) else (if (lg_cmp (m.2.1 0 9) (1684108389 : Int64)) = 0 then (some (1 : Int32)) else (if (lg_cmp (m.2.1 0 9) (1752135026 : Int64)) = 0 then (some (1 : Int32)) else (if (lg_cmp (m.2.1 0 9) (6709618 : Int64)) = 0 then (some (1 : Int32)) else (if (lg_cmp (m.2.1 0 9) (6385252 : Int64)) = 0 then (some (1 : Int32)) else (if (lg_cmp (m.2.1 0 9) (28530 : Int64)) = 0 then (some (1 : Int32)) else (if (lg_cmp (m.2.1 0 9) (7237492 : Int64)) = 0 then (some (1 : Int32)) else (some (0 : Int32)))))))))))))))))))))
set_option maxHeartbeats 4000000 in
set_option maxRecDepth 100000 in
theorem kX12_isOwn (l : Launch) (G : Gt) (hD : ∀ m, va_D (inA G nM) (wM G m)) (m : Mem) : ∀ a, fX12_isOwn m = some a → Ct l G wM nM yX12_isOwn cX12_isOwn 1 (some .boolean) 1 [.ref (G.2.2 0)] m ((cvP m) a) := by
  refine ct_of (own := RX12) (ls0 := [some (.ref (G.2.2 0))]) (by decide) rfl rfl rfl (Nat.le_of_ble_eq_true rfl) hD (fun X h => ?_) l
  unfold fX12_isOwn
  refine j_aload_n h dX12_isOwn_0 rfl ?_
  refine gM_9 h dX12_isOwn_1 ?_
  refine j_ldc2 (v := (123581014175598 : Int64)) h dX12_isOwn_4 cl12_200 ?_
  refine j_lcmp h dX12_isOwn_7 ?_
  refine j_if_eq (tgt := 209) h dX12_isOwn_8 (by decide) (fun c1 => ?_) (fun c1 => ?_)
  · refine j_iconst (v := (1 : Int32)) h dX12_isOwn_209 kiconst_1 ?_
    refine j_goto (tgt := 214) h dX12_isOwn_210 (by decide) ?_
    exact j_zretB h rfl rfl dX12_isOwn_214
  · refine j_aload_n h dX12_isOwn_11 rfl ?_
    refine gM_9 h dX12_isOwn_12 ?_
    refine j_ldc2 (v := (24948 : Int64)) h dX12_isOwn_15 cl12_202 ?_
    refine j_lcmp h dX12_isOwn_18 ?_
    refine j_if_eq (tgt := 209) h dX12_isOwn_19 (by decide) (fun c2 => ?_) (fun c2 => ?_)
    · refine j_iconst (v := (1 : Int32)) h dX12_isOwn_209 kiconst_1 ?_
      refine j_goto (tgt := 214) h dX12_isOwn_210 (by decide) ?_
      exact j_zretB h rfl rfl dX12_isOwn_214
    · refine j_aload_n h dX12_isOwn_22 rfl ?_
      refine gM_9 h dX12_isOwn_23 ?_
      refine j_ldc2 (v := (474214787188 : Int64)) h dX12_isOwn_26 cl12_204 ?_
      refine j_lcmp h dX12_isOwn_29 ?_
      refine j_if_eq (tgt := 209) h dX12_isOwn_30 (by decide) (fun c3 => ?_) (fun c3 => ?_)
      · refine j_iconst (v := (1 : Int32)) h dX12_isOwn_209 kiconst_1 ?_
        refine j_goto (tgt := 214) h dX12_isOwn_210 (by decide) ?_
        exact j_zretB h rfl rfl dX12_isOwn_214
      · refine j_aload_n h dX12_isOwn_33 rfl ?_
        refine gM_9 h dX12_isOwn_34 ?_
        refine j_ldc2 (v := (448445441893 : Int64)) h dX12_isOwn_37 cl12_206 ?_
        refine j_lcmp h dX12_isOwn_40 ?_
        refine j_if_eq (tgt := 209) h dX12_isOwn_41 (by decide) (fun c4 => ?_) (fun c4 => ?_)
        · refine j_iconst (v := (1 : Int32)) h dX12_isOwn_209 kiconst_1 ?_
          refine j_goto (tgt := 214) h dX12_isOwn_210 (by decide) ?_
          exact j_zretB h rfl rfl dX12_isOwn_214
        · refine j_aload_n h dX12_isOwn_44 rfl ?_
          refine gM_9 h dX12_isOwn_45 ?_
          refine j_ldc2 (v := (1835361652 : Int64)) h dX12_isOwn_48 cl12_208 ?_
          refine j_lcmp h dX12_isOwn_51 ?_
          refine j_if_eq (tgt := 209) h dX12_isOwn_52 (by decide) (fun c5 => ?_) (fun c5 => ?_)
          · refine j_iconst (v := (1 : Int32)) h dX12_isOwn_209 kiconst_1 ?_
            refine j_goto (tgt := 214) h dX12_isOwn_210 (by decide) ?_
            exact j_zretB h rfl rfl dX12_isOwn_214
          · refine j_aload_n h dX12_isOwn_55 rfl ?_
            refine gM_9 h dX12_isOwn_56 ?_
            refine j_ldc2 (v := (448546566771 : Int64)) h dX12_isOwn_59 cl12_210 ?_
            refine j_lcmp h dX12_isOwn_62 ?_
            refine j_if_eq (tgt := 209) h dX12_isOwn_63 (by decide) (fun c6 => ?_) (fun c6 => ?_)
            · refine j_iconst (v := (1 : Int32)) h dX12_isOwn_209 kiconst_1 ?_
              refine j_goto (tgt := 214) h dX12_isOwn_210 (by decide) ?_
              exact j_zretB h rfl rfl dX12_isOwn_214
            · refine j_aload_n h dX12_isOwn_66 rfl ?_
              refine gM_9 h dX12_isOwn_67 ?_
              refine j_ldc2 (v := (512970880104 : Int64)) h dX12_isOwn_70 cl12_212 ?_
              refine j_lcmp h dX12_isOwn_73 ?_
              refine j_if_eq (tgt := 209) h dX12_isOwn_74 (by decide) (fun c7 => ?_) (fun c7 => ?_)
              · refine j_iconst (v := (1 : Int32)) h dX12_isOwn_209 kiconst_1 ?_
                refine j_goto (tgt := 214) h dX12_isOwn_210 (by decide) ?_
                exact j_zretB h rfl rfl dX12_isOwn_214
              · refine j_aload_n h dX12_isOwn_77 rfl ?_
                refine gM_9 h dX12_isOwn_78 ?_
                refine j_ldc2 (v := (474315584357 : Int64)) h dX12_isOwn_81 cl12_214 ?_
                refine j_lcmp h dX12_isOwn_84 ?_
                refine j_if_eq (tgt := 209) h dX12_isOwn_85 (by decide) (fun c8 => ?_) (fun c8 => ?_)
                · refine j_iconst (v := (1 : Int32)) h dX12_isOwn_209 kiconst_1 ?_
                  refine j_goto (tgt := 214) h dX12_isOwn_210 (by decide) ?_
                  exact j_zretB h rfl rfl dX12_isOwn_214
                · refine j_aload_n h dX12_isOwn_88 rfl ?_
                  refine gM_9 h dX12_isOwn_89 ?_
                  refine j_ldc2 (v := (1819243876 : Int64)) h dX12_isOwn_92 cl12_216 ?_
                  refine j_lcmp h dX12_isOwn_95 ?_
                  refine j_if_eq (tgt := 209) h dX12_isOwn_96 (by decide) (fun c9 => ?_) (fun c9 => ?_)
                  · refine j_iconst (v := (1 : Int32)) h dX12_isOwn_209 kiconst_1 ?_
                    refine j_goto (tgt := 214) h dX12_isOwn_210 (by decide) ?_
                    exact j_zretB h rfl rfl dX12_isOwn_214
                  · refine j_aload_n h dX12_isOwn_99 rfl ?_
                    refine gM_9 h dX12_isOwn_100 ?_
                    refine j_ldc2 (v := (33602636119176556 : Int64)) h dX12_isOwn_103 cl12_218 ?_
                    refine j_lcmp h dX12_isOwn_106 ?_
                    refine j_if_eq (tgt := 209) h dX12_isOwn_107 (by decide) (fun c10 => ?_) (fun c10 => ?_)
                    · refine j_iconst (v := (1 : Int32)) h dX12_isOwn_209 kiconst_1 ?_
                      refine j_goto (tgt := 214) h dX12_isOwn_210 (by decide) ?_
                      exact j_zretB h rfl rfl dX12_isOwn_214
                    · refine j_aload_n h dX12_isOwn_110 rfl ?_
                      refine gM_9 h dX12_isOwn_111 ?_
                      refine j_ldc2 (v := (1684109166 : Int64)) h dX12_isOwn_114 cl12_220 ?_
                      refine j_lcmp h dX12_isOwn_117 ?_
                      refine j_if_eq (tgt := 209) h dX12_isOwn_118 (by decide) (fun c11 => ?_) (fun c11 => ?_)
                      · refine j_iconst (v := (1 : Int32)) h dX12_isOwn_209 kiconst_1 ?_
                        refine j_goto (tgt := 214) h dX12_isOwn_210 (by decide) ?_
                        exact j_zretB h rfl rfl dX12_isOwn_214
                      · refine j_aload_n h dX12_isOwn_121 rfl ?_
                        refine gM_9 h dX12_isOwn_122 ?_
                        refine j_ldc2 (v := (1685418859 : Int64)) h dX12_isOwn_125 cl12_222 ?_
                        refine j_lcmp h dX12_isOwn_128 ?_
                        refine j_if_eq (tgt := 209) h dX12_isOwn_129 (by decide) (fun c12 => ?_) (fun c12 => ?_)
                        · refine j_iconst (v := (1 : Int32)) h dX12_isOwn_209 kiconst_1 ?_
                          refine j_goto (tgt := 214) h dX12_isOwn_210 (by decide) ?_
                          exact j_zretB h rfl rfl dX12_isOwn_214
                        · refine j_aload_n h dX12_isOwn_132 rfl ?_
                          refine gM_9 h dX12_isOwn_133 ?_
                          refine j_ldc2 (v := (1751216749 : Int64)) h dX12_isOwn_136 cl12_224 ?_
                          refine j_lcmp h dX12_isOwn_139 ?_
                          refine j_if_eq (tgt := 209) h dX12_isOwn_140 (by decide) (fun c13 => ?_) (fun c13 => ?_)
                          · refine j_iconst (v := (1 : Int32)) h dX12_isOwn_209 kiconst_1 ?_
                            refine j_goto (tgt := 214) h dX12_isOwn_210 (by decide) ?_
                            exact j_zretB h rfl rfl dX12_isOwn_214
                          · refine j_aload_n h dX12_isOwn_143 rfl ?_
                            refine gM_9 h dX12_isOwn_144 ?_
                            refine j_ldc2 (v := (1684108389 : Int64)) h dX12_isOwn_147 cl12_226 ?_
                            refine j_lcmp h dX12_isOwn_150 ?_
                            refine j_if_eq (tgt := 209) h dX12_isOwn_151 (by decide) (fun c14 => ?_) (fun c14 => ?_)
                            · refine j_iconst (v := (1 : Int32)) h dX12_isOwn_209 kiconst_1 ?_
                              refine j_goto (tgt := 214) h dX12_isOwn_210 (by decide) ?_
                              exact j_zretB h rfl rfl dX12_isOwn_214
                            · refine j_aload_n h dX12_isOwn_154 rfl ?_
                              refine gM_9 h dX12_isOwn_155 ?_
                              refine j_ldc2 (v := (1752135026 : Int64)) h dX12_isOwn_158 cl12_228 ?_
                              refine j_lcmp h dX12_isOwn_161 ?_
                              refine j_if_eq (tgt := 209) h dX12_isOwn_162 (by decide) (fun c15 => ?_) (fun c15 => ?_)
                              · refine j_iconst (v := (1 : Int32)) h dX12_isOwn_209 kiconst_1 ?_
                                refine j_goto (tgt := 214) h dX12_isOwn_210 (by decide) ?_
                                exact j_zretB h rfl rfl dX12_isOwn_214
                              · refine j_aload_n h dX12_isOwn_165 rfl ?_
                                refine gM_9 h dX12_isOwn_166 ?_
                                refine j_ldc2 (v := (6709618 : Int64)) h dX12_isOwn_169 cl12_230 ?_
                                refine j_lcmp h dX12_isOwn_172 ?_
                                refine j_if_eq (tgt := 209) h dX12_isOwn_173 (by decide) (fun c16 => ?_) (fun c16 => ?_)
                                · refine j_iconst (v := (1 : Int32)) h dX12_isOwn_209 kiconst_1 ?_
                                  refine j_goto (tgt := 214) h dX12_isOwn_210 (by decide) ?_
                                  exact j_zretB h rfl rfl dX12_isOwn_214
                                · refine j_aload_n h dX12_isOwn_176 rfl ?_
                                  refine gM_9 h dX12_isOwn_177 ?_
                                  refine j_ldc2 (v := (6385252 : Int64)) h dX12_isOwn_180 cl12_232 ?_
                                  refine j_lcmp h dX12_isOwn_183 ?_
                                  refine j_if_eq (tgt := 209) h dX12_isOwn_184 (by decide) (fun c17 => ?_) (fun c17 => ?_)
                                  · refine j_iconst (v := (1 : Int32)) h dX12_isOwn_209 kiconst_1 ?_
                                    refine j_goto (tgt := 214) h dX12_isOwn_210 (by decide) ?_
                                    exact j_zretB h rfl rfl dX12_isOwn_214
                                  · refine j_aload_n h dX12_isOwn_187 rfl ?_
                                    refine gM_9 h dX12_isOwn_188 ?_
                                    refine j_ldc2 (v := (28530 : Int64)) h dX12_isOwn_191 cl12_234 ?_
                                    refine j_lcmp h dX12_isOwn_194 ?_
                                    refine j_if_eq (tgt := 209) h dX12_isOwn_195 (by decide) (fun c18 => ?_) (fun c18 => ?_)
                                    · refine j_iconst (v := (1 : Int32)) h dX12_isOwn_209 kiconst_1 ?_
                                      refine j_goto (tgt := 214) h dX12_isOwn_210 (by decide) ?_
                                      exact j_zretB h rfl rfl dX12_isOwn_214
                                    · refine j_aload_n h dX12_isOwn_198 rfl ?_
                                      refine gM_9 h dX12_isOwn_199 ?_
                                      refine j_ldc2 (v := (7237492 : Int64)) h dX12_isOwn_202 cl12_236 ?_
                                      refine j_lcmp h dX12_isOwn_205 ?_
                                      refine j_if_ne (tgt := 213) h dX12_isOwn_206 (by decide) (fun c19 => ?_) (fun c19 => ?_)
                                      · refine j_iconst (v := (0 : Int32)) h dX12_isOwn_213 kiconst_0 ?_
                                        exact j_zretB h rfl rfl dX12_isOwn_214
                                      · refine j_iconst (v := (1 : Int32)) h dX12_isOwn_209 kiconst_1 ?_
                                        refine j_goto (tgt := 214) h dX12_isOwn_210 (by decide) ?_
                                        exact j_zretB h rfl rfl dX12_isOwn_214
theorem dX12_isName_0 : DD cX12_isName 0 (.aload_n 0) 1 1 := ⟨by decide +kernel, rfl⟩
theorem dX12_isName_1 : DD cX12_isName 1 (.getfield 184) 3 4 := ⟨by decide +kernel, rfl⟩
theorem dX12_isName_4 : DD cX12_isName 4 (.iconst 1) 1 5 := ⟨by decide +kernel, rfl⟩
theorem dX12_isName_5 : DD cX12_isName 5 (.if_icmp .ne 14) 3 8 := ⟨by decide +kernel, rfl⟩
theorem dX12_isName_8 : DD cX12_isName 8 (.aload_n 0) 1 9 := ⟨by decide +kernel, rfl⟩
theorem dX12_isName_9 : DD cX12_isName 9 (.invokevirtual 238) 3 12 := ⟨by decide +kernel, rfl⟩
theorem dX12_isName_12 : DD cX12_isName 12 (.ifCond .ne 7) 3 15 := ⟨by decide +kernel, rfl⟩
theorem dX12_isName_15 : DD cX12_isName 15 (.iconst 1) 1 16 := ⟨by decide +kernel, rfl⟩
theorem dX12_isName_16 : DD cX12_isName 16 (.goto 4) 3 19 := ⟨by decide +kernel, rfl⟩
theorem dX12_isName_19 : DD cX12_isName 19 (.iconst 0) 1 20 := ⟨by decide +kernel, rfl⟩
theorem dX12_isName_20 : DD cX12_isName 20 (.ireturn) 1 21 := ⟨by decide +kernel, rfl⟩
def fX12_isName (m : Mem) : Option Int32 := (if (m.1 0 6) = (1 : Int32) then (cP (fX12_isOwn m) fun r2 => (if r2 = 0 then (some (1 : Int32)) else (some (0 : Int32)))) else (some (0 : Int32)))
set_option maxHeartbeats 4000000 in
set_option maxRecDepth 100000 in
theorem kX12_isName (l : Launch) (G : Gt) (hD : ∀ m, va_D (inA G nM) (wM G m)) (m : Mem) : ∀ a, fX12_isName m = some a → Ct l G wM nM yX12_isName cX12_isName 1 (some .boolean) 2 [.ref (G.2.2 0)] m ((cvP m) a) := by
  refine ct_of (own := RX12) (ls0 := [some (.ref (G.2.2 0))]) (by decide) rfl rfl rfl (Nat.le_of_ble_eq_true rfl) hD (fun X h => ?_) l
  unfold fX12_isName
  refine j_aload_n h dX12_isName_0 rfl ?_
  refine gM_6 h dX12_isName_1 ?_
  refine j_iconst (v := (1 : Int32)) h dX12_isName_4 kiconst_1 ?_
  refine j_icmp_ne (tgt := 19) h dX12_isName_5 (by decide) (fun c1 => ?_) (fun c1 => ?_)
  · refine j_iconst (v := (0 : Int32)) h dX12_isName_19 kiconst_0 ?_
    exact j_zretB h rfl rfl dX12_isName_20
  · refine j_aload_n h dX12_isName_8 rfl ?_
    refine j_callVP (q0 := 0) (ci := 12) h [] (kX12_isOwn _ G h.2.2.2.2.2.2.2.2.2.2 m) okX12_isOwn inX12_isOwn ml12_238 rfl rfl rfl rfl (by decide) (by decide) (Nat.le_of_ble_eq_true rfl) rfl dX12_isName_9 (fun r2 hr2 => ?_)
    refine j_if_ne (tgt := 19) h dX12_isName_12 (by decide) (fun c4 => ?_) (fun c4 => ?_)
    · refine j_iconst (v := (0 : Int32)) h dX12_isName_19 kiconst_0 ?_
      exact j_zretB h rfl rfl dX12_isName_20
    · refine j_iconst (v := (1 : Int32)) h dX12_isName_15 kiconst_1 ?_
      refine j_goto (tgt := 20) h dX12_isName_16 (by decide) ?_
      exact j_zretB h rfl rfl dX12_isName_20
theorem dX12_want_0 : DD cX12_want 0 (.aload_n 0) 1 1 := ⟨by decide +kernel, rfl⟩
theorem dX12_want_1 : DD cX12_want 1 (.getfield 197) 3 4 := ⟨by decide +kernel, rfl⟩
theorem dX12_want_4 : DD cX12_want 4 (.ifCond .le 4) 3 7 := ⟨by decide +kernel, rfl⟩
theorem dX12_want_7 : DD cX12_want 7 (.return_) 1 8 := ⟨by decide +kernel, rfl⟩
theorem dX12_want_8 : DD cX12_want 8 (.aload_n 0) 1 9 := ⟨by decide +kernel, rfl⟩
theorem dX12_want_9 : DD cX12_want 9 (.lload_n 1) 1 10 := ⟨by decide +kernel, rfl⟩
theorem dX12_want_10 : DD cX12_want 10 (.invokevirtual 242) 3 13 := ⟨by decide +kernel, rfl⟩
theorem dX12_want_13 : DD cX12_want 13 (.ifCond .ne 11) 3 16 := ⟨by decide +kernel, rfl⟩
theorem dX12_want_16 : DD cX12_want 16 (.aload_n 0) 1 17 := ⟨by decide +kernel, rfl⟩
theorem dX12_want_17 : DD cX12_want 17 (.iconst 2) 1 18 := ⟨by decide +kernel, rfl⟩
theorem dX12_want_18 : DD cX12_want 18 (.invokevirtual 246) 3 21 := ⟨by decide +kernel, rfl⟩
theorem dX12_want_21 : DD cX12_want 21 (.goto 7) 3 24 := ⟨by decide +kernel, rfl⟩
theorem dX12_want_24 : DD cX12_want 24 (.aload_n 0) 1 25 := ⟨by decide +kernel, rfl⟩
theorem dX12_want_25 : DD cX12_want 25 (.invokevirtual 249) 3 28 := ⟨by decide +kernel, rfl⟩
theorem dX12_want_28 : DD cX12_want 28 (.return_) 1 29 := ⟨by decide +kernel, rfl⟩
def fX12_want (m : Mem) (x1 : Int64) : Option Mem := (if (m.1 0 2) ≤ 0 then (cP (fX12_isWord m x1) fun r2 => (if r2 = 0 then (cV (fX12_wrong m (2 : Int32)) fun m8 => (some m8)) else (cV (fX12_token m) fun m6 => (some m6)))) else (some m))
set_option maxHeartbeats 4000000 in
set_option maxRecDepth 100000 in
theorem kX12_want (l : Launch) (G : Gt) (hD : ∀ m, va_D (inA G nM) (wM G m)) (m : Mem) (x1 : Int64) : ∀ a, fX12_want m x1 = some a → Ct l G wM nM yX12_want cX12_want 3 none 3 [.ref (G.2.2 0), .long x1] m (cvV a) := by
  refine ct_of (own := RX12) (ls0 := [some (.ref (G.2.2 0)), some (.long x1), none]) (by decide) rfl rfl rfl (Nat.le_of_ble_eq_true rfl) hD (fun X h => ?_) l
  unfold fX12_want
  refine j_aload_n h dX12_want_0 rfl ?_
  refine gM_2 h dX12_want_1 ?_
  refine j_if_le (tgt := 8) h dX12_want_4 (by decide) (fun c1 => ?_) (fun c1 => ?_)
  · refine j_aload_n h dX12_want_8 rfl ?_
    refine j_lload_n h dX12_want_9 rfl ?_
    refine j_callVP (q0 := 0) (ci := 12) h [.long x1] (kX12_isWord _ G h.2.2.2.2.2.2.2.2.2.2 m x1) okX12_isWord inX12_isWord ml12_242 rfl rfl rfl rfl (by decide) (by decide) (Nat.le_of_ble_eq_true rfl) rfl dX12_want_10 (fun r2 hr2 => ?_)
    refine j_if_ne (tgt := 24) h dX12_want_13 (by decide) (fun c4 => ?_) (fun c4 => ?_)
    · refine j_aload_n h dX12_want_24 rfl ?_
      refine j_callVV (q0 := 0) (ci := 12) h [] (kX12_token _ G h.2.2.2.2.2.2.2.2.2.2 m) okX12_token inX12_token ml12_249 rfl rfl rfl rfl (by decide) (by decide) (Nat.le_of_ble_eq_true rfl) rfl dX12_want_25 (fun m6 hm6 => ?_)
      exact j_vret h rfl dX12_want_28
    · refine j_aload_n h dX12_want_16 rfl ?_
      refine j_iconst (v := (2 : Int32)) h dX12_want_17 kiconst_2 ?_
      refine j_callVV (q0 := 0) (ci := 12) h [.int (2 : Int32)] (kX12_wrong _ G h.2.2.2.2.2.2.2.2.2.2 m (2 : Int32)) okX12_wrong inX12_wrong ml12_246 rfl rfl rfl rfl (by decide) (by decide) (Nat.le_of_ble_eq_true rfl) rfl dX12_want_18 (fun m8 hm8 => ?_)
      refine j_goto (tgt := 28) h dX12_want_21 (by decide) ?_
      exact j_vret h rfl dX12_want_28
  · exact j_vret h rfl dX12_want_7
theorem dX12_toldNumber_0 : DD cX12_toldNumber 0 (.aload_n 0) 1 1 := ⟨by decide +kernel, rfl⟩
theorem dX12_toldNumber_1 : DD cX12_toldNumber 1 (.getfield 197) 3 4 := ⟨by decide +kernel, rfl⟩
theorem dX12_toldNumber_4 : DD cX12_toldNumber 4 (.ifCond .le 5) 3 7 := ⟨by decide +kernel, rfl⟩
theorem dX12_toldNumber_7 : DD cX12_toldNumber 7 (.iconst 0) 1 8 := ⟨by decide +kernel, rfl⟩
theorem dX12_toldNumber_8 : DD cX12_toldNumber 8 (.ireturn) 1 9 := ⟨by decide +kernel, rfl⟩
theorem dX12_toldNumber_9 : DD cX12_toldNumber 9 (.aload_n 0) 1 10 := ⟨by decide +kernel, rfl⟩
theorem dX12_toldNumber_10 : DD cX12_toldNumber 10 (.getfield 184) 3 13 := ⟨by decide +kernel, rfl⟩
theorem dX12_toldNumber_13 : DD cX12_toldNumber 13 (.iconst 2) 1 14 := ⟨by decide +kernel, rfl⟩
theorem dX12_toldNumber_14 : DD cX12_toldNumber 14 (.if_icmp .eq 11) 3 17 := ⟨by decide +kernel, rfl⟩
theorem dX12_toldNumber_17 : DD cX12_toldNumber 17 (.aload_n 0) 1 18 := ⟨by decide +kernel, rfl⟩
theorem dX12_toldNumber_18 : DD cX12_toldNumber 18 (.iconst 2) 1 19 := ⟨by decide +kernel, rfl⟩
theorem dX12_toldNumber_19 : DD cX12_toldNumber 19 (.invokevirtual 246) 3 22 := ⟨by decide +kernel, rfl⟩
theorem dX12_toldNumber_22 : DD cX12_toldNumber 22 (.goto 24) 3 25 := ⟨by decide +kernel, rfl⟩
theorem dX12_toldNumber_25 : DD cX12_toldNumber 25 (.aload_n 0) 1 26 := ⟨by decide +kernel, rfl⟩
theorem dX12_toldNumber_26 : DD cX12_toldNumber 26 (.getfield 181) 3 29 := ⟨by decide +kernel, rfl⟩
theorem dX12_toldNumber_29 : DD cX12_toldNumber 29 (.iload_n 1) 1 30 := ⟨by decide +kernel, rfl⟩
theorem dX12_toldNumber_30 : DD cX12_toldNumber 30 (.if_icmp .lt 11) 3 33 := ⟨by decide +kernel, rfl⟩
theorem dX12_toldNumber_33 : DD cX12_toldNumber 33 (.aload_n 0) 1 34 := ⟨by decide +kernel, rfl⟩
theorem dX12_toldNumber_34 : DD cX12_toldNumber 34 (.getfield 181) 3 37 := ⟨by decide +kernel, rfl⟩
theorem dX12_toldNumber_37 : DD cX12_toldNumber 37 (.iload_n 2) 1 38 := ⟨by decide +kernel, rfl⟩
theorem dX12_toldNumber_38 : DD cX12_toldNumber 38 (.if_icmp .le 8) 3 41 := ⟨by decide +kernel, rfl⟩
theorem dX12_toldNumber_41 : DD cX12_toldNumber 41 (.aload_n 0) 1 42 := ⟨by decide +kernel, rfl⟩
theorem dX12_toldNumber_42 : DD cX12_toldNumber 42 (.iconst 4) 1 43 := ⟨by decide +kernel, rfl⟩
theorem dX12_toldNumber_43 : DD cX12_toldNumber 43 (.invokevirtual 246) 3 46 := ⟨by decide +kernel, rfl⟩
theorem dX12_toldNumber_46 : DD cX12_toldNumber 46 (.aload_n 0) 1 47 := ⟨by decide +kernel, rfl⟩
theorem dX12_toldNumber_47 : DD cX12_toldNumber 47 (.getfield 181) 3 50 := ⟨by decide +kernel, rfl⟩
theorem dX12_toldNumber_50 : DD cX12_toldNumber 50 (.istore_n 3) 1 51 := ⟨by decide +kernel, rfl⟩
theorem dX12_toldNumber_51 : DD cX12_toldNumber 51 (.aload_n 0) 1 52 := ⟨by decide +kernel, rfl⟩
theorem dX12_toldNumber_52 : DD cX12_toldNumber 52 (.getfield 197) 3 55 := ⟨by decide +kernel, rfl⟩
theorem dX12_toldNumber_55 : DD cX12_toldNumber 55 (.ifCond .ne 7) 3 58 := ⟨by decide +kernel, rfl⟩
theorem dX12_toldNumber_58 : DD cX12_toldNumber 58 (.aload_n 0) 1 59 := ⟨by decide +kernel, rfl⟩
theorem dX12_toldNumber_59 : DD cX12_toldNumber 59 (.invokevirtual 249) 3 62 := ⟨by decide +kernel, rfl⟩
theorem dX12_toldNumber_62 : DD cX12_toldNumber 62 (.iload_n 3) 1 63 := ⟨by decide +kernel, rfl⟩
theorem dX12_toldNumber_63 : DD cX12_toldNumber 63 (.ireturn) 1 64 := ⟨by decide +kernel, rfl⟩
def fX12_toldNumber (m : Mem) (x1 : Int32) (x2 : Int32) : Option (Int32 × Mem) := (if (m.1 0 2) ≤ 0 then (if (m.1 0 6) = (2 : Int32) then (if (m.1 0 8) < x1 then (cV (fX12_wrong m (4 : Int32)) fun m5 => (nm (m5.1 0 8) fun v6 => (if (m5.1 0 2) = 0 then (cV (fX12_token m5) fun m9 => (some (v6, m9))) else (some (v6, m5))))) else (if (m.1 0 8) ≤ x2 then (nm (m.1 0 8) fun v11 => (if (m.1 0 2) = 0 then (cV (fX12_token m) fun m14 => (some (v11, m14))) else (some (v11, m)))) else (cV (fX12_wrong m (4 : Int32)) fun m16 => (nm (m16.1 0 8) fun v17 => (if (m16.1 0 2) = 0 then (cV (fX12_token m16) fun m20 => (some (v17, m20))) else (some (v17, m16))))))) else (cV (fX12_wrong m (2 : Int32)) fun m22 => (nm (m22.1 0 8) fun v23 => (if (m22.1 0 2) = 0 then (cV (fX12_token m22) fun m26 => (some (v23, m26))) else (some (v23, m22)))))) else (some ((0 : Int32), m)))
set_option maxHeartbeats 4000000 in
set_option maxRecDepth 100000 in
theorem kX12_toldNumber (l : Launch) (G : Gt) (hD : ∀ m, va_D (inA G nM) (wM G m)) (m : Mem) (x1 : Int32) (x2 : Int32) : ∀ a, fX12_toldNumber m x1 x2 = some a → Ct l G wM nM yX12_toldNumber cX12_toldNumber 4 (some .int) 3 [.ref (G.2.2 0), .int x1, .int x2] m (cvI a) := by
  refine ct_of (own := RX12) (ls0 := [some (.ref (G.2.2 0)), some (.int x1), some (.int x2), none]) (by decide) rfl rfl rfl (Nat.le_of_ble_eq_true rfl) hD (fun X h => ?_) l
  unfold fX12_toldNumber
  refine j_aload_n h dX12_toldNumber_0 rfl ?_
  refine gM_2 h dX12_toldNumber_1 ?_
  refine j_if_le (tgt := 9) h dX12_toldNumber_4 (by decide) (fun c1 => ?_) (fun c1 => ?_)
  · refine j_aload_n h dX12_toldNumber_9 rfl ?_
    refine gM_6 h dX12_toldNumber_10 ?_
    refine j_iconst (v := (2 : Int32)) h dX12_toldNumber_13 kiconst_2 ?_
    refine j_icmp_eq (tgt := 25) h dX12_toldNumber_14 (by decide) (fun c2 => ?_) (fun c2 => ?_)
    · refine j_aload_n h dX12_toldNumber_25 rfl ?_
      refine gM_8 h dX12_toldNumber_26 ?_
      refine j_iload_n h dX12_toldNumber_29 rfl ?_
      refine j_icmp_lt (tgt := 41) h dX12_toldNumber_30 (by decide) (fun c3 => ?_) (fun c3 => ?_)
      · refine j_aload_n h dX12_toldNumber_41 rfl ?_
        refine j_iconst (v := (4 : Int32)) h dX12_toldNumber_42 kiconst_4 ?_
        refine j_callVV (q0 := 0) (ci := 12) h [.int (4 : Int32)] (kX12_wrong _ G h.2.2.2.2.2.2.2.2.2.2 m (4 : Int32)) okX12_wrong inX12_wrong ml12_246 rfl rfl rfl rfl (by decide) (by decide) (Nat.le_of_ble_eq_true rfl) rfl dX12_toldNumber_43 (fun m5 hm5 => ?_)
        refine j_aload_n h dX12_toldNumber_46 rfl ?_
        refine gM_8 h dX12_toldNumber_47 ?_
        refine j_nm (fun v6 hv6 => ?_)
        refine j_istore_n h dX12_toldNumber_50 rfl rfl ?_
        refine j_aload_n h dX12_toldNumber_51 rfl ?_
        refine gM_2 h dX12_toldNumber_52 ?_
        refine j_if_ne (tgt := 62) h dX12_toldNumber_55 (by decide) (fun c7 => ?_) (fun c7 => ?_)
        · refine j_iload_n h dX12_toldNumber_62 rfl ?_
          exact j_iret h rfl dX12_toldNumber_63
        · refine j_aload_n h dX12_toldNumber_58 rfl ?_
          refine j_callVV (q0 := 0) (ci := 12) h [] (kX12_token _ G h.2.2.2.2.2.2.2.2.2.2 m5) okX12_token inX12_token ml12_249 rfl rfl rfl rfl (by decide) (by decide) (Nat.le_of_ble_eq_true rfl) rfl dX12_toldNumber_59 (fun m9 hm9 => ?_)
          refine j_iload_n h dX12_toldNumber_62 rfl ?_
          exact j_iret h rfl dX12_toldNumber_63
      · refine j_aload_n h dX12_toldNumber_33 rfl ?_
        refine gM_8 h dX12_toldNumber_34 ?_
        refine j_iload_n h dX12_toldNumber_37 rfl ?_
        refine j_icmp_le (tgt := 46) h dX12_toldNumber_38 (by decide) (fun c10 => ?_) (fun c10 => ?_)
        · refine j_aload_n h dX12_toldNumber_46 rfl ?_
          refine gM_8 h dX12_toldNumber_47 ?_
          refine j_nm (fun v11 hv11 => ?_)
          refine j_istore_n h dX12_toldNumber_50 rfl rfl ?_
          refine j_aload_n h dX12_toldNumber_51 rfl ?_
          refine gM_2 h dX12_toldNumber_52 ?_
          refine j_if_ne (tgt := 62) h dX12_toldNumber_55 (by decide) (fun c12 => ?_) (fun c12 => ?_)
          · refine j_iload_n h dX12_toldNumber_62 rfl ?_
            exact j_iret h rfl dX12_toldNumber_63
          · refine j_aload_n h dX12_toldNumber_58 rfl ?_
            refine j_callVV (q0 := 0) (ci := 12) h [] (kX12_token _ G h.2.2.2.2.2.2.2.2.2.2 m) okX12_token inX12_token ml12_249 rfl rfl rfl rfl (by decide) (by decide) (Nat.le_of_ble_eq_true rfl) rfl dX12_toldNumber_59 (fun m14 hm14 => ?_)
            refine j_iload_n h dX12_toldNumber_62 rfl ?_
            exact j_iret h rfl dX12_toldNumber_63
        · refine j_aload_n h dX12_toldNumber_41 rfl ?_
          refine j_iconst (v := (4 : Int32)) h dX12_toldNumber_42 kiconst_4 ?_
          refine j_callVV (q0 := 0) (ci := 12) h [.int (4 : Int32)] (kX12_wrong _ G h.2.2.2.2.2.2.2.2.2.2 m (4 : Int32)) okX12_wrong inX12_wrong ml12_246 rfl rfl rfl rfl (by decide) (by decide) (Nat.le_of_ble_eq_true rfl) rfl dX12_toldNumber_43 (fun m16 hm16 => ?_)
          refine j_aload_n h dX12_toldNumber_46 rfl ?_
          refine gM_8 h dX12_toldNumber_47 ?_
          refine j_nm (fun v17 hv17 => ?_)
          refine j_istore_n h dX12_toldNumber_50 rfl rfl ?_
          refine j_aload_n h dX12_toldNumber_51 rfl ?_
          refine gM_2 h dX12_toldNumber_52 ?_
          refine j_if_ne (tgt := 62) h dX12_toldNumber_55 (by decide) (fun c18 => ?_) (fun c18 => ?_)
          · refine j_iload_n h dX12_toldNumber_62 rfl ?_
            exact j_iret h rfl dX12_toldNumber_63
          · refine j_aload_n h dX12_toldNumber_58 rfl ?_
            refine j_callVV (q0 := 0) (ci := 12) h [] (kX12_token _ G h.2.2.2.2.2.2.2.2.2.2 m16) okX12_token inX12_token ml12_249 rfl rfl rfl rfl (by decide) (by decide) (Nat.le_of_ble_eq_true rfl) rfl dX12_toldNumber_59 (fun m20 hm20 => ?_)
            refine j_iload_n h dX12_toldNumber_62 rfl ?_
            exact j_iret h rfl dX12_toldNumber_63
    · refine j_aload_n h dX12_toldNumber_17 rfl ?_
      refine j_iconst (v := (2 : Int32)) h dX12_toldNumber_18 kiconst_2 ?_
      refine j_callVV (q0 := 0) (ci := 12) h [.int (2 : Int32)] (kX12_wrong _ G h.2.2.2.2.2.2.2.2.2.2 m (2 : Int32)) okX12_wrong inX12_wrong ml12_246 rfl rfl rfl rfl (by decide) (by decide) (Nat.le_of_ble_eq_true rfl) rfl dX12_toldNumber_19 (fun m22 hm22 => ?_)
      refine j_goto (tgt := 46) h dX12_toldNumber_22 (by decide) ?_
      refine j_aload_n h dX12_toldNumber_46 rfl ?_
      refine gM_8 h dX12_toldNumber_47 ?_
      refine j_nm (fun v23 hv23 => ?_)
      refine j_istore_n h dX12_toldNumber_50 rfl rfl ?_
      refine j_aload_n h dX12_toldNumber_51 rfl ?_
      refine gM_2 h dX12_toldNumber_52 ?_
      refine j_if_ne (tgt := 62) h dX12_toldNumber_55 (by decide) (fun c24 => ?_) (fun c24 => ?_)
      · refine j_iload_n h dX12_toldNumber_62 rfl ?_
        exact j_iret h rfl dX12_toldNumber_63
      · refine j_aload_n h dX12_toldNumber_58 rfl ?_
        refine j_callVV (q0 := 0) (ci := 12) h [] (kX12_token _ G h.2.2.2.2.2.2.2.2.2.2 m22) okX12_token inX12_token ml12_249 rfl rfl rfl rfl (by decide) (by decide) (Nat.le_of_ble_eq_true rfl) rfl dX12_toldNumber_59 (fun m26 hm26 => ?_)
        refine j_iload_n h dX12_toldNumber_62 rfl ?_
        exact j_iret h rfl dX12_toldNumber_63
  · refine j_iconst (v := (0 : Int32)) h dX12_toldNumber_7 kiconst_0 ?_
    exact j_iret h rfl dX12_toldNumber_8
theorem dX12_told_0 : DD cX12_told 0 (.aload_n 0) 1 1 := ⟨by decide +kernel, rfl⟩
theorem dX12_told_1 : DD cX12_told 1 (.lload_n 1) 1 2 := ⟨by decide +kernel, rfl⟩
theorem dX12_told_2 : DD cX12_told 2 (.invokevirtual 252) 3 5 := ⟨by decide +kernel, rfl⟩
theorem dX12_told_5 : DD cX12_told 5 (.aload_n 0) 1 6 := ⟨by decide +kernel, rfl⟩
theorem dX12_told_6 : DD cX12_told 6 (.iload_n 3) 1 7 := ⟨by decide +kernel, rfl⟩
theorem dX12_told_7 : DD cX12_told 7 (.iload 4) 2 9 := ⟨by decide +kernel, rfl⟩
theorem dX12_told_9 : DD cX12_told 9 (.invokevirtual 256) 3 12 := ⟨by decide +kernel, rfl⟩
theorem dX12_told_12 : DD cX12_told 12 (.ireturn) 1 13 := ⟨by decide +kernel, rfl⟩
def fX12_told (m : Mem) (x1 : Int64) (x3 : Int32) (x4 : Int32) : Option (Int32 × Mem) := (cV (fX12_want m x1) fun m2 => (cI (fX12_toldNumber m2 x3 x4) fun r3 m4 => (some (r3, m4))))
set_option maxHeartbeats 4000000 in
set_option maxRecDepth 100000 in
theorem kX12_told (l : Launch) (G : Gt) (hD : ∀ m, va_D (inA G nM) (wM G m)) (m : Mem) (x1 : Int64) (x3 : Int32) (x4 : Int32) : ∀ a, fX12_told m x1 x3 x4 = some a → Ct l G wM nM yX12_told cX12_told 5 (some .int) 4 [.ref (G.2.2 0), .long x1, .int x3, .int x4] m (cvI a) := by
  refine ct_of (own := RX12) (ls0 := [some (.ref (G.2.2 0)), some (.long x1), none, some (.int x3), some (.int x4)]) (by decide) rfl rfl rfl (Nat.le_of_ble_eq_true rfl) hD (fun X h => ?_) l
  unfold fX12_told
  refine j_aload_n h dX12_told_0 rfl ?_
  refine j_lload_n h dX12_told_1 rfl ?_
  refine j_callVV (q0 := 0) (ci := 12) h [.long x1] (kX12_want _ G h.2.2.2.2.2.2.2.2.2.2 m x1) okX12_want inX12_want ml12_252 rfl rfl rfl rfl (by decide) (by decide) (Nat.le_of_ble_eq_true rfl) rfl dX12_told_2 (fun m2 hm2 => ?_)
  refine j_aload_n h dX12_told_5 rfl ?_
  refine j_iload_n h dX12_told_6 rfl ?_
  refine j_iload h dX12_told_7 rfl ?_
  refine j_callVI (q0 := 0) (ci := 12) h [.int x3, .int x4] (kX12_toldNumber _ G h.2.2.2.2.2.2.2.2.2.2 m2 x3 x4) okX12_toldNumber inX12_toldNumber ml12_256 rfl rfl rfl rfl (by decide) (by decide) (Nat.le_of_ble_eq_true rfl) rfl dX12_told_9 (fun r3 m4 hr3 => ?_)
  exact j_iret h rfl dX12_told_12
theorem dX12_find_0 : DD cX12_find 0 (.iconst (-1)) 1 1 := ⟨by decide +kernel, rfl⟩
theorem dX12_find_1 : DD cX12_find 1 (.istore_n 1) 1 2 := ⟨by decide +kernel, rfl⟩
theorem dX12_find_2 : DD cX12_find 2 (.iconst 0) 1 3 := ⟨by decide +kernel, rfl⟩
theorem dX12_find_3 : DD cX12_find 3 (.istore_n 2) 1 4 := ⟨by decide +kernel, rfl⟩
theorem dX12_find_4 : DD cX12_find 4 (.iload_n 2) 1 5 := ⟨by decide +kernel, rfl⟩
theorem dX12_find_5 : DD cX12_find 5 (.aload_n 0) 1 6 := ⟨by decide +kernel, rfl⟩
theorem dX12_find_6 : DD cX12_find 6 (.getfield 260) 3 9 := ⟨by decide +kernel, rfl⟩
theorem dX12_find_9 : DD cX12_find 9 (.if_icmp .ge 29) 3 12 := ⟨by decide +kernel, rfl⟩
theorem dX12_find_12 : DD cX12_find 12 (.aload_n 0) 1 13 := ⟨by decide +kernel, rfl⟩
theorem dX12_find_13 : DD cX12_find 13 (.getfield 17) 3 16 := ⟨by decide +kernel, rfl⟩
theorem dX12_find_16 : DD cX12_find 16 (.iload_n 2) 1 17 := ⟨by decide +kernel, rfl⟩
theorem dX12_find_17 : DD cX12_find 17 (.laload) 1 18 := ⟨by decide +kernel, rfl⟩
theorem dX12_find_18 : DD cX12_find 18 (.aload_n 0) 1 19 := ⟨by decide +kernel, rfl⟩
theorem dX12_find_19 : DD cX12_find 19 (.getfield 177) 3 22 := ⟨by decide +kernel, rfl⟩
theorem dX12_find_22 : DD cX12_find 22 (.lcmp) 1 23 := ⟨by decide +kernel, rfl⟩
theorem dX12_find_23 : DD cX12_find 23 (.ifCond .ne 7) 3 26 := ⟨by decide +kernel, rfl⟩
theorem dX12_find_26 : DD cX12_find 26 (.iload_n 2) 1 27 := ⟨by decide +kernel, rfl⟩
theorem dX12_find_27 : DD cX12_find 27 (.goto 4) 3 30 := ⟨by decide +kernel, rfl⟩
theorem dX12_find_30 : DD cX12_find 30 (.iload_n 1) 1 31 := ⟨by decide +kernel, rfl⟩
theorem dX12_find_31 : DD cX12_find 31 (.istore_n 1) 1 32 := ⟨by decide +kernel, rfl⟩
theorem dX12_find_32 : DD cX12_find 32 (.iinc 2 1) 3 35 := ⟨by decide +kernel, rfl⟩
theorem dX12_find_35 : DD cX12_find 35 (.goto (-31)) 3 38 := ⟨by decide +kernel, rfl⟩
theorem dX12_find_38 : DD cX12_find 38 (.iload_n 1) 1 39 := ⟨by decide +kernel, rfl⟩
theorem dX12_find_39 : DD cX12_find 39 (.ireturn) 1 40 := ⟨by decide +kernel, rfl⟩
def gX12_find (m : Mem) : Nat → Int32 → Int32 → Option Int32
  | 0, _, _ => none
  | f + 1, x1, x2 => (if (m.1 0 47) ≤ x2 then (some x1) else (rdL (m.2.1 2) 7 x2 fun v2 => (if (lg_cmp v2 (m.2.1 0 9)) = 0 then (gX12_find m f x2 (x2 + (1 : Int32))) else (gX12_find m f x1 (x2 + (1 : Int32))))))
def fX12_find (m : Mem) : Option Int32 := (gX12_find m 5000 (-1 : Int32) (0 : Int32))
set_option maxHeartbeats 4000000 in
set_option maxRecDepth 100000 in
theorem wX12_find {X : Cx} {G : Gt} (h : OkX (X, G, wM, nM) cX12_find RX12 3 (some .int) 1) (m : Mem) : ∀ f : Nat, (∀ (x1 : Int32) (x2 : Int32), JR (X, G, wM, nM) (cvP m) m 4 [some (.ref (G.2.2 0)), some (.int x1), some (.int x2)] [] (gX12_find m f x1 x2)) := by
  intro f
  induction f with
  | zero => exact (fun _ _ => j_none)
  | succ f ih =>
    intro x1 x2
    rw [gX12_find]
    refine j_iload_n h dX12_find_4 rfl ?_
    refine j_aload_n h dX12_find_5 rfl ?_
    refine gM_47 h dX12_find_6 ?_
    refine j_icmp_ge (tgt := 38) h dX12_find_9 (by decide) (fun c1 => ?_) (fun c1 => ?_)
    · refine j_iload_n h dX12_find_38 rfl ?_
      exact j_iret h rfl dX12_find_39
    · refine j_aload_n h dX12_find_12 rfl ?_
      refine gM_10 h dX12_find_13 ?_
      refine j_iload_n h dX12_find_16 rfl ?_
      refine aM_2 h dX12_find_17 (fun v2 hv2 => ?_)
      refine j_aload_n h dX12_find_18 rfl ?_
      refine gM_9 h dX12_find_19 ?_
      refine j_lcmp h dX12_find_22 ?_
      refine j_if_ne (tgt := 30) h dX12_find_23 (by decide) (fun c3 => ?_) (fun c3 => ?_)
      · refine j_iload_n h dX12_find_30 rfl ?_
        refine j_istore_n h dX12_find_31 rfl rfl ?_
        refine j_iinc (v := (x2 + (1 : Int32))) h dX12_find_32 rfl (by rw [kiconst_1]) rfl ?_
        refine j_goto (tgt := 4) h dX12_find_35 (by decide) ?_
        refine j_wk (ls' := [some (.ref (G.2.2 0)), some (.int x1), some (.int (x2 + (1 : Int32)))]) (And.intro rfl (And.intro rfl (And.intro rfl trivial))) ?_
        exact ih x1 (x2 + (1 : Int32))
      · refine j_iload_n h dX12_find_26 rfl ?_
        refine j_goto (tgt := 31) h dX12_find_27 (by decide) ?_
        refine j_istore_n h dX12_find_31 rfl rfl ?_
        refine j_iinc (v := (x2 + (1 : Int32))) h dX12_find_32 rfl (by rw [kiconst_1]) rfl ?_
        refine j_goto (tgt := 4) h dX12_find_35 (by decide) ?_
        refine j_wk (ls' := [some (.ref (G.2.2 0)), some (.int x2), some (.int (x2 + (1 : Int32)))]) (And.intro rfl (And.intro rfl (And.intro rfl trivial))) ?_
        exact ih x2 (x2 + (1 : Int32))
set_option maxHeartbeats 4000000 in
set_option maxRecDepth 100000 in
theorem kX12_find (l : Launch) (G : Gt) (hD : ∀ m, va_D (inA G nM) (wM G m)) (m : Mem) : ∀ a, fX12_find m = some a → Ct l G wM nM yX12_find cX12_find 3 (some .int) 1 [.ref (G.2.2 0)] m ((cvP m) a) := by
  refine ct_of (own := RX12) (ls0 := [some (.ref (G.2.2 0)), none, none]) (by decide) rfl rfl rfl (Nat.le_of_ble_eq_true rfl) hD (fun X h => ?_) l
  unfold fX12_find
  refine j_iconst (v := (-1 : Int32)) h dX12_find_0 kiconst_m1 ?_
  refine j_istore_n h dX12_find_1 rfl rfl ?_
  refine j_iconst (v := (0 : Int32)) h dX12_find_2 kiconst_0 ?_
  refine j_istore_n h dX12_find_3 rfl rfl ?_
  refine j_wk (ls' := [some (.ref (G.2.2 0)), some (.int (-1 : Int32)), some (.int (0 : Int32))]) (And.intro rfl (And.intro rfl (And.intro rfl trivial))) ?_
  exact (wX12_find h m 5000) (-1 : Int32) (0 : Int32)
theorem dX12_oldPerson_0 : DD cX12_oldPerson 0 (.aload_n 0) 1 1 := ⟨by decide +kernel, rfl⟩
theorem dX12_oldPerson_1 : DD cX12_oldPerson 1 (.getfield 197) 3 4 := ⟨by decide +kernel, rfl⟩
theorem dX12_oldPerson_4 : DD cX12_oldPerson 4 (.ifCond .le 5) 3 7 := ⟨by decide +kernel, rfl⟩
theorem dX12_oldPerson_7 : DD cX12_oldPerson 7 (.iconst 0) 1 8 := ⟨by decide +kernel, rfl⟩
theorem dX12_oldPerson_8 : DD cX12_oldPerson 8 (.ireturn) 1 9 := ⟨by decide +kernel, rfl⟩
theorem dX12_oldPerson_9 : DD cX12_oldPerson 9 (.aload_n 0) 1 10 := ⟨by decide +kernel, rfl⟩
theorem dX12_oldPerson_10 : DD cX12_oldPerson 10 (.invokevirtual 263) 3 13 := ⟨by decide +kernel, rfl⟩
theorem dX12_oldPerson_13 : DD cX12_oldPerson 13 (.ifCond .ne 11) 3 16 := ⟨by decide +kernel, rfl⟩
theorem dX12_oldPerson_16 : DD cX12_oldPerson 16 (.aload_n 0) 1 17 := ⟨by decide +kernel, rfl⟩
theorem dX12_oldPerson_17 : DD cX12_oldPerson 17 (.iconst 2) 1 18 := ⟨by decide +kernel, rfl⟩
theorem dX12_oldPerson_18 : DD cX12_oldPerson 18 (.invokevirtual 246) 3 21 := ⟨by decide +kernel, rfl⟩
theorem dX12_oldPerson_21 : DD cX12_oldPerson 21 (.goto 15) 3 24 := ⟨by decide +kernel, rfl⟩
theorem dX12_oldPerson_24 : DD cX12_oldPerson 24 (.aload_n 0) 1 25 := ⟨by decide +kernel, rfl⟩
theorem dX12_oldPerson_25 : DD cX12_oldPerson 25 (.invokevirtual 266) 3 28 := ⟨by decide +kernel, rfl⟩
theorem dX12_oldPerson_28 : DD cX12_oldPerson 28 (.ifCond .ge 8) 3 31 := ⟨by decide +kernel, rfl⟩
theorem dX12_oldPerson_31 : DD cX12_oldPerson 31 (.aload_n 0) 1 32 := ⟨by decide +kernel, rfl⟩
theorem dX12_oldPerson_32 : DD cX12_oldPerson 32 (.iconst 5) 1 33 := ⟨by decide +kernel, rfl⟩
theorem dX12_oldPerson_33 : DD cX12_oldPerson 33 (.invokevirtual 246) 3 36 := ⟨by decide +kernel, rfl⟩
theorem dX12_oldPerson_36 : DD cX12_oldPerson 36 (.aload_n 0) 1 37 := ⟨by decide +kernel, rfl⟩
theorem dX12_oldPerson_37 : DD cX12_oldPerson 37 (.getfield 197) 3 40 := ⟨by decide +kernel, rfl⟩
theorem dX12_oldPerson_40 : DD cX12_oldPerson 40 (.ifCond .le 7) 3 43 := ⟨by decide +kernel, rfl⟩
theorem dX12_oldPerson_43 : DD cX12_oldPerson 43 (.iconst 0) 1 44 := ⟨by decide +kernel, rfl⟩
theorem dX12_oldPerson_44 : DD cX12_oldPerson 44 (.goto 7) 3 47 := ⟨by decide +kernel, rfl⟩
theorem dX12_oldPerson_47 : DD cX12_oldPerson 47 (.aload_n 0) 1 48 := ⟨by decide +kernel, rfl⟩
theorem dX12_oldPerson_48 : DD cX12_oldPerson 48 (.invokevirtual 266) 3 51 := ⟨by decide +kernel, rfl⟩
theorem dX12_oldPerson_51 : DD cX12_oldPerson 51 (.ireturn) 1 52 := ⟨by decide +kernel, rfl⟩
def fX12_oldPerson (m : Mem) : Option (Int32 × Mem) := (if (m.1 0 2) ≤ 0 then (cP (fX12_isName m) fun r2 => (if r2 = 0 then (cV (fX12_wrong m (2 : Int32)) fun m17 => (if (m17.1 0 2) ≤ 0 then (cP (fX12_find m17) fun r19 => (some (r19, m17))) else (some ((0 : Int32), m17)))) else (cP (fX12_find m) fun r5 => (if 0 ≤ r5 then (if (m.1 0 2) ≤ 0 then (cP (fX12_find m) fun r9 => (some (r9, m))) else (some ((0 : Int32), m))) else (cV (fX12_wrong m (5 : Int32)) fun m12 => (if (m12.1 0 2) ≤ 0 then (cP (fX12_find m12) fun r14 => (some (r14, m12))) else (some ((0 : Int32), m12)))))))) else (some ((0 : Int32), m)))
set_option maxHeartbeats 4000000 in
set_option maxRecDepth 100000 in
theorem kX12_oldPerson (l : Launch) (G : Gt) (hD : ∀ m, va_D (inA G nM) (wM G m)) (m : Mem) : ∀ a, fX12_oldPerson m = some a → Ct l G wM nM yX12_oldPerson cX12_oldPerson 1 (some .int) 3 [.ref (G.2.2 0)] m (cvI a) := by
  refine ct_of (own := RX12) (ls0 := [some (.ref (G.2.2 0))]) (by decide) rfl rfl rfl (Nat.le_of_ble_eq_true rfl) hD (fun X h => ?_) l
  unfold fX12_oldPerson
  refine j_aload_n h dX12_oldPerson_0 rfl ?_
  refine gM_2 h dX12_oldPerson_1 ?_
  refine j_if_le (tgt := 9) h dX12_oldPerson_4 (by decide) (fun c1 => ?_) (fun c1 => ?_)
  · refine j_aload_n h dX12_oldPerson_9 rfl ?_
    refine j_callVP (q0 := 0) (ci := 12) h [] (kX12_isName _ G h.2.2.2.2.2.2.2.2.2.2 m) okX12_isName inX12_isName ml12_263 rfl rfl rfl rfl (by decide) (by decide) (Nat.le_of_ble_eq_true rfl) rfl dX12_oldPerson_10 (fun r2 hr2 => ?_)
    refine j_if_ne (tgt := 24) h dX12_oldPerson_13 (by decide) (fun c4 => ?_) (fun c4 => ?_)
    · refine j_aload_n h dX12_oldPerson_24 rfl ?_
      refine j_callVP (q0 := 0) (ci := 12) h [] (kX12_find _ G h.2.2.2.2.2.2.2.2.2.2 m) okX12_find inX12_find ml12_266 rfl rfl rfl rfl (by decide) (by decide) (Nat.le_of_ble_eq_true rfl) rfl dX12_oldPerson_25 (fun r5 hr5 => ?_)
      refine j_if_ge (tgt := 36) h dX12_oldPerson_28 (by decide) (fun c7 => ?_) (fun c7 => ?_)
      · refine j_aload_n h dX12_oldPerson_36 rfl ?_
        refine gM_2 h dX12_oldPerson_37 ?_
        refine j_if_le (tgt := 47) h dX12_oldPerson_40 (by decide) (fun c8 => ?_) (fun c8 => ?_)
        · refine j_aload_n h dX12_oldPerson_47 rfl ?_
          refine j_callVP (q0 := 0) (ci := 12) h [] (kX12_find _ G h.2.2.2.2.2.2.2.2.2.2 m) okX12_find inX12_find ml12_266 rfl rfl rfl rfl (by decide) (by decide) (Nat.le_of_ble_eq_true rfl) rfl dX12_oldPerson_48 (fun r9 hr9 => ?_)
          exact j_iret h rfl dX12_oldPerson_51
        · refine j_iconst (v := (0 : Int32)) h dX12_oldPerson_43 kiconst_0 ?_
          refine j_goto (tgt := 51) h dX12_oldPerson_44 (by decide) ?_
          exact j_iret h rfl dX12_oldPerson_51
      · refine j_aload_n h dX12_oldPerson_31 rfl ?_
        refine j_iconst (v := (5 : Int32)) h dX12_oldPerson_32 kiconst_5 ?_
        refine j_callVV (q0 := 0) (ci := 12) h [.int (5 : Int32)] (kX12_wrong _ G h.2.2.2.2.2.2.2.2.2.2 m (5 : Int32)) okX12_wrong inX12_wrong ml12_246 rfl rfl rfl rfl (by decide) (by decide) (Nat.le_of_ble_eq_true rfl) rfl dX12_oldPerson_33 (fun m12 hm12 => ?_)
        refine j_aload_n h dX12_oldPerson_36 rfl ?_
        refine gM_2 h dX12_oldPerson_37 ?_
        refine j_if_le (tgt := 47) h dX12_oldPerson_40 (by decide) (fun c13 => ?_) (fun c13 => ?_)
        · refine j_aload_n h dX12_oldPerson_47 rfl ?_
          refine j_callVP (q0 := 0) (ci := 12) h [] (kX12_find _ G h.2.2.2.2.2.2.2.2.2.2 m12) okX12_find inX12_find ml12_266 rfl rfl rfl rfl (by decide) (by decide) (Nat.le_of_ble_eq_true rfl) rfl dX12_oldPerson_48 (fun r14 hr14 => ?_)
          exact j_iret h rfl dX12_oldPerson_51
        · refine j_iconst (v := (0 : Int32)) h dX12_oldPerson_43 kiconst_0 ?_
          refine j_goto (tgt := 51) h dX12_oldPerson_44 (by decide) ?_
          exact j_iret h rfl dX12_oldPerson_51
    · refine j_aload_n h dX12_oldPerson_16 rfl ?_
      refine j_iconst (v := (2 : Int32)) h dX12_oldPerson_17 kiconst_2 ?_
      refine j_callVV (q0 := 0) (ci := 12) h [.int (2 : Int32)] (kX12_wrong _ G h.2.2.2.2.2.2.2.2.2.2 m (2 : Int32)) okX12_wrong inX12_wrong ml12_246 rfl rfl rfl rfl (by decide) (by decide) (Nat.le_of_ble_eq_true rfl) rfl dX12_oldPerson_18 (fun m17 hm17 => ?_)
      refine j_goto (tgt := 36) h dX12_oldPerson_21 (by decide) ?_
      refine j_aload_n h dX12_oldPerson_36 rfl ?_
      refine gM_2 h dX12_oldPerson_37 ?_
      refine j_if_le (tgt := 47) h dX12_oldPerson_40 (by decide) (fun c18 => ?_) (fun c18 => ?_)
      · refine j_aload_n h dX12_oldPerson_47 rfl ?_
        refine j_callVP (q0 := 0) (ci := 12) h [] (kX12_find _ G h.2.2.2.2.2.2.2.2.2.2 m17) okX12_find inX12_find ml12_266 rfl rfl rfl rfl (by decide) (by decide) (Nat.le_of_ble_eq_true rfl) rfl dX12_oldPerson_48 (fun r19 hr19 => ?_)
        exact j_iret h rfl dX12_oldPerson_51
      · refine j_iconst (v := (0 : Int32)) h dX12_oldPerson_43 kiconst_0 ?_
        refine j_goto (tgt := 51) h dX12_oldPerson_44 (by decide) ?_
        exact j_iret h rfl dX12_oldPerson_51
  · refine j_iconst (v := (0 : Int32)) h dX12_oldPerson_7 kiconst_0 ?_
    exact j_iret h rfl dX12_oldPerson_8
