theorem dX9_allServed_0 : DD cX9_allServed 0 (.iconst 1) 1 1 := ⟨by decide +kernel, rfl⟩
theorem dX9_allServed_1 : DD cX9_allServed 1 (.iload_n 1) 1 2 := ⟨by decide +kernel, rfl⟩
theorem dX9_allServed_2 : DD cX9_allServed 2 (.iload_n 2) 1 3 := ⟨by decide +kernel, rfl⟩
theorem dX9_allServed_3 : DD cX9_allServed 3 (.iadd) 1 4 := ⟨by decide +kernel, rfl⟩
theorem dX9_allServed_4 : DD cX9_allServed 4 (.ishl) 1 5 := ⟨by decide +kernel, rfl⟩
theorem dX9_allServed_5 : DD cX9_allServed 5 (.iconst 1) 1 6 := ⟨by decide +kernel, rfl⟩
theorem dX9_allServed_6 : DD cX9_allServed 6 (.iload_n 1) 1 7 := ⟨by decide +kernel, rfl⟩
theorem dX9_allServed_7 : DD cX9_allServed 7 (.ishl) 1 8 := ⟨by decide +kernel, rfl⟩
theorem dX9_allServed_8 : DD cX9_allServed 8 (.isub) 1 9 := ⟨by decide +kernel, rfl⟩
theorem dX9_allServed_9 : DD cX9_allServed 9 (.istore_n 3) 1 10 := ⟨by decide +kernel, rfl⟩
theorem dX9_allServed_10 : DD cX9_allServed 10 (.iconst 0) 1 11 := ⟨by decide +kernel, rfl⟩
theorem dX9_allServed_11 : DD cX9_allServed 11 (.istore 4) 2 13 := ⟨by decide +kernel, rfl⟩
theorem dX9_allServed_13 : DD cX9_allServed 13 (.iload 4) 2 15 := ⟨by decide +kernel, rfl⟩
theorem dX9_allServed_15 : DD cX9_allServed 15 (.aload_n 0) 1 16 := ⟨by decide +kernel, rfl⟩
theorem dX9_allServed_16 : DD cX9_allServed 16 (.getfield 21) 3 19 := ⟨by decide +kernel, rfl⟩
theorem dX9_allServed_19 : DD cX9_allServed 19 (.getfield 50) 3 22 := ⟨by decide +kernel, rfl⟩
theorem dX9_allServed_22 : DD cX9_allServed 22 (.if_icmp .ge 26) 3 25 := ⟨by decide +kernel, rfl⟩
theorem dX9_allServed_25 : DD cX9_allServed 25 (.aload_n 0) 1 26 := ⟨by decide +kernel, rfl⟩
theorem dX9_allServed_26 : DD cX9_allServed 26 (.iload 4) 2 28 := ⟨by decide +kernel, rfl⟩
theorem dX9_allServed_28 : DD cX9_allServed 28 (.aload_n 0) 1 29 := ⟨by decide +kernel, rfl⟩
theorem dX9_allServed_29 : DD cX9_allServed 29 (.invokevirtual 148) 3 32 := ⟨by decide +kernel, rfl⟩
theorem dX9_allServed_32 : DD cX9_allServed 32 (.invokevirtual 179) 3 35 := ⟨by decide +kernel, rfl⟩
theorem dX9_allServed_35 : DD cX9_allServed 35 (.iload_n 3) 1 36 := ⟨by decide +kernel, rfl⟩
theorem dX9_allServed_36 : DD cX9_allServed 36 (.iand) 1 37 := ⟨by decide +kernel, rfl⟩
theorem dX9_allServed_37 : DD cX9_allServed 37 (.ifCond .ne 5) 3 40 := ⟨by decide +kernel, rfl⟩
theorem dX9_allServed_40 : DD cX9_allServed 40 (.iconst 0) 1 41 := ⟨by decide +kernel, rfl⟩
theorem dX9_allServed_41 : DD cX9_allServed 41 (.ireturn) 1 42 := ⟨by decide +kernel, rfl⟩
theorem dX9_allServed_42 : DD cX9_allServed 42 (.iinc 4 1) 3 45 := ⟨by decide +kernel, rfl⟩
theorem dX9_allServed_45 : DD cX9_allServed 45 (.goto (-32)) 3 48 := ⟨by decide +kernel, rfl⟩
theorem dX9_allServed_48 : DD cX9_allServed 48 (.iconst 1) 1 49 := ⟨by decide +kernel, rfl⟩
theorem dX9_allServed_49 : DD cX9_allServed 49 (.ireturn) 1 50 := ⟨by decide +kernel, rfl⟩
def gX9_allServed : Nat → Int32 → Int32 → Mem → Option (Int32 × Mem)
  | 0, _, _, _ => none
  | f + 1, x3, x4, m => (gPl (m.2.2 26 1) (if (m.1 (m.2.2 26 1) 0) ≤ x4 then (some ((1 : Int32), m)) else (cR (fX9_today m) fun r3 m4 => (gEq r3 53 (cP (fX9_hoursAwake m4 x4) fun r6 => (if (r6 &&& x3) = 0 then (some ((0 : Int32), m4)) else (gX9_allServed f x3 (x4 + (1 : Int32)) m4)))))))
def fX9_allServed (m : Mem) (x1 : Int32) (x2 : Int32) : Option (Int32 × Mem) := (nm (((1 : Int32) <<< ((x1 + x2) &&& 31)) - ((1 : Int32) <<< (x1 &&& 31))) fun v1 => (gX9_allServed 5000 v1 (0 : Int32) m))
set_option maxHeartbeats 4000000 in
set_option maxRecDepth 100000 in
theorem wX9_allServed {X : Cx} {G : Gt} (h : OkX (X, G, wC, nC) cX9_allServed RX9 5 (some .boolean) 6) : ∀ f : Nat, (∀ (x3 : Int32) (x4 : Int32) (m : Mem), JR (X, G, wC, nC) cvI m 13 [some (.ref (G.2.2 26)), none, none, some (.int x3), some (.int x4)] [] (gX9_allServed f x3 x4 m)) := by
  intro f
  induction f with
  | zero => exact (fun _ _ _ => j_none)
  | succ f ih =>
    intro x3 x4 m
    rw [gX9_allServed]
    refine j_iload h dX9_allServed_13 rfl ?_
    refine j_aload_n h dX9_allServed_15 rfl ?_
    refine gC9_21 h dX9_allServed_16 ?_
    refine j_gPl (fun hg1 => ?_)
    refine gC9_50 h hg1 dX9_allServed_19 ?_
    refine j_icmp_ge (tgt := 48) h dX9_allServed_22 (by decide) (fun c2 => ?_) (fun c2 => ?_)
    · refine j_iconst (v := (1 : Int32)) h dX9_allServed_48 kiconst_1 ?_
      exact j_zretB h rfl rfl dX9_allServed_49
    · refine j_aload_n h dX9_allServed_25 rfl ?_
      refine j_iload h dX9_allServed_26 rfl ?_
      refine j_aload_n h dX9_allServed_28 rfl ?_
      refine j_callVR (q0 := 26) (ci := 9) h [] (kX9_today _ G h.2.2.2.2.2.2.2.2.2.2 m) okX9_today inX9_today ml9_148 rfl rfl rfl rfl (by decide) (by decide) (Nat.le_of_ble_eq_true rfl) rfl dX9_allServed_29 (fun r3 m4 hr3 => ?_)
      refine j_gEq (fun hg5 => ?_)
      subst hg5
      refine j_callVP (q0 := 26) (ci := 9) h [.int x4, .ref (G.2.2 53)] (kX9_hoursAwake _ G h.2.2.2.2.2.2.2.2.2.2 m4 x4) okX9_hoursAwake inX9_hoursAwake ml9_179 rfl rfl rfl rfl (by decide) (by decide) (Nat.le_of_ble_eq_true rfl) rfl dX9_allServed_32 (fun r6 hr6 => ?_)
      refine j_iload_n h dX9_allServed_35 rfl ?_
      refine j_iand h dX9_allServed_36 ?_
      refine j_if_ne (tgt := 42) h dX9_allServed_37 (by decide) (fun c8 => ?_) (fun c8 => ?_)
      · refine j_iinc (v := (x4 + (1 : Int32))) h dX9_allServed_42 rfl (by rw [kiconst_1]) rfl ?_
        refine j_goto (tgt := 13) h dX9_allServed_45 (by decide) ?_
        refine j_wk (ls' := [some (.ref (G.2.2 26)), none, none, some (.int x3), some (.int (x4 + (1 : Int32)))]) (And.intro rfl (And.intro rfl (And.intro rfl trivial))) ?_
        exact ih x3 (x4 + (1 : Int32)) m4
      · refine j_iconst (v := (0 : Int32)) h dX9_allServed_40 kiconst_0 ?_
        exact j_zretB h rfl rfl dX9_allServed_41
set_option maxHeartbeats 4000000 in
set_option maxRecDepth 100000 in
theorem kX9_allServed (l : Launch) (G : Gt) (hD : ∀ m, va_D (inA G nC) (wC G m)) (m : Mem) (x1 : Int32) (x2 : Int32) : ∀ a, fX9_allServed m x1 x2 = some a → Ct l G wC nC yX9_allServed cX9_allServed 5 (some .boolean) 6 [.ref (G.2.2 26), .int x1, .int x2] m (cvI a) := by
  refine ct_of (own := RX9) (ls0 := [some (.ref (G.2.2 26)), some (.int x1), some (.int x2), none, none]) (by decide) rfl rfl rfl (Nat.le_of_ble_eq_true rfl) hD (fun X h => ?_) l
  unfold fX9_allServed
  refine j_iconst (v := (1 : Int32)) h dX9_allServed_0 kiconst_1 ?_
  refine j_iload_n h dX9_allServed_1 rfl ?_
  refine j_iload_n h dX9_allServed_2 rfl ?_
  refine j_iadd h dX9_allServed_3 ?_
  refine j_ishl h dX9_allServed_4 ?_
  refine j_iconst (v := (1 : Int32)) h dX9_allServed_5 kiconst_1 ?_
  refine j_iload_n h dX9_allServed_6 rfl ?_
  refine j_ishl h dX9_allServed_7 ?_
  refine j_isub h dX9_allServed_8 ?_
  refine j_nm (fun v1 hv1 => ?_)
  refine j_istore_n h dX9_allServed_9 rfl rfl ?_
  refine j_iconst (v := (0 : Int32)) h dX9_allServed_10 kiconst_0 ?_
  refine j_istore h dX9_allServed_11 rfl rfl ?_
  refine j_wk (ls' := [some (.ref (G.2.2 26)), none, none, some (.int v1), some (.int (0 : Int32))]) (And.intro rfl (And.intro rfl (And.intro rfl trivial))) ?_
  exact (wX9_allServed h 5000) v1 (0 : Int32) m
theorem dX9_hoursIf_0 : DD cX9_hoursIf 0 (.iload_n 1) 1 1 := ⟨by decide +kernel, rfl⟩
theorem dX9_hoursIf_1 : DD cX9_hoursIf 1 (.ifCond .eq 8) 3 4 := ⟨by decide +kernel, rfl⟩
theorem dX9_hoursIf_4 : DD cX9_hoursIf 4 (.ldc 222) 2 6 := ⟨by decide +kernel, rfl⟩
theorem dX9_hoursIf_6 : DD cX9_hoursIf 6 (.goto 9) 3 9 := ⟨by decide +kernel, rfl⟩
theorem dX9_hoursIf_9 : DD cX9_hoursIf 9 (.aload_n 0) 1 10 := ⟨by decide +kernel, rfl⟩
theorem dX9_hoursIf_10 : DD cX9_hoursIf 10 (.iload_n 2) 1 11 := ⟨by decide +kernel, rfl⟩
theorem dX9_hoursIf_11 : DD cX9_hoursIf 11 (.aload_n 3) 1 12 := ⟨by decide +kernel, rfl⟩
theorem dX9_hoursIf_12 : DD cX9_hoursIf 12 (.invokevirtual 179) 3 15 := ⟨by decide +kernel, rfl⟩
theorem dX9_hoursIf_15 : DD cX9_hoursIf 15 (.ireturn) 1 16 := ⟨by decide +kernel, rfl⟩
def fX9_hoursIf (m : Mem) (x1 : Int32) (x2 : Int32) : Option Int32 := (if x1 = 0 then (cP (fX9_hoursAwake m x2) fun r2 => (some r2)) else (some (16777215 : Int32)))
set_option maxHeartbeats 4000000 in
set_option maxRecDepth 100000 in
theorem kX9_hoursIf (l : Launch) (G : Gt) (hD : ∀ m, va_D (inA G nC) (wC G m)) (m : Mem) (x1 : Int32) (x2 : Int32) : ∀ a, fX9_hoursIf m x1 x2 = some a → Ct l G wC nC yX9_hoursIf cX9_hoursIf 4 (some .int) 2 [.ref (G.2.2 26), .int x1, .int x2, .ref (G.2.2 53)] m ((cvP m) a) := by
  refine ct_of (own := RX9) (ls0 := [some (.ref (G.2.2 26)), some (.int x1), some (.int x2), some (.ref (G.2.2 53))]) (by decide) rfl rfl rfl (Nat.le_of_ble_eq_true rfl) hD (fun X h => ?_) l
  unfold fX9_hoursIf
  refine j_iload_n h dX9_hoursIf_0 rfl ?_
  refine j_if_eq (tgt := 9) h dX9_hoursIf_1 (by decide) (fun c1 => ?_) (fun c1 => ?_)
  · refine j_aload_n h dX9_hoursIf_9 rfl ?_
    refine j_iload_n h dX9_hoursIf_10 rfl ?_
    refine j_aload_n h dX9_hoursIf_11 rfl ?_
    refine j_callVP (q0 := 26) (ci := 9) h [.int x2, .ref (G.2.2 53)] (kX9_hoursAwake _ G h.2.2.2.2.2.2.2.2.2.2 m x2) okX9_hoursAwake inX9_hoursAwake ml9_179 rfl rfl rfl rfl (by decide) (by decide) (Nat.le_of_ble_eq_true rfl) rfl dX9_hoursIf_12 (fun r2 hr2 => ?_)
    exact j_iret h rfl dX9_hoursIf_15
  · refine j_ldc (v := (16777215 : Int32)) h dX9_hoursIf_4 cn9_222 ?_
    refine j_goto (tgt := 15) h dX9_hoursIf_6 (by decide) ?_
    exact j_iret h rfl dX9_hoursIf_15
theorem dX9_chancesIf_0 : DD cX9_chancesIf 0 (.aload_n 0) 1 1 := ⟨by decide +kernel, rfl⟩
theorem dX9_chancesIf_1 : DD cX9_chancesIf 1 (.getfield 21) 3 4 := ⟨by decide +kernel, rfl⟩
theorem dX9_chancesIf_4 : DD cX9_chancesIf 4 (.iload_n 2) 1 5 := ⟨by decide +kernel, rfl⟩
theorem dX9_chancesIf_5 : DD cX9_chancesIf 5 (.invokevirtual 223) 3 8 := ⟨by decide +kernel, rfl⟩
theorem dX9_chancesIf_8 : DD cX9_chancesIf 8 (.istore_n 3) 1 9 := ⟨by decide +kernel, rfl⟩
theorem dX9_chancesIf_9 : DD cX9_chancesIf 9 (.iload_n 1) 1 10 := ⟨by decide +kernel, rfl⟩
theorem dX9_chancesIf_10 : DD cX9_chancesIf 10 (.ifCond .eq 7) 3 13 := ⟨by decide +kernel, rfl⟩
theorem dX9_chancesIf_13 : DD cX9_chancesIf 13 (.iload_n 3) 1 14 := ⟨by decide +kernel, rfl⟩
theorem dX9_chancesIf_14 : DD cX9_chancesIf 14 (.goto 7) 3 17 := ⟨by decide +kernel, rfl⟩
theorem dX9_chancesIf_17 : DD cX9_chancesIf 17 (.bipush 100) 2 19 := ⟨by decide +kernel, rfl⟩
theorem dX9_chancesIf_19 : DD cX9_chancesIf 19 (.iload_n 3) 1 20 := ⟨by decide +kernel, rfl⟩
theorem dX9_chancesIf_20 : DD cX9_chancesIf 20 (.isub) 1 21 := ⟨by decide +kernel, rfl⟩
theorem dX9_chancesIf_21 : DD cX9_chancesIf 21 (.ireturn) 1 22 := ⟨by decide +kernel, rfl⟩
def fX9_chancesIf (m : Mem) (x1 : Int32) (x2 : Int32) : Option Int32 := (gPl (m.2.2 26 1) (cP (fX6_wakefulOf m (m.2.2 26 1) x2) fun r2 => (if x1 = 0 then (some ((100 : Int32) - r2)) else (some r2))))
set_option maxHeartbeats 4000000 in
set_option maxRecDepth 100000 in
theorem kX9_chancesIf (l : Launch) (G : Gt) (hD : ∀ m, va_D (inA G nC) (wC G m)) (m : Mem) (x1 : Int32) (x2 : Int32) : ∀ a, fX9_chancesIf m x1 x2 = some a → Ct l G wC nC yX9_chancesIf cX9_chancesIf 4 (some .int) 3 [.ref (G.2.2 26), .int x1, .int x2] m ((cvP m) a) := by
  refine ct_of (own := RX9) (ls0 := [some (.ref (G.2.2 26)), some (.int x1), some (.int x2), none]) (by decide) rfl rfl rfl (Nat.le_of_ble_eq_true rfl) hD (fun X h => ?_) l
  unfold fX9_chancesIf
  refine j_aload_n h dX9_chancesIf_0 rfl ?_
  refine gC9_21 h dX9_chancesIf_1 ?_
  refine j_iload_n h dX9_chancesIf_4 rfl ?_
  refine j_gPl (fun hg1 => ?_)
  refine j_callVP (q0 := (m.2.2 26 1)) (ci := 6) h [.int x2] (kX6_wakefulOf _ G h.2.2.2.2.2.2.2.2.2.2 m (m.2.2 26 1) x2) okX6_wakefulOf inX6_wakefulOf ml9_223 rfl (at_Pl hg1) rfl rfl (by decide) (by decide) (Nat.le_of_ble_eq_true rfl) rfl dX9_chancesIf_5 (fun r2 hr2 => ?_)
  refine j_istore_n h dX9_chancesIf_8 rfl rfl ?_
  refine j_iload_n h dX9_chancesIf_9 rfl ?_
  refine j_if_eq (tgt := 17) h dX9_chancesIf_10 (by decide) (fun c4 => ?_) (fun c4 => ?_)
  · refine j_bipush (v := (100 : Int32)) h dX9_chancesIf_17 kbipush_100 ?_
    refine j_iload_n h dX9_chancesIf_19 rfl ?_
    refine j_isub h dX9_chancesIf_20 ?_
    exact j_iret h rfl dX9_chancesIf_21
  · refine j_iload_n h dX9_chancesIf_13 rfl ?_
    refine j_goto (tgt := 21) h dX9_chancesIf_14 (by decide) ?_
    exact j_iret h rfl dX9_chancesIf_21
theorem dX9_chancesToMeet_0 : DD cX9_chancesToMeet 0 (.aload_n 0) 1 1 := ⟨by decide +kernel, rfl⟩
theorem dX9_chancesToMeet_1 : DD cX9_chancesToMeet 1 (.getfield 21) 3 4 := ⟨by decide +kernel, rfl⟩
theorem dX9_chancesToMeet_4 : DD cX9_chancesToMeet 4 (.getfield 188) 3 7 := ⟨by decide +kernel, rfl⟩
theorem dX9_chancesToMeet_7 : DD cX9_chancesToMeet 7 (.iload_n 1) 1 8 := ⟨by decide +kernel, rfl⟩
theorem dX9_chancesToMeet_8 : DD cX9_chancesToMeet 8 (.iaload) 1 9 := ⟨by decide +kernel, rfl⟩
theorem dX9_chancesToMeet_9 : DD cX9_chancesToMeet 9 (.istore_n 3) 1 10 := ⟨by decide +kernel, rfl⟩
theorem dX9_chancesToMeet_10 : DD cX9_chancesToMeet 10 (.aload_n 0) 1 11 := ⟨by decide +kernel, rfl⟩
theorem dX9_chancesToMeet_11 : DD cX9_chancesToMeet 11 (.getfield 21) 3 14 := ⟨by decide +kernel, rfl⟩
theorem dX9_chancesToMeet_14 : DD cX9_chancesToMeet 14 (.getfield 191) 3 17 := ⟨by decide +kernel, rfl⟩
theorem dX9_chancesToMeet_17 : DD cX9_chancesToMeet 17 (.iload_n 1) 1 18 := ⟨by decide +kernel, rfl⟩
theorem dX9_chancesToMeet_18 : DD cX9_chancesToMeet 18 (.iaload) 1 19 := ⟨by decide +kernel, rfl⟩
theorem dX9_chancesToMeet_19 : DD cX9_chancesToMeet 19 (.istore 4) 2 21 := ⟨by decide +kernel, rfl⟩
theorem dX9_chancesToMeet_21 : DD cX9_chancesToMeet 21 (.iconst 0) 1 22 := ⟨by decide +kernel, rfl⟩
theorem dX9_chancesToMeet_22 : DD cX9_chancesToMeet 22 (.istore 5) 2 24 := ⟨by decide +kernel, rfl⟩
theorem dX9_chancesToMeet_24 : DD cX9_chancesToMeet 24 (.iconst 0) 1 25 := ⟨by decide +kernel, rfl⟩
theorem dX9_chancesToMeet_25 : DD cX9_chancesToMeet 25 (.istore 6) 2 27 := ⟨by decide +kernel, rfl⟩
theorem dX9_chancesToMeet_27 : DD cX9_chancesToMeet 27 (.iload 6) 2 29 := ⟨by decide +kernel, rfl⟩
theorem dX9_chancesToMeet_29 : DD cX9_chancesToMeet 29 (.iconst 4) 1 30 := ⟨by decide +kernel, rfl⟩
theorem dX9_chancesToMeet_30 : DD cX9_chancesToMeet 30 (.if_icmp .ge 95) 3 33 := ⟨by decide +kernel, rfl⟩
theorem dX9_chancesToMeet_33 : DD cX9_chancesToMeet 33 (.iload 6) 2 35 := ⟨by decide +kernel, rfl⟩
theorem dX9_chancesToMeet_35 : DD cX9_chancesToMeet 35 (.iconst 1) 1 36 := ⟨by decide +kernel, rfl⟩
theorem dX9_chancesToMeet_36 : DD cX9_chancesToMeet 36 (.iand) 1 37 := ⟨by decide +kernel, rfl⟩
theorem dX9_chancesToMeet_37 : DD cX9_chancesToMeet 37 (.ifCond .eq 7) 3 40 := ⟨by decide +kernel, rfl⟩
theorem dX9_chancesToMeet_40 : DD cX9_chancesToMeet 40 (.iconst 1) 1 41 := ⟨by decide +kernel, rfl⟩
theorem dX9_chancesToMeet_41 : DD cX9_chancesToMeet 41 (.goto 4) 3 44 := ⟨by decide +kernel, rfl⟩
theorem dX9_chancesToMeet_44 : DD cX9_chancesToMeet 44 (.iconst 0) 1 45 := ⟨by decide +kernel, rfl⟩
theorem dX9_chancesToMeet_45 : DD cX9_chancesToMeet 45 (.istore 7) 2 47 := ⟨by decide +kernel, rfl⟩
theorem dX9_chancesToMeet_47 : DD cX9_chancesToMeet 47 (.iload 6) 2 49 := ⟨by decide +kernel, rfl⟩
theorem dX9_chancesToMeet_49 : DD cX9_chancesToMeet 49 (.iconst 2) 1 50 := ⟨by decide +kernel, rfl⟩
theorem dX9_chancesToMeet_50 : DD cX9_chancesToMeet 50 (.iand) 1 51 := ⟨by decide +kernel, rfl⟩
theorem dX9_chancesToMeet_51 : DD cX9_chancesToMeet 51 (.ifCond .eq 7) 3 54 := ⟨by decide +kernel, rfl⟩
theorem dX9_chancesToMeet_54 : DD cX9_chancesToMeet 54 (.iconst 1) 1 55 := ⟨by decide +kernel, rfl⟩
theorem dX9_chancesToMeet_55 : DD cX9_chancesToMeet 55 (.goto 4) 3 58 := ⟨by decide +kernel, rfl⟩
theorem dX9_chancesToMeet_58 : DD cX9_chancesToMeet 58 (.iconst 0) 1 59 := ⟨by decide +kernel, rfl⟩
theorem dX9_chancesToMeet_59 : DD cX9_chancesToMeet 59 (.istore 8) 2 61 := ⟨by decide +kernel, rfl⟩
theorem dX9_chancesToMeet_61 : DD cX9_chancesToMeet 61 (.aload_n 0) 1 62 := ⟨by decide +kernel, rfl⟩
theorem dX9_chancesToMeet_62 : DD cX9_chancesToMeet 62 (.iload 7) 2 64 := ⟨by decide +kernel, rfl⟩
theorem dX9_chancesToMeet_64 : DD cX9_chancesToMeet 64 (.iload_n 3) 1 65 := ⟨by decide +kernel, rfl⟩
theorem dX9_chancesToMeet_65 : DD cX9_chancesToMeet 65 (.aload_n 2) 1 66 := ⟨by decide +kernel, rfl⟩
theorem dX9_chancesToMeet_66 : DD cX9_chancesToMeet 66 (.invokevirtual 214) 3 69 := ⟨by decide +kernel, rfl⟩
theorem dX9_chancesToMeet_69 : DD cX9_chancesToMeet 69 (.aload_n 0) 1 70 := ⟨by decide +kernel, rfl⟩
theorem dX9_chancesToMeet_70 : DD cX9_chancesToMeet 70 (.iload 8) 2 72 := ⟨by decide +kernel, rfl⟩
theorem dX9_chancesToMeet_72 : DD cX9_chancesToMeet 72 (.iload 4) 2 74 := ⟨by decide +kernel, rfl⟩
theorem dX9_chancesToMeet_74 : DD cX9_chancesToMeet 74 (.aload_n 2) 1 75 := ⟨by decide +kernel, rfl⟩
theorem dX9_chancesToMeet_75 : DD cX9_chancesToMeet 75 (.invokevirtual 214) 3 78 := ⟨by decide +kernel, rfl⟩
theorem dX9_chancesToMeet_78 : DD cX9_chancesToMeet 78 (.iand) 1 79 := ⟨by decide +kernel, rfl⟩
theorem dX9_chancesToMeet_79 : DD cX9_chancesToMeet 79 (.istore 9) 2 81 := ⟨by decide +kernel, rfl⟩
theorem dX9_chancesToMeet_81 : DD cX9_chancesToMeet 81 (.iload 9) 2 83 := ⟨by decide +kernel, rfl⟩
theorem dX9_chancesToMeet_83 : DD cX9_chancesToMeet 83 (.invokestatic 183) 3 86 := ⟨by decide +kernel, rfl⟩
theorem dX9_chancesToMeet_86 : DD cX9_chancesToMeet 86 (.aload_n 0) 1 87 := ⟨by decide +kernel, rfl⟩
theorem dX9_chancesToMeet_87 : DD cX9_chancesToMeet 87 (.getfield 21) 3 90 := ⟨by decide +kernel, rfl⟩
theorem dX9_chancesToMeet_90 : DD cX9_chancesToMeet 90 (.getfield 178) 3 93 := ⟨by decide +kernel, rfl⟩
theorem dX9_chancesToMeet_93 : DD cX9_chancesToMeet 93 (.iload_n 1) 1 94 := ⟨by decide +kernel, rfl⟩
theorem dX9_chancesToMeet_94 : DD cX9_chancesToMeet 94 (.iaload) 1 95 := ⟨by decide +kernel, rfl⟩
theorem dX9_chancesToMeet_95 : DD cX9_chancesToMeet 95 (.if_icmp .lt 24) 3 98 := ⟨by decide +kernel, rfl⟩
theorem dX9_chancesToMeet_98 : DD cX9_chancesToMeet 98 (.iload 5) 2 100 := ⟨by decide +kernel, rfl⟩
theorem dX9_chancesToMeet_100 : DD cX9_chancesToMeet 100 (.aload_n 0) 1 101 := ⟨by decide +kernel, rfl⟩
theorem dX9_chancesToMeet_101 : DD cX9_chancesToMeet 101 (.iload 7) 2 103 := ⟨by decide +kernel, rfl⟩
theorem dX9_chancesToMeet_103 : DD cX9_chancesToMeet 103 (.iload_n 3) 1 104 := ⟨by decide +kernel, rfl⟩
theorem dX9_chancesToMeet_104 : DD cX9_chancesToMeet 104 (.invokevirtual 218) 3 107 := ⟨by decide +kernel, rfl⟩
theorem dX9_chancesToMeet_107 : DD cX9_chancesToMeet 107 (.aload_n 0) 1 108 := ⟨by decide +kernel, rfl⟩
theorem dX9_chancesToMeet_108 : DD cX9_chancesToMeet 108 (.iload 8) 2 110 := ⟨by decide +kernel, rfl⟩
theorem dX9_chancesToMeet_110 : DD cX9_chancesToMeet 110 (.iload 4) 2 112 := ⟨by decide +kernel, rfl⟩
theorem dX9_chancesToMeet_112 : DD cX9_chancesToMeet 112 (.invokevirtual 218) 3 115 := ⟨by decide +kernel, rfl⟩
theorem dX9_chancesToMeet_115 : DD cX9_chancesToMeet 115 (.imul) 1 116 := ⟨by decide +kernel, rfl⟩
theorem dX9_chancesToMeet_116 : DD cX9_chancesToMeet 116 (.iadd) 1 117 := ⟨by decide +kernel, rfl⟩
theorem dX9_chancesToMeet_117 : DD cX9_chancesToMeet 117 (.istore 5) 2 119 := ⟨by decide +kernel, rfl⟩
theorem dX9_chancesToMeet_119 : DD cX9_chancesToMeet 119 (.iinc 6 1) 3 122 := ⟨by decide +kernel, rfl⟩
theorem dX9_chancesToMeet_122 : DD cX9_chancesToMeet 122 (.goto (-95)) 3 125 := ⟨by decide +kernel, rfl⟩
theorem dX9_chancesToMeet_125 : DD cX9_chancesToMeet 125 (.iload 5) 2 127 := ⟨by decide +kernel, rfl⟩
theorem dX9_chancesToMeet_127 : DD cX9_chancesToMeet 127 (.ireturn) 1 128 := ⟨by decide +kernel, rfl⟩
def gX9_chancesToMeet (m : Mem) : Nat → Int32 → Int32 → Int32 → Int32 → Int32 → Option Int32
  | 0, _, _, _, _, _ => none
  | f + 1, x1, x3, x4, x5, x6 => (if (4 : Int32) ≤ x6 then (some x5) else (if (x6 &&& (1 : Int32)) = 0 then (if (x6 &&& (2 : Int32)) = 0 then (cP (fX9_hoursIf m (0 : Int32) x3) fun r4 => (cP (fX9_hoursIf m (0 : Int32) x4) fun r6 => (nm (r4 &&& r6) fun v8 => (cP (fJ6_bitCount_0f7a4 v8) fun r9 => (gPl (m.2.2 26 1) (rd (m.1 ((m.2.2 26 1) + 7)) 10 x1 fun v12 => (if r9 < v12 then (gX9_chancesToMeet m f x1 x3 x4 x5 (x6 + (1 : Int32))) else (cP (fX9_chancesIf m (0 : Int32) x3) fun r14 => (cP (fX9_chancesIf m (0 : Int32) x4) fun r16 => (nm (x5 + (r14 * r16)) fun v18 => (gX9_chancesToMeet m f x1 x3 x4 v18 (x6 + (1 : Int32))))))))))))) else (cP (fX9_hoursIf m (0 : Int32) x3) fun r19 => (cP (fX9_hoursIf m (1 : Int32) x4) fun r21 => (nm (r19 &&& r21) fun v23 => (cP (fJ6_bitCount_0f7a4 v23) fun r24 => (gPl (m.2.2 26 1) (rd (m.1 ((m.2.2 26 1) + 7)) 10 x1 fun v27 => (if r24 < v27 then (gX9_chancesToMeet m f x1 x3 x4 x5 (x6 + (1 : Int32))) else (cP (fX9_chancesIf m (0 : Int32) x3) fun r29 => (cP (fX9_chancesIf m (1 : Int32) x4) fun r31 => (nm (x5 + (r29 * r31)) fun v33 => (gX9_chancesToMeet m f x1 x3 x4 v33 (x6 + (1 : Int32)))))))))))))) else (if (x6 &&& (2 : Int32)) = 0 then (cP (fX9_hoursIf m (1 : Int32) x3) fun r35 => (cP (fX9_hoursIf m (0 : Int32) x4) fun r37 => (nm (r35 &&& r37) fun v39 => (cP (fJ6_bitCount_0f7a4 v39) fun r40 => (gPl (m.2.2 26 1) (rd (m.1 ((m.2.2 26 1) + 7)) 10 x1 fun v43 => (if r40 < v43 then (gX9_chancesToMeet m f x1 x3 x4 x5 (x6 + (1 : Int32))) else (cP (fX9_chancesIf m (1 : Int32) x3) fun r45 => (cP (fX9_chancesIf m (0 : Int32) x4) fun r47 => (nm (x5 + (r45 * r47)) fun v49 => (gX9_chancesToMeet m f x1 x3 x4 v49 (x6 + (1 : Int32))))))))))))) else (cP (fX9_hoursIf m (1 : Int32) x3) fun r50 => (cP (fX9_hoursIf m (1 : Int32) x4) fun r52 => (nm (r50 &&& r52) fun v54 => (cP (fJ6_bitCount_0f7a4 v54) fun r55 => (gPl (m.2.2 26 1) (rd (m.1 ((m.2.2 26 1) + 7)) 10 x1 fun v58 => (if r55 < v58 then (gX9_chancesToMeet m f x1 x3 x4 x5 (x6 + (1 : Int32))) else (cP (fX9_chancesIf m (1 : Int32) x3) fun r60 => (cP (fX9_chancesIf m (1 : Int32) x4) fun r62 => (nm (x5 + (r60 * r62)) fun v64 => (gX9_chancesToMeet m f x1 x3 x4 v64 (x6 + (1 : Int32))))))))))))))))
def fX9_chancesToMeet (m : Mem) (x1 : Int32) : Option Int32 := (gPl (m.2.2 26 1) (rd (m.1 ((m.2.2 26 1) + 5)) 10 x1 fun v2 => (rd (m.1 ((m.2.2 26 1) + 6)) 10 x1 fun v3 => (gX9_chancesToMeet m 5000 x1 v2 v3 (0 : Int32) (0 : Int32)))))
set_option maxHeartbeats 4000000 in
set_option maxRecDepth 100000 in
theorem wX9_chancesToMeet {X : Cx} {G : Gt} (h : OkX (X, G, wC, nC) cX9_chancesToMeet RX9 10 (some .int) 4) (m : Mem) : ∀ f : Nat, (∀ (x1 : Int32) (x3 : Int32) (x4 : Int32) (x5 : Int32) (x6 : Int32), JR (X, G, wC, nC) (cvP m) m 27 [some (.ref (G.2.2 26)), some (.int x1), some (.ref (G.2.2 53)), some (.int x3), some (.int x4), some (.int x5), some (.int x6), none, none, none] [] (gX9_chancesToMeet m f x1 x3 x4 x5 x6)) := by
  intro f
  induction f with
  | zero => exact (fun _ _ _ _ _ => j_none)
  | succ f ih =>
    intro x1 x3 x4 x5 x6
    rw [gX9_chancesToMeet]
    refine j_iload h dX9_chancesToMeet_27 rfl ?_
    refine j_iconst (v := (4 : Int32)) h dX9_chancesToMeet_29 kiconst_4 ?_
    refine j_icmp_ge (tgt := 125) h dX9_chancesToMeet_30 (by decide) (fun c1 => ?_) (fun c1 => ?_)
    · refine j_iload h dX9_chancesToMeet_125 rfl ?_
      exact j_iret h rfl dX9_chancesToMeet_127
    · refine j_iload h dX9_chancesToMeet_33 rfl ?_
      refine j_iconst (v := (1 : Int32)) h dX9_chancesToMeet_35 kiconst_1 ?_
      refine j_iand h dX9_chancesToMeet_36 ?_
      refine j_if_eq (tgt := 44) h dX9_chancesToMeet_37 (by decide) (fun c2 => ?_) (fun c2 => ?_)
      · refine j_iconst (v := (0 : Int32)) h dX9_chancesToMeet_44 kiconst_0 ?_
        refine j_istore h dX9_chancesToMeet_45 rfl rfl ?_
        refine j_iload h dX9_chancesToMeet_47 rfl ?_
        refine j_iconst (v := (2 : Int32)) h dX9_chancesToMeet_49 kiconst_2 ?_
        refine j_iand h dX9_chancesToMeet_50 ?_
        refine j_if_eq (tgt := 58) h dX9_chancesToMeet_51 (by decide) (fun c3 => ?_) (fun c3 => ?_)
        · refine j_iconst (v := (0 : Int32)) h dX9_chancesToMeet_58 kiconst_0 ?_
          refine j_istore h dX9_chancesToMeet_59 rfl rfl ?_
          refine j_aload_n h dX9_chancesToMeet_61 rfl ?_
          refine j_iload h dX9_chancesToMeet_62 rfl ?_
          refine j_iload_n h dX9_chancesToMeet_64 rfl ?_
          refine j_aload_n h dX9_chancesToMeet_65 rfl ?_
          refine j_callVP (q0 := 26) (ci := 9) h [.int (0 : Int32), .int x3, .ref (G.2.2 53)] (kX9_hoursIf _ G h.2.2.2.2.2.2.2.2.2.2 m (0 : Int32) x3) okX9_hoursIf inX9_hoursIf ml9_214 rfl rfl rfl rfl (by decide) (by decide) (Nat.le_of_ble_eq_true rfl) rfl dX9_chancesToMeet_66 (fun r4 hr4 => ?_)
          refine j_aload_n h dX9_chancesToMeet_69 rfl ?_
          refine j_iload h dX9_chancesToMeet_70 rfl ?_
          refine j_iload h dX9_chancesToMeet_72 rfl ?_
          refine j_aload_n h dX9_chancesToMeet_74 rfl ?_
          refine j_callVP (q0 := 26) (ci := 9) h [.int (0 : Int32), .int x4, .ref (G.2.2 53)] (kX9_hoursIf _ G h.2.2.2.2.2.2.2.2.2.2 m (0 : Int32) x4) okX9_hoursIf inX9_hoursIf ml9_214 rfl rfl rfl rfl (by decide) (by decide) (Nat.le_of_ble_eq_true rfl) rfl dX9_chancesToMeet_75 (fun r6 hr6 => ?_)
          refine j_iand h dX9_chancesToMeet_78 ?_
          refine j_nm (fun v8 hv8 => ?_)
          refine j_istore h dX9_chancesToMeet_79 rfl rfl ?_
          refine j_iload h dX9_chancesToMeet_81 rfl ?_
          refine j_callSP h [.int v8] (kJ6_bitCount_0f7a4 _ G h.2.2.2.2.2.2.2.2.2.2 m v8) okJ6_bitCount_0f7a4 stJ6_bitCount_0f7a4 ml9_183 rfl rfl (by decide) (by decide) (Nat.le_of_ble_eq_true rfl) rfl dX9_chancesToMeet_83 (fun r9 hr9 => ?_)
          refine j_aload_n h dX9_chancesToMeet_86 rfl ?_
          refine gC9_21 h dX9_chancesToMeet_87 ?_
          refine j_gPl (fun hg11 => ?_)
          refine gC9_178 h hg11 dX9_chancesToMeet_90 ?_
          refine j_iload_n h dX9_chancesToMeet_93 rfl ?_
          refine aC_Pl7 h hg11 dX9_chancesToMeet_94 (fun v12 hv12 => ?_)
          refine j_icmp_lt (tgt := 119) h dX9_chancesToMeet_95 (by decide) (fun c13 => ?_) (fun c13 => ?_)
          · refine j_iinc (v := (x6 + (1 : Int32))) h dX9_chancesToMeet_119 rfl (by rw [kiconst_1]) rfl ?_
            refine j_goto (tgt := 27) h dX9_chancesToMeet_122 (by decide) ?_
            refine j_wk (ls' := [some (.ref (G.2.2 26)), some (.int x1), some (.ref (G.2.2 53)), some (.int x3), some (.int x4), some (.int x5), some (.int (x6 + (1 : Int32))), none, none, none]) (And.intro rfl (And.intro rfl (And.intro rfl (And.intro rfl (And.intro rfl (And.intro rfl (And.intro rfl trivial))))))) ?_
            exact ih x1 x3 x4 x5 (x6 + (1 : Int32))
          · refine j_iload h dX9_chancesToMeet_98 rfl ?_
            refine j_aload_n h dX9_chancesToMeet_100 rfl ?_
            refine j_iload h dX9_chancesToMeet_101 rfl ?_
            refine j_iload_n h dX9_chancesToMeet_103 rfl ?_
            refine j_callVP (q0 := 26) (ci := 9) h [.int (0 : Int32), .int x3] (kX9_chancesIf _ G h.2.2.2.2.2.2.2.2.2.2 m (0 : Int32) x3) okX9_chancesIf inX9_chancesIf ml9_218 rfl rfl rfl rfl (by decide) (by decide) (Nat.le_of_ble_eq_true rfl) rfl dX9_chancesToMeet_104 (fun r14 hr14 => ?_)
            refine j_aload_n h dX9_chancesToMeet_107 rfl ?_
            refine j_iload h dX9_chancesToMeet_108 rfl ?_
            refine j_iload h dX9_chancesToMeet_110 rfl ?_
            refine j_callVP (q0 := 26) (ci := 9) h [.int (0 : Int32), .int x4] (kX9_chancesIf _ G h.2.2.2.2.2.2.2.2.2.2 m (0 : Int32) x4) okX9_chancesIf inX9_chancesIf ml9_218 rfl rfl rfl rfl (by decide) (by decide) (Nat.le_of_ble_eq_true rfl) rfl dX9_chancesToMeet_112 (fun r16 hr16 => ?_)
            refine j_imul h dX9_chancesToMeet_115 ?_
            refine j_iadd h dX9_chancesToMeet_116 ?_
            refine j_nm (fun v18 hv18 => ?_)
            refine j_istore h dX9_chancesToMeet_117 rfl rfl ?_
            refine j_iinc (v := (x6 + (1 : Int32))) h dX9_chancesToMeet_119 rfl (by rw [kiconst_1]) rfl ?_
            refine j_goto (tgt := 27) h dX9_chancesToMeet_122 (by decide) ?_
            refine j_wk (ls' := [some (.ref (G.2.2 26)), some (.int x1), some (.ref (G.2.2 53)), some (.int x3), some (.int x4), some (.int v18), some (.int (x6 + (1 : Int32))), none, none, none]) (And.intro rfl (And.intro rfl (And.intro rfl (And.intro rfl (And.intro rfl (And.intro rfl (And.intro rfl trivial))))))) ?_
            exact ih x1 x3 x4 v18 (x6 + (1 : Int32))
        · refine j_iconst (v := (1 : Int32)) h dX9_chancesToMeet_54 kiconst_1 ?_
          refine j_goto (tgt := 59) h dX9_chancesToMeet_55 (by decide) ?_
          refine j_istore h dX9_chancesToMeet_59 rfl rfl ?_
          refine j_aload_n h dX9_chancesToMeet_61 rfl ?_
          refine j_iload h dX9_chancesToMeet_62 rfl ?_
          refine j_iload_n h dX9_chancesToMeet_64 rfl ?_
          refine j_aload_n h dX9_chancesToMeet_65 rfl ?_
          refine j_callVP (q0 := 26) (ci := 9) h [.int (0 : Int32), .int x3, .ref (G.2.2 53)] (kX9_hoursIf _ G h.2.2.2.2.2.2.2.2.2.2 m (0 : Int32) x3) okX9_hoursIf inX9_hoursIf ml9_214 rfl rfl rfl rfl (by decide) (by decide) (Nat.le_of_ble_eq_true rfl) rfl dX9_chancesToMeet_66 (fun r19 hr19 => ?_)
          refine j_aload_n h dX9_chancesToMeet_69 rfl ?_
          refine j_iload h dX9_chancesToMeet_70 rfl ?_
          refine j_iload h dX9_chancesToMeet_72 rfl ?_
          refine j_aload_n h dX9_chancesToMeet_74 rfl ?_
          refine j_callVP (q0 := 26) (ci := 9) h [.int (1 : Int32), .int x4, .ref (G.2.2 53)] (kX9_hoursIf _ G h.2.2.2.2.2.2.2.2.2.2 m (1 : Int32) x4) okX9_hoursIf inX9_hoursIf ml9_214 rfl rfl rfl rfl (by decide) (by decide) (Nat.le_of_ble_eq_true rfl) rfl dX9_chancesToMeet_75 (fun r21 hr21 => ?_)
          refine j_iand h dX9_chancesToMeet_78 ?_
          refine j_nm (fun v23 hv23 => ?_)
          refine j_istore h dX9_chancesToMeet_79 rfl rfl ?_
          refine j_iload h dX9_chancesToMeet_81 rfl ?_
          refine j_callSP h [.int v23] (kJ6_bitCount_0f7a4 _ G h.2.2.2.2.2.2.2.2.2.2 m v23) okJ6_bitCount_0f7a4 stJ6_bitCount_0f7a4 ml9_183 rfl rfl (by decide) (by decide) (Nat.le_of_ble_eq_true rfl) rfl dX9_chancesToMeet_83 (fun r24 hr24 => ?_)
          refine j_aload_n h dX9_chancesToMeet_86 rfl ?_
          refine gC9_21 h dX9_chancesToMeet_87 ?_
          refine j_gPl (fun hg26 => ?_)
          refine gC9_178 h hg26 dX9_chancesToMeet_90 ?_
          refine j_iload_n h dX9_chancesToMeet_93 rfl ?_
          refine aC_Pl7 h hg26 dX9_chancesToMeet_94 (fun v27 hv27 => ?_)
          refine j_icmp_lt (tgt := 119) h dX9_chancesToMeet_95 (by decide) (fun c28 => ?_) (fun c28 => ?_)
          · refine j_iinc (v := (x6 + (1 : Int32))) h dX9_chancesToMeet_119 rfl (by rw [kiconst_1]) rfl ?_
            refine j_goto (tgt := 27) h dX9_chancesToMeet_122 (by decide) ?_
            refine j_wk (ls' := [some (.ref (G.2.2 26)), some (.int x1), some (.ref (G.2.2 53)), some (.int x3), some (.int x4), some (.int x5), some (.int (x6 + (1 : Int32))), none, none, none]) (And.intro rfl (And.intro rfl (And.intro rfl (And.intro rfl (And.intro rfl (And.intro rfl (And.intro rfl trivial))))))) ?_
            exact ih x1 x3 x4 x5 (x6 + (1 : Int32))
          · refine j_iload h dX9_chancesToMeet_98 rfl ?_
            refine j_aload_n h dX9_chancesToMeet_100 rfl ?_
            refine j_iload h dX9_chancesToMeet_101 rfl ?_
            refine j_iload_n h dX9_chancesToMeet_103 rfl ?_
            refine j_callVP (q0 := 26) (ci := 9) h [.int (0 : Int32), .int x3] (kX9_chancesIf _ G h.2.2.2.2.2.2.2.2.2.2 m (0 : Int32) x3) okX9_chancesIf inX9_chancesIf ml9_218 rfl rfl rfl rfl (by decide) (by decide) (Nat.le_of_ble_eq_true rfl) rfl dX9_chancesToMeet_104 (fun r29 hr29 => ?_)
            refine j_aload_n h dX9_chancesToMeet_107 rfl ?_
            refine j_iload h dX9_chancesToMeet_108 rfl ?_
            refine j_iload h dX9_chancesToMeet_110 rfl ?_
            refine j_callVP (q0 := 26) (ci := 9) h [.int (1 : Int32), .int x4] (kX9_chancesIf _ G h.2.2.2.2.2.2.2.2.2.2 m (1 : Int32) x4) okX9_chancesIf inX9_chancesIf ml9_218 rfl rfl rfl rfl (by decide) (by decide) (Nat.le_of_ble_eq_true rfl) rfl dX9_chancesToMeet_112 (fun r31 hr31 => ?_)
            refine j_imul h dX9_chancesToMeet_115 ?_
            refine j_iadd h dX9_chancesToMeet_116 ?_
            refine j_nm (fun v33 hv33 => ?_)
            refine j_istore h dX9_chancesToMeet_117 rfl rfl ?_
            refine j_iinc (v := (x6 + (1 : Int32))) h dX9_chancesToMeet_119 rfl (by rw [kiconst_1]) rfl ?_
            refine j_goto (tgt := 27) h dX9_chancesToMeet_122 (by decide) ?_
            refine j_wk (ls' := [some (.ref (G.2.2 26)), some (.int x1), some (.ref (G.2.2 53)), some (.int x3), some (.int x4), some (.int v33), some (.int (x6 + (1 : Int32))), none, none, none]) (And.intro rfl (And.intro rfl (And.intro rfl (And.intro rfl (And.intro rfl (And.intro rfl (And.intro rfl trivial))))))) ?_
            exact ih x1 x3 x4 v33 (x6 + (1 : Int32))
      · refine j_iconst (v := (1 : Int32)) h dX9_chancesToMeet_40 kiconst_1 ?_
        refine j_goto (tgt := 45) h dX9_chancesToMeet_41 (by decide) ?_
        refine j_istore h dX9_chancesToMeet_45 rfl rfl ?_
        refine j_iload h dX9_chancesToMeet_47 rfl ?_
        refine j_iconst (v := (2 : Int32)) h dX9_chancesToMeet_49 kiconst_2 ?_
        refine j_iand h dX9_chancesToMeet_50 ?_
        refine j_if_eq (tgt := 58) h dX9_chancesToMeet_51 (by decide) (fun c34 => ?_) (fun c34 => ?_)
        · refine j_iconst (v := (0 : Int32)) h dX9_chancesToMeet_58 kiconst_0 ?_
          refine j_istore h dX9_chancesToMeet_59 rfl rfl ?_
          refine j_aload_n h dX9_chancesToMeet_61 rfl ?_
          refine j_iload h dX9_chancesToMeet_62 rfl ?_
          refine j_iload_n h dX9_chancesToMeet_64 rfl ?_
          refine j_aload_n h dX9_chancesToMeet_65 rfl ?_
          refine j_callVP (q0 := 26) (ci := 9) h [.int (1 : Int32), .int x3, .ref (G.2.2 53)] (kX9_hoursIf _ G h.2.2.2.2.2.2.2.2.2.2 m (1 : Int32) x3) okX9_hoursIf inX9_hoursIf ml9_214 rfl rfl rfl rfl (by decide) (by decide) (Nat.le_of_ble_eq_true rfl) rfl dX9_chancesToMeet_66 (fun r35 hr35 => ?_)
          refine j_aload_n h dX9_chancesToMeet_69 rfl ?_
          refine j_iload h dX9_chancesToMeet_70 rfl ?_
          refine j_iload h dX9_chancesToMeet_72 rfl ?_
          refine j_aload_n h dX9_chancesToMeet_74 rfl ?_
          refine j_callVP (q0 := 26) (ci := 9) h [.int (0 : Int32), .int x4, .ref (G.2.2 53)] (kX9_hoursIf _ G h.2.2.2.2.2.2.2.2.2.2 m (0 : Int32) x4) okX9_hoursIf inX9_hoursIf ml9_214 rfl rfl rfl rfl (by decide) (by decide) (Nat.le_of_ble_eq_true rfl) rfl dX9_chancesToMeet_75 (fun r37 hr37 => ?_)
          refine j_iand h dX9_chancesToMeet_78 ?_
          refine j_nm (fun v39 hv39 => ?_)
          refine j_istore h dX9_chancesToMeet_79 rfl rfl ?_
          refine j_iload h dX9_chancesToMeet_81 rfl ?_
          refine j_callSP h [.int v39] (kJ6_bitCount_0f7a4 _ G h.2.2.2.2.2.2.2.2.2.2 m v39) okJ6_bitCount_0f7a4 stJ6_bitCount_0f7a4 ml9_183 rfl rfl (by decide) (by decide) (Nat.le_of_ble_eq_true rfl) rfl dX9_chancesToMeet_83 (fun r40 hr40 => ?_)
          refine j_aload_n h dX9_chancesToMeet_86 rfl ?_
          refine gC9_21 h dX9_chancesToMeet_87 ?_
          refine j_gPl (fun hg42 => ?_)
          refine gC9_178 h hg42 dX9_chancesToMeet_90 ?_
          refine j_iload_n h dX9_chancesToMeet_93 rfl ?_
          refine aC_Pl7 h hg42 dX9_chancesToMeet_94 (fun v43 hv43 => ?_)
          refine j_icmp_lt (tgt := 119) h dX9_chancesToMeet_95 (by decide) (fun c44 => ?_) (fun c44 => ?_)
          · refine j_iinc (v := (x6 + (1 : Int32))) h dX9_chancesToMeet_119 rfl (by rw [kiconst_1]) rfl ?_
            refine j_goto (tgt := 27) h dX9_chancesToMeet_122 (by decide) ?_
            refine j_wk (ls' := [some (.ref (G.2.2 26)), some (.int x1), some (.ref (G.2.2 53)), some (.int x3), some (.int x4), some (.int x5), some (.int (x6 + (1 : Int32))), none, none, none]) (And.intro rfl (And.intro rfl (And.intro rfl (And.intro rfl (And.intro rfl (And.intro rfl (And.intro rfl trivial))))))) ?_
            exact ih x1 x3 x4 x5 (x6 + (1 : Int32))
          · refine j_iload h dX9_chancesToMeet_98 rfl ?_
            refine j_aload_n h dX9_chancesToMeet_100 rfl ?_
            refine j_iload h dX9_chancesToMeet_101 rfl ?_
            refine j_iload_n h dX9_chancesToMeet_103 rfl ?_
            refine j_callVP (q0 := 26) (ci := 9) h [.int (1 : Int32), .int x3] (kX9_chancesIf _ G h.2.2.2.2.2.2.2.2.2.2 m (1 : Int32) x3) okX9_chancesIf inX9_chancesIf ml9_218 rfl rfl rfl rfl (by decide) (by decide) (Nat.le_of_ble_eq_true rfl) rfl dX9_chancesToMeet_104 (fun r45 hr45 => ?_)
            refine j_aload_n h dX9_chancesToMeet_107 rfl ?_
            refine j_iload h dX9_chancesToMeet_108 rfl ?_
            refine j_iload h dX9_chancesToMeet_110 rfl ?_
            refine j_callVP (q0 := 26) (ci := 9) h [.int (0 : Int32), .int x4] (kX9_chancesIf _ G h.2.2.2.2.2.2.2.2.2.2 m (0 : Int32) x4) okX9_chancesIf inX9_chancesIf ml9_218 rfl rfl rfl rfl (by decide) (by decide) (Nat.le_of_ble_eq_true rfl) rfl dX9_chancesToMeet_112 (fun r47 hr47 => ?_)
            refine j_imul h dX9_chancesToMeet_115 ?_
            refine j_iadd h dX9_chancesToMeet_116 ?_
            refine j_nm (fun v49 hv49 => ?_)
            refine j_istore h dX9_chancesToMeet_117 rfl rfl ?_
            refine j_iinc (v := (x6 + (1 : Int32))) h dX9_chancesToMeet_119 rfl (by rw [kiconst_1]) rfl ?_
            refine j_goto (tgt := 27) h dX9_chancesToMeet_122 (by decide) ?_
            refine j_wk (ls' := [some (.ref (G.2.2 26)), some (.int x1), some (.ref (G.2.2 53)), some (.int x3), some (.int x4), some (.int v49), some (.int (x6 + (1 : Int32))), none, none, none]) (And.intro rfl (And.intro rfl (And.intro rfl (And.intro rfl (And.intro rfl (And.intro rfl (And.intro rfl trivial))))))) ?_
            exact ih x1 x3 x4 v49 (x6 + (1 : Int32))
        · refine j_iconst (v := (1 : Int32)) h dX9_chancesToMeet_54 kiconst_1 ?_
          refine j_goto (tgt := 59) h dX9_chancesToMeet_55 (by decide) ?_
          refine j_istore h dX9_chancesToMeet_59 rfl rfl ?_
          refine j_aload_n h dX9_chancesToMeet_61 rfl ?_
          refine j_iload h dX9_chancesToMeet_62 rfl ?_
          refine j_iload_n h dX9_chancesToMeet_64 rfl ?_
          refine j_aload_n h dX9_chancesToMeet_65 rfl ?_
          refine j_callVP (q0 := 26) (ci := 9) h [.int (1 : Int32), .int x3, .ref (G.2.2 53)] (kX9_hoursIf _ G h.2.2.2.2.2.2.2.2.2.2 m (1 : Int32) x3) okX9_hoursIf inX9_hoursIf ml9_214 rfl rfl rfl rfl (by decide) (by decide) (Nat.le_of_ble_eq_true rfl) rfl dX9_chancesToMeet_66 (fun r50 hr50 => ?_)
          refine j_aload_n h dX9_chancesToMeet_69 rfl ?_
          refine j_iload h dX9_chancesToMeet_70 rfl ?_
          refine j_iload h dX9_chancesToMeet_72 rfl ?_
          refine j_aload_n h dX9_chancesToMeet_74 rfl ?_
          refine j_callVP (q0 := 26) (ci := 9) h [.int (1 : Int32), .int x4, .ref (G.2.2 53)] (kX9_hoursIf _ G h.2.2.2.2.2.2.2.2.2.2 m (1 : Int32) x4) okX9_hoursIf inX9_hoursIf ml9_214 rfl rfl rfl rfl (by decide) (by decide) (Nat.le_of_ble_eq_true rfl) rfl dX9_chancesToMeet_75 (fun r52 hr52 => ?_)
          refine j_iand h dX9_chancesToMeet_78 ?_
          refine j_nm (fun v54 hv54 => ?_)
          refine j_istore h dX9_chancesToMeet_79 rfl rfl ?_
          refine j_iload h dX9_chancesToMeet_81 rfl ?_
          refine j_callSP h [.int v54] (kJ6_bitCount_0f7a4 _ G h.2.2.2.2.2.2.2.2.2.2 m v54) okJ6_bitCount_0f7a4 stJ6_bitCount_0f7a4 ml9_183 rfl rfl (by decide) (by decide) (Nat.le_of_ble_eq_true rfl) rfl dX9_chancesToMeet_83 (fun r55 hr55 => ?_)
          refine j_aload_n h dX9_chancesToMeet_86 rfl ?_
          refine gC9_21 h dX9_chancesToMeet_87 ?_
          refine j_gPl (fun hg57 => ?_)
          refine gC9_178 h hg57 dX9_chancesToMeet_90 ?_
          refine j_iload_n h dX9_chancesToMeet_93 rfl ?_
          refine aC_Pl7 h hg57 dX9_chancesToMeet_94 (fun v58 hv58 => ?_)
          refine j_icmp_lt (tgt := 119) h dX9_chancesToMeet_95 (by decide) (fun c59 => ?_) (fun c59 => ?_)
          · refine j_iinc (v := (x6 + (1 : Int32))) h dX9_chancesToMeet_119 rfl (by rw [kiconst_1]) rfl ?_
            refine j_goto (tgt := 27) h dX9_chancesToMeet_122 (by decide) ?_
            refine j_wk (ls' := [some (.ref (G.2.2 26)), some (.int x1), some (.ref (G.2.2 53)), some (.int x3), some (.int x4), some (.int x5), some (.int (x6 + (1 : Int32))), none, none, none]) (And.intro rfl (And.intro rfl (And.intro rfl (And.intro rfl (And.intro rfl (And.intro rfl (And.intro rfl trivial))))))) ?_
            exact ih x1 x3 x4 x5 (x6 + (1 : Int32))
          · refine j_iload h dX9_chancesToMeet_98 rfl ?_
            refine j_aload_n h dX9_chancesToMeet_100 rfl ?_
            refine j_iload h dX9_chancesToMeet_101 rfl ?_
            refine j_iload_n h dX9_chancesToMeet_103 rfl ?_
            refine j_callVP (q0 := 26) (ci := 9) h [.int (1 : Int32), .int x3] (kX9_chancesIf _ G h.2.2.2.2.2.2.2.2.2.2 m (1 : Int32) x3) okX9_chancesIf inX9_chancesIf ml9_218 rfl rfl rfl rfl (by decide) (by decide) (Nat.le_of_ble_eq_true rfl) rfl dX9_chancesToMeet_104 (fun r60 hr60 => ?_)
            refine j_aload_n h dX9_chancesToMeet_107 rfl ?_
            refine j_iload h dX9_chancesToMeet_108 rfl ?_
            refine j_iload h dX9_chancesToMeet_110 rfl ?_
            refine j_callVP (q0 := 26) (ci := 9) h [.int (1 : Int32), .int x4] (kX9_chancesIf _ G h.2.2.2.2.2.2.2.2.2.2 m (1 : Int32) x4) okX9_chancesIf inX9_chancesIf ml9_218 rfl rfl rfl rfl (by decide) (by decide) (Nat.le_of_ble_eq_true rfl) rfl dX9_chancesToMeet_112 (fun r62 hr62 => ?_)
            refine j_imul h dX9_chancesToMeet_115 ?_
            refine j_iadd h dX9_chancesToMeet_116 ?_
            refine j_nm (fun v64 hv64 => ?_)
            refine j_istore h dX9_chancesToMeet_117 rfl rfl ?_
            refine j_iinc (v := (x6 + (1 : Int32))) h dX9_chancesToMeet_119 rfl (by rw [kiconst_1]) rfl ?_
            refine j_goto (tgt := 27) h dX9_chancesToMeet_122 (by decide) ?_
            refine j_wk (ls' := [some (.ref (G.2.2 26)), some (.int x1), some (.ref (G.2.2 53)), some (.int x3), some (.int x4), some (.int v64), some (.int (x6 + (1 : Int32))), none, none, none]) (And.intro rfl (And.intro rfl (And.intro rfl (And.intro rfl (And.intro rfl (And.intro rfl (And.intro rfl trivial))))))) ?_
            exact ih x1 x3 x4 v64 (x6 + (1 : Int32))
set_option maxHeartbeats 4000000 in
set_option maxRecDepth 100000 in
theorem kX9_chancesToMeet (l : Launch) (G : Gt) (hD : ∀ m, va_D (inA G nC) (wC G m)) (m : Mem) (x1 : Int32) : ∀ a, fX9_chancesToMeet m x1 = some a → Ct l G wC nC yX9_chancesToMeet cX9_chancesToMeet 10 (some .int) 4 [.ref (G.2.2 26), .int x1, .ref (G.2.2 53)] m ((cvP m) a) := by
  refine ct_of (own := RX9) (ls0 := [some (.ref (G.2.2 26)), some (.int x1), some (.ref (G.2.2 53)), none, none, none, none, none, none, none]) (by decide) rfl rfl rfl (Nat.le_of_ble_eq_true rfl) hD (fun X h => ?_) l
  unfold fX9_chancesToMeet
  refine j_aload_n h dX9_chancesToMeet_0 rfl ?_
  refine gC9_21 h dX9_chancesToMeet_1 ?_
  refine j_gPl (fun hg1 => ?_)
  refine gC9_188 h hg1 dX9_chancesToMeet_4 ?_
  refine j_iload_n h dX9_chancesToMeet_7 rfl ?_
  refine aC_Pl5 h hg1 dX9_chancesToMeet_8 (fun v2 hv2 => ?_)
  refine j_istore_n h dX9_chancesToMeet_9 rfl rfl ?_
  refine j_aload_n h dX9_chancesToMeet_10 rfl ?_
  refine gC9_21 h dX9_chancesToMeet_11 ?_
  refine gC9_191 h hg1 dX9_chancesToMeet_14 ?_
  refine j_iload_n h dX9_chancesToMeet_17 rfl ?_
  refine aC_Pl6 h hg1 dX9_chancesToMeet_18 (fun v3 hv3 => ?_)
  refine j_istore h dX9_chancesToMeet_19 rfl rfl ?_
  refine j_iconst (v := (0 : Int32)) h dX9_chancesToMeet_21 kiconst_0 ?_
  refine j_istore h dX9_chancesToMeet_22 rfl rfl ?_
  refine j_iconst (v := (0 : Int32)) h dX9_chancesToMeet_24 kiconst_0 ?_
  refine j_istore h dX9_chancesToMeet_25 rfl rfl ?_
  refine j_wk (ls' := [some (.ref (G.2.2 26)), some (.int x1), some (.ref (G.2.2 53)), some (.int v2), some (.int v3), some (.int (0 : Int32)), some (.int (0 : Int32)), none, none, none]) (And.intro rfl (And.intro rfl (And.intro rfl (And.intro rfl (And.intro rfl (And.intro rfl (And.intro rfl trivial))))))) ?_
  exact (wX9_chancesToMeet h m 5000) x1 v2 v3 (0 : Int32) (0 : Int32)
theorem dX10_add_0 : DD cX10_add 0 (.bipush 24) 2 2 := ⟨by decide +kernel, rfl⟩
theorem dX10_add_2 : DD cX10_add 2 (.istore_n 2) 1 3 := ⟨by decide +kernel, rfl⟩
theorem dX10_add_3 : DD cX10_add 3 (.iload_n 2) 1 4 := ⟨by decide +kernel, rfl⟩
theorem dX10_add_4 : DD cX10_add 4 (.ifCond .lt 42) 3 7 := ⟨by decide +kernel, rfl⟩
theorem dX10_add_7 : DD cX10_add 7 (.aload_n 0) 1 8 := ⟨by decide +kernel, rfl⟩
theorem dX10_add_8 : DD cX10_add 8 (.getfield 33) 3 11 := ⟨by decide +kernel, rfl⟩
theorem dX10_add_11 : DD cX10_add 11 (.sipush 1600) 3 14 := ⟨by decide +kernel, rfl⟩
theorem dX10_add_14 : DD cX10_add 14 (.if_icmp .ge 26) 3 17 := ⟨by decide +kernel, rfl⟩
theorem dX10_add_17 : DD cX10_add 17 (.aload_n 0) 1 18 := ⟨by decide +kernel, rfl⟩
theorem dX10_add_18 : DD cX10_add 18 (.getfield 9) 3 21 := ⟨by decide +kernel, rfl⟩
theorem dX10_add_21 : DD cX10_add 21 (.aload_n 0) 1 22 := ⟨by decide +kernel, rfl⟩
theorem dX10_add_22 : DD cX10_add 22 (.getfield 33) 3 25 := ⟨by decide +kernel, rfl⟩
theorem dX10_add_25 : DD cX10_add 25 (.iload_n 1) 1 26 := ⟨by decide +kernel, rfl⟩
theorem dX10_add_26 : DD cX10_add 26 (.iload_n 2) 1 27 := ⟨by decide +kernel, rfl⟩
theorem dX10_add_27 : DD cX10_add 27 (.ishr) 1 28 := ⟨by decide +kernel, rfl⟩
theorem dX10_add_28 : DD cX10_add 28 (.i2b) 1 29 := ⟨by decide +kernel, rfl⟩
theorem dX10_add_29 : DD cX10_add 29 (.bastore) 1 30 := ⟨by decide +kernel, rfl⟩
theorem dX10_add_30 : DD cX10_add 30 (.aload_n 0) 1 31 := ⟨by decide +kernel, rfl⟩
theorem dX10_add_31 : DD cX10_add 31 (.dup) 1 32 := ⟨by decide +kernel, rfl⟩
theorem dX10_add_32 : DD cX10_add 32 (.getfield 33) 3 35 := ⟨by decide +kernel, rfl⟩
theorem dX10_add_35 : DD cX10_add 35 (.iconst 1) 1 36 := ⟨by decide +kernel, rfl⟩
theorem dX10_add_36 : DD cX10_add 36 (.iadd) 1 37 := ⟨by decide +kernel, rfl⟩
theorem dX10_add_37 : DD cX10_add 37 (.putfield 33) 3 40 := ⟨by decide +kernel, rfl⟩
theorem dX10_add_40 : DD cX10_add 40 (.iinc 2 (-8)) 3 43 := ⟨by decide +kernel, rfl⟩
theorem dX10_add_43 : DD cX10_add 43 (.goto (-40)) 3 46 := ⟨by decide +kernel, rfl⟩
theorem dX10_add_46 : DD cX10_add 46 (.return_) 1 47 := ⟨by decide +kernel, rfl⟩
def gX10_add : Nat → Int32 → Int32 → Mem → Option Mem
  | 0, _, _, _ => none
  | f + 1, x1, x2, m => (if x2 < 0 then (some m) else (if (1600 : Int32) ≤ (m.1 1 1) then (gX10_add f x1 (x2 + (-8 : Int32)) m) else (wr m 2 1600 (m.1 1 1) (vp_nar .byte ((x1 >>> (x2 &&& 31))).toInt8.toInt32) fun m3 => (pt (sI m3 1 1 ((m3.1 1 1) + (1 : Int32))) fun m4 => (gX10_add f x1 (x2 + (-8 : Int32)) m4)))))
def fX10_add (m : Mem) (x1 : Int32) : Option Mem := (gX10_add 5000 x1 (24 : Int32) m)
set_option maxHeartbeats 4000000 in
set_option maxRecDepth 100000 in
theorem wX10_add {X : Cx} {G : Gt} (h : OkX (X, G, wC, nC) cX10_add RX10 3 none 1) : ∀ f : Nat, (∀ (x1 : Int32) (x2 : Int32) (m : Mem), JR (X, G, wC, nC) cvV m 3 [some (.ref (G.2.2 1)), some (.int x1), some (.int x2)] [] (gX10_add f x1 x2 m)) := by
  intro f
  induction f with
  | zero => exact (fun _ _ _ => j_none)
  | succ f ih =>
    intro x1 x2 m
    rw [gX10_add]
    refine j_iload_n h dX10_add_3 rfl ?_
    refine j_if_lt (tgt := 46) h dX10_add_4 (by decide) (fun c1 => ?_) (fun c1 => ?_)
    · exact j_vret h rfl dX10_add_46
    · refine j_aload_n h dX10_add_7 rfl ?_
      refine gC10_33 h dX10_add_8 ?_
      refine j_sipush (v := (1600 : Int32)) h dX10_add_11 ksipush_1600 ?_
      refine j_icmp_ge (tgt := 40) h dX10_add_14 (by decide) (fun c2 => ?_) (fun c2 => ?_)
      · refine j_iinc (v := (x2 + (-8 : Int32))) h dX10_add_40 rfl (by rw [kiconst_m8]) rfl ?_
        refine j_goto (tgt := 3) h dX10_add_43 (by decide) ?_
        refine j_wk (ls' := [some (.ref (G.2.2 1)), some (.int x1), some (.int (x2 + (-8 : Int32)))]) (And.intro rfl (And.intro rfl (And.intro rfl trivial))) ?_
        exact ih x1 (x2 + (-8 : Int32)) m
      · refine j_aload_n h dX10_add_17 rfl ?_
        refine gC10_9 h dX10_add_18 ?_
        refine j_aload_n h dX10_add_21 rfl ?_
        refine gC10_33 h dX10_add_22 ?_
        refine j_iload_n h dX10_add_25 rfl ?_
        refine j_iload_n h dX10_add_26 rfl ?_
        refine j_ishr h dX10_add_27 ?_
        refine j_i2b h dX10_add_28 ?_
        refine bC_2 h dX10_add_29 (fun m3 hm3 => ?_)
        refine j_aload_n h dX10_add_30 rfl ?_
        refine j_dup h dX10_add_31 rfl ?_
        refine gC10_33 h dX10_add_32 ?_
        refine j_iconst (v := (1 : Int32)) h dX10_add_35 kiconst_1 ?_
        refine j_iadd h dX10_add_36 ?_
        refine pC10_33 h dX10_add_37 (fun m4 hm4 => ?_)
        refine j_iinc (v := (x2 + (-8 : Int32))) h dX10_add_40 rfl (by rw [kiconst_m8]) rfl ?_
        refine j_goto (tgt := 3) h dX10_add_43 (by decide) ?_
        refine j_wk (ls' := [some (.ref (G.2.2 1)), some (.int x1), some (.int (x2 + (-8 : Int32)))]) (And.intro rfl (And.intro rfl (And.intro rfl trivial))) ?_
        exact ih x1 (x2 + (-8 : Int32)) m4
set_option maxHeartbeats 4000000 in
set_option maxRecDepth 100000 in
theorem kX10_add (l : Launch) (G : Gt) (hD : ∀ m, va_D (inA G nC) (wC G m)) (m : Mem) (x1 : Int32) : ∀ a, fX10_add m x1 = some a → Ct l G wC nC yX10_add cX10_add 3 none 1 [.ref (G.2.2 1), .int x1] m (cvV a) := by
  refine ct_of (own := RX10) (ls0 := [some (.ref (G.2.2 1)), some (.int x1), none]) (by decide) rfl rfl rfl (Nat.le_of_ble_eq_true rfl) hD (fun X h => ?_) l
  unfold fX10_add
  refine j_bipush (v := (24 : Int32)) h dX10_add_0 kbipush_24 ?_
  refine j_istore_n h dX10_add_2 rfl rfl ?_
  refine j_wk (ls' := [some (.ref (G.2.2 1)), some (.int x1), some (.int (24 : Int32))]) (And.intro rfl (And.intro rfl (And.intro rfl trivial))) ?_
  exact (wX10_add h 5000) x1 (24 : Int32) m
theorem dX11_feed_0 : DD cX11_feed 0 (.aload_n 0) 1 1 := ⟨by decide +kernel, rfl⟩
theorem dX11_feed_1 : DD cX11_feed 1 (.getfield 10) 3 4 := ⟨by decide +kernel, rfl⟩
theorem dX11_feed_4 : DD cX11_feed 4 (.getfield 72) 3 7 := ⟨by decide +kernel, rfl⟩
theorem dX11_feed_7 : DD cX11_feed 7 (.sipush 1580) 3 10 := ⟨by decide +kernel, rfl⟩
theorem dX11_feed_10 : DD cX11_feed 10 (.if_icmp .le 5) 3 13 := ⟨by decide +kernel, rfl⟩
theorem dX11_feed_13 : DD cX11_feed 13 (.iconst (-1)) 1 14 := ⟨by decide +kernel, rfl⟩
theorem dX11_feed_14 : DD cX11_feed 14 (.ireturn) 1 15 := ⟨by decide +kernel, rfl⟩
theorem dX11_feed_15 : DD cX11_feed 15 (.aload_n 0) 1 16 := ⟨by decide +kernel, rfl⟩
theorem dX11_feed_16 : DD cX11_feed 16 (.getfield 10) 3 19 := ⟨by decide +kernel, rfl⟩
theorem dX11_feed_19 : DD cX11_feed 19 (.iload_n 1) 1 20 := ⟨by decide +kernel, rfl⟩
theorem dX11_feed_20 : DD cX11_feed 20 (.invokevirtual 76) 3 23 := ⟨by decide +kernel, rfl⟩
theorem dX11_feed_23 : DD cX11_feed 23 (.aload_n 0) 1 24 := ⟨by decide +kernel, rfl⟩
theorem dX11_feed_24 : DD cX11_feed 24 (.getfield 10) 3 27 := ⟨by decide +kernel, rfl⟩
theorem dX11_feed_27 : DD cX11_feed 27 (.iload_n 2) 1 28 := ⟨by decide +kernel, rfl⟩
theorem dX11_feed_28 : DD cX11_feed 28 (.invokevirtual 76) 3 31 := ⟨by decide +kernel, rfl⟩
theorem dX11_feed_31 : DD cX11_feed 31 (.aload_n 0) 1 32 := ⟨by decide +kernel, rfl⟩
theorem dX11_feed_32 : DD cX11_feed 32 (.getfield 10) 3 35 := ⟨by decide +kernel, rfl⟩
theorem dX11_feed_35 : DD cX11_feed 35 (.iload_n 3) 1 36 := ⟨by decide +kernel, rfl⟩
theorem dX11_feed_36 : DD cX11_feed 36 (.invokevirtual 76) 3 39 := ⟨by decide +kernel, rfl⟩
theorem dX11_feed_39 : DD cX11_feed 39 (.aload_n 0) 1 40 := ⟨by decide +kernel, rfl⟩
theorem dX11_feed_40 : DD cX11_feed 40 (.getfield 10) 3 43 := ⟨by decide +kernel, rfl⟩
theorem dX11_feed_43 : DD cX11_feed 43 (.iload 4) 2 45 := ⟨by decide +kernel, rfl⟩
theorem dX11_feed_45 : DD cX11_feed 45 (.invokevirtual 76) 3 48 := ⟨by decide +kernel, rfl⟩
theorem dX11_feed_48 : DD cX11_feed 48 (.aload_n 0) 1 49 := ⟨by decide +kernel, rfl⟩
theorem dX11_feed_49 : DD cX11_feed 49 (.getfield 10) 3 52 := ⟨by decide +kernel, rfl⟩
theorem dX11_feed_52 : DD cX11_feed 52 (.iload 5) 2 54 := ⟨by decide +kernel, rfl⟩
theorem dX11_feed_54 : DD cX11_feed 54 (.invokevirtual 76) 3 57 := ⟨by decide +kernel, rfl⟩
theorem dX11_feed_57 : DD cX11_feed 57 (.aload_n 0) 1 58 := ⟨by decide +kernel, rfl⟩
theorem dX11_feed_58 : DD cX11_feed 58 (.getfield 10) 3 61 := ⟨by decide +kernel, rfl⟩
theorem dX11_feed_61 : DD cX11_feed 61 (.getfield 72) 3 64 := ⟨by decide +kernel, rfl⟩
theorem dX11_feed_64 : DD cX11_feed 64 (.ireturn) 1 65 := ⟨by decide +kernel, rfl⟩
def fX11_feed (m : Mem) (x1 : Int32) (x2 : Int32) (x3 : Int32) (x4 : Int32) (x5 : Int32) : Option (Int32 × Mem) := (if (m.1 1 1) ≤ (1580 : Int32) then (cV (fX10_add m x1) fun m3 => (cV (fX10_add m3 x2) fun m5 => (cV (fX10_add m5 x3) fun m7 => (cV (fX10_add m7 x4) fun m9 => (cV (fX10_add m9 x5) fun m11 => (some ((m11.1 1 1), m11))))))) else (some ((-1 : Int32), m)))
set_option maxHeartbeats 4000000 in
set_option maxRecDepth 100000 in
theorem kX11_feed (l : Launch) (G : Gt) (hD : ∀ m, va_D (inA G nC) (wC G m)) (m : Mem) (x1 : Int32) (x2 : Int32) (x3 : Int32) (x4 : Int32) (x5 : Int32) : ∀ a, fX11_feed m x1 x2 x3 x4 x5 = some a → Ct l G wC nC yX11_feed cX11_feed 6 (some .int) 2 [.ref (G.2.2 0), .int x1, .int x2, .int x3, .int x4, .int x5] m (cvI a) := by
  refine ct_of (own := RX11) (ls0 := [some (.ref (G.2.2 0)), some (.int x1), some (.int x2), some (.int x3), some (.int x4), some (.int x5)]) (by decide) rfl rfl rfl (Nat.le_of_ble_eq_true rfl) hD (fun X h => ?_) l
  unfold fX11_feed
  refine j_aload_n h dX11_feed_0 rfl ?_
  refine gC11_10 h dX11_feed_1 ?_
  refine gC11_72 h dX11_feed_4 ?_
  refine j_sipush (v := (1580 : Int32)) h dX11_feed_7 ksipush_1580 ?_
  refine j_icmp_le (tgt := 15) h dX11_feed_10 (by decide) (fun c1 => ?_) (fun c1 => ?_)
  · refine j_aload_n h dX11_feed_15 rfl ?_
    refine gC11_10 h dX11_feed_16 ?_
    refine j_iload_n h dX11_feed_19 rfl ?_
    refine j_callVV (q0 := 1) (ci := 10) h [.int x1] (kX10_add _ G h.2.2.2.2.2.2.2.2.2.2 m x1) okX10_add inX10_add ml11_76 rfl rfl rfl rfl (by decide) (by decide) (Nat.le_of_ble_eq_true rfl) rfl dX11_feed_20 (fun m3 hm3 => ?_)
    refine j_aload_n h dX11_feed_23 rfl ?_
    refine gC11_10 h dX11_feed_24 ?_
    refine j_iload_n h dX11_feed_27 rfl ?_
    refine j_callVV (q0 := 1) (ci := 10) h [.int x2] (kX10_add _ G h.2.2.2.2.2.2.2.2.2.2 m3 x2) okX10_add inX10_add ml11_76 rfl rfl rfl rfl (by decide) (by decide) (Nat.le_of_ble_eq_true rfl) rfl dX11_feed_28 (fun m5 hm5 => ?_)
    refine j_aload_n h dX11_feed_31 rfl ?_
    refine gC11_10 h dX11_feed_32 ?_
    refine j_iload_n h dX11_feed_35 rfl ?_
    refine j_callVV (q0 := 1) (ci := 10) h [.int x3] (kX10_add _ G h.2.2.2.2.2.2.2.2.2.2 m5 x3) okX10_add inX10_add ml11_76 rfl rfl rfl rfl (by decide) (by decide) (Nat.le_of_ble_eq_true rfl) rfl dX11_feed_36 (fun m7 hm7 => ?_)
    refine j_aload_n h dX11_feed_39 rfl ?_
    refine gC11_10 h dX11_feed_40 ?_
    refine j_iload h dX11_feed_43 rfl ?_
    refine j_callVV (q0 := 1) (ci := 10) h [.int x4] (kX10_add _ G h.2.2.2.2.2.2.2.2.2.2 m7 x4) okX10_add inX10_add ml11_76 rfl rfl rfl rfl (by decide) (by decide) (Nat.le_of_ble_eq_true rfl) rfl dX11_feed_45 (fun m9 hm9 => ?_)
    refine j_aload_n h dX11_feed_48 rfl ?_
    refine gC11_10 h dX11_feed_49 ?_
    refine j_iload h dX11_feed_52 rfl ?_
    refine j_callVV (q0 := 1) (ci := 10) h [.int x5] (kX10_add _ G h.2.2.2.2.2.2.2.2.2.2 m9 x5) okX10_add inX10_add ml11_76 rfl rfl rfl rfl (by decide) (by decide) (Nat.le_of_ble_eq_true rfl) rfl dX11_feed_54 (fun m11 hm11 => ?_)
    refine j_aload_n h dX11_feed_57 rfl ?_
    refine gC11_10 h dX11_feed_58 ?_
    refine gC11_72 h dX11_feed_61 ?_
    exact j_iret h rfl dX11_feed_64
  · refine j_iconst (v := (-1 : Int32)) h dX11_feed_13 kiconst_m1 ?_
    exact j_iret h rfl dX11_feed_14
theorem dX11_end_0 : DD cX11_end 0 (.iload_n 1) 1 1 := ⟨by decide +kernel, rfl⟩
theorem dX11_end_1 : DD cX11_end 1 (.ifCond .lt 14) 3 4 := ⟨by decide +kernel, rfl⟩
theorem dX11_end_4 : DD cX11_end 4 (.iload_n 1) 1 5 := ⟨by decide +kernel, rfl⟩
theorem dX11_end_5 : DD cX11_end 5 (.aload_n 0) 1 6 := ⟨by decide +kernel, rfl⟩
theorem dX11_end_6 : DD cX11_end 6 (.getfield 10) 3 9 := ⟨by decide +kernel, rfl⟩
theorem dX11_end_9 : DD cX11_end 9 (.getfield 72) 3 12 := ⟨by decide +kernel, rfl⟩
theorem dX11_end_12 : DD cX11_end 12 (.if_icmp .le 5) 3 15 := ⟨by decide +kernel, rfl⟩
theorem dX11_end_15 : DD cX11_end 15 (.iconst (-1)) 1 16 := ⟨by decide +kernel, rfl⟩
theorem dX11_end_16 : DD cX11_end 16 (.ireturn) 1 17 := ⟨by decide +kernel, rfl⟩
theorem dX11_end_17 : DD cX11_end 17 (.aload_n 0) 1 18 := ⟨by decide +kernel, rfl⟩
theorem dX11_end_18 : DD cX11_end 18 (.getfield 10) 3 21 := ⟨by decide +kernel, rfl⟩
theorem dX11_end_21 : DD cX11_end 21 (.iload_n 1) 1 22 := ⟨by decide +kernel, rfl⟩
theorem dX11_end_22 : DD cX11_end 22 (.putfield 72) 3 25 := ⟨by decide +kernel, rfl⟩
theorem dX11_end_25 : DD cX11_end 25 (.iload_n 1) 1 26 := ⟨by decide +kernel, rfl⟩
theorem dX11_end_26 : DD cX11_end 26 (.ireturn) 1 27 := ⟨by decide +kernel, rfl⟩
def fX11_end (m : Mem) (x1 : Int32) : Option (Int32 × Mem) := (if x1 < 0 then (some ((-1 : Int32), m)) else (if x1 ≤ (m.1 1 1) then (pt (sI m 1 1 x1) fun m3 => (some (x1, m3))) else (some ((-1 : Int32), m))))
set_option maxHeartbeats 4000000 in
set_option maxRecDepth 100000 in
theorem kX11_end (l : Launch) (G : Gt) (hD : ∀ m, va_D (inA G nC) (wC G m)) (m : Mem) (x1 : Int32) : ∀ a, fX11_end m x1 = some a → Ct l G wC nC yX11_end cX11_end 2 (some .int) 1 [.ref (G.2.2 0), .int x1] m (cvI a) := by
  refine ct_of (own := RX11) (ls0 := [some (.ref (G.2.2 0)), some (.int x1)]) (by decide) rfl rfl rfl (Nat.le_of_ble_eq_true rfl) hD (fun X h => ?_) l
  unfold fX11_end
  refine j_iload_n h dX11_end_0 rfl ?_
  refine j_if_lt (tgt := 15) h dX11_end_1 (by decide) (fun c1 => ?_) (fun c1 => ?_)
  · refine j_iconst (v := (-1 : Int32)) h dX11_end_15 kiconst_m1 ?_
    exact j_iret h rfl dX11_end_16
  · refine j_iload_n h dX11_end_4 rfl ?_
    refine j_aload_n h dX11_end_5 rfl ?_
    refine gC11_10 h dX11_end_6 ?_
    refine gC11_72 h dX11_end_9 ?_
    refine j_icmp_le (tgt := 17) h dX11_end_12 (by decide) (fun c2 => ?_) (fun c2 => ?_)
    · refine j_aload_n h dX11_end_17 rfl ?_
      refine gC11_10 h dX11_end_18 ?_
      refine j_iload_n h dX11_end_21 rfl ?_
      refine pC11_72 h dX11_end_22 (fun m3 hm3 => ?_)
      refine j_iload_n h dX11_end_25 rfl ?_
      exact j_iret h rfl dX11_end_26
    · refine j_iconst (v := (-1 : Int32)) h dX11_end_15 kiconst_m1 ?_
      exact j_iret h rfl dX11_end_16
theorem dX11_town_0 : DD cX11_town 0 (.aload_n 0) 1 1 := ⟨by decide +kernel, rfl⟩
theorem dX11_town_1 : DD cX11_town 1 (.getfield 21) 3 4 := ⟨by decide +kernel, rfl⟩
theorem dX11_town_4 : DD cX11_town 4 (.invokevirtual 80) 3 7 := ⟨by decide +kernel, rfl⟩
theorem dX11_town_7 : DD cX11_town 7 (.istore_n 1) 1 8 := ⟨by decide +kernel, rfl⟩
theorem dX11_town_8 : DD cX11_town 8 (.aload_n 0) 1 9 := ⟨by decide +kernel, rfl⟩
theorem dX11_town_9 : DD cX11_town 9 (.getfield 10) 3 12 := ⟨by decide +kernel, rfl⟩
theorem dX11_town_12 : DD cX11_town 12 (.iconst 0) 1 13 := ⟨by decide +kernel, rfl⟩
theorem dX11_town_13 : DD cX11_town 13 (.putfield 72) 3 16 := ⟨by decide +kernel, rfl⟩
theorem dX11_town_16 : DD cX11_town 16 (.iload_n 1) 1 17 := ⟨by decide +kernel, rfl⟩
theorem dX11_town_17 : DD cX11_town 17 (.ifCond .ne 5) 3 20 := ⟨by decide +kernel, rfl⟩
theorem dX11_town_20 : DD cX11_town 20 (.iconst (-1)) 1 21 := ⟨by decide +kernel, rfl⟩
theorem dX11_town_21 : DD cX11_town 21 (.ireturn) 1 22 := ⟨by decide +kernel, rfl⟩
theorem dX11_town_22 : DD cX11_town 22 (.aload_n 0) 1 23 := ⟨by decide +kernel, rfl⟩
theorem dX11_town_23 : DD cX11_town 23 (.getfield 28) 3 26 := ⟨by decide +kernel, rfl⟩
theorem dX11_town_26 : DD cX11_town 26 (.aload_n 0) 1 27 := ⟨by decide +kernel, rfl⟩
theorem dX11_town_27 : DD cX11_town 27 (.getfield 21) 3 30 := ⟨by decide +kernel, rfl⟩
theorem dX11_town_30 : DD cX11_town 30 (.aload_n 0) 1 31 := ⟨by decide +kernel, rfl⟩
theorem dX11_town_31 : DD cX11_town 31 (.getfield 28) 3 34 := ⟨by decide +kernel, rfl⟩
theorem dX11_town_34 : DD cX11_town 34 (.getfield 84) 3 37 := ⟨by decide +kernel, rfl⟩
theorem dX11_town_37 : DD cX11_town 37 (.invokevirtual 88) 3 40 := ⟨by decide +kernel, rfl⟩
theorem dX11_town_40 : DD cX11_town 40 (.invokevirtual 92) 3 43 := ⟨by decide +kernel, rfl⟩
theorem dX11_town_43 : DD cX11_town 43 (.aload_n 0) 1 44 := ⟨by decide +kernel, rfl⟩
theorem dX11_town_44 : DD cX11_town 44 (.getfield 35) 3 47 := ⟨by decide +kernel, rfl⟩
theorem dX11_town_47 : DD cX11_town 47 (.aload_n 0) 1 48 := ⟨by decide +kernel, rfl⟩
theorem dX11_town_48 : DD cX11_town 48 (.getfield 28) 3 51 := ⟨by decide +kernel, rfl⟩
theorem dX11_town_51 : DD cX11_town 51 (.getfield 64) 3 54 := ⟨by decide +kernel, rfl⟩
theorem dX11_town_54 : DD cX11_town 54 (.invokevirtual 68) 3 57 := ⟨by decide +kernel, rfl⟩
theorem dX11_town_57 : DD cX11_town 57 (.aload_n 0) 1 58 := ⟨by decide +kernel, rfl⟩
theorem dX11_town_58 : DD cX11_town 58 (.getfield 49) 3 61 := ⟨by decide +kernel, rfl⟩
theorem dX11_town_61 : DD cX11_town 61 (.invokevirtual 96) 3 64 := ⟨by decide +kernel, rfl⟩
theorem dX11_town_64 : DD cX11_town 64 (.aload_n 0) 1 65 := ⟨by decide +kernel, rfl⟩
theorem dX11_town_65 : DD cX11_town 65 (.iconst 0) 1 66 := ⟨by decide +kernel, rfl⟩
theorem dX11_town_66 : DD cX11_town 66 (.putfield 98) 3 69 := ⟨by decide +kernel, rfl⟩
theorem dX11_town_69 : DD cX11_town 69 (.aload_n 0) 1 70 := ⟨by decide +kernel, rfl⟩
theorem dX11_town_70 : DD cX11_town 70 (.iconst 0) 1 71 := ⟨by decide +kernel, rfl⟩
theorem dX11_town_71 : DD cX11_town 71 (.putfield 101) 3 74 := ⟨by decide +kernel, rfl⟩
theorem dX11_town_74 : DD cX11_town 74 (.aload_n 0) 1 75 := ⟨by decide +kernel, rfl⟩
theorem dX11_town_75 : DD cX11_town 75 (.getfield 28) 3 78 := ⟨by decide +kernel, rfl⟩
theorem dX11_town_78 : DD cX11_town 78 (.getfield 84) 3 81 := ⟨by decide +kernel, rfl⟩
theorem dX11_town_81 : DD cX11_town 81 (.getfield 104) 3 84 := ⟨by decide +kernel, rfl⟩
theorem dX11_town_84 : DD cX11_town 84 (.ireturn) 1 85 := ⟨by decide +kernel, rfl⟩
def fX11_town (m : Mem) : Option (Int32 × Mem) := (cI (fX7_readTown m) fun r1 m2 => (pt (sI m2 1 1 (0 : Int32)) fun m3 => (if r1 = 0 then (some ((-1 : Int32), m3)) else (cR (fX7_giveFor m3 (m3.2.2 26 1)) fun r5 m6 => (cV (fX9_settle m6 r5) fun m8 => (cV (fX0_forgetAll m8) fun m10 => (cV (fX5_forgetAll m10) fun m12 => (pt (sI m12 0 9 (0 : Int32)) fun m13 => (pt (sI m13 0 7 (0 : Int32)) fun m14 => (gPl (m14.2.2 26 1) (some ((m14.1 (m14.2.2 26 1) 0), m14))))))))))))
set_option maxHeartbeats 4000000 in
set_option maxRecDepth 100000 in
theorem kX11_town (l : Launch) (G : Gt) (hD : ∀ m, va_D (inA G nC) (wC G m)) (m : Mem) : ∀ a, fX11_town m = some a → Ct l G wC nC yX11_town cX11_town 2 (some .int) 103 [.ref (G.2.2 0)] m (cvI a) := by
  refine ct_of (own := RX11) (ls0 := [some (.ref (G.2.2 0)), none]) (by decide) rfl rfl rfl (Nat.le_of_ble_eq_true rfl) hD (fun X h => ?_) l
  unfold fX11_town
  refine j_aload_n h dX11_town_0 rfl ?_
  refine gC11_21 h dX11_town_1 ?_
  refine j_callVI (q0 := 4) (ci := 7) h [] (kX7_readTown _ G h.2.2.2.2.2.2.2.2.2.2 m) okX7_readTown inX7_readTown ml11_80 rfl rfl rfl rfl (by decide) (by decide) (Nat.le_of_ble_eq_true rfl) rfl dX11_town_4 (fun r1 m2 hr1 => ?_)
  refine j_istore_n h dX11_town_7 rfl rfl ?_
  refine j_aload_n h dX11_town_8 rfl ?_
  refine gC11_10 h dX11_town_9 ?_
  refine j_iconst (v := (0 : Int32)) h dX11_town_12 kiconst_0 ?_
  refine pC11_72 h dX11_town_13 (fun m3 hm3 => ?_)
  refine j_iload_n h dX11_town_16 rfl ?_
  refine j_if_ne (tgt := 22) h dX11_town_17 (by decide) (fun c4 => ?_) (fun c4 => ?_)
  · refine j_aload_n h dX11_town_22 rfl ?_
    refine gC11_28 h dX11_town_23 ?_
    refine j_aload_n h dX11_town_26 rfl ?_
    refine gC11_21 h dX11_town_27 ?_
    refine j_aload_n h dX11_town_30 rfl ?_
    refine gC11_28 h dX11_town_31 ?_
    refine gC11_84 h dX11_town_34 ?_
    refine j_callVR (q0 := 4) (ci := 7) h [.ref (G.2.2 (m3.2.2 26 1))] (kX7_giveFor _ G h.2.2.2.2.2.2.2.2.2.2 m3 (m3.2.2 26 1)) okX7_giveFor inX7_giveFor ml11_88 rfl rfl rfl rfl (by decide) (by decide) (Nat.le_of_ble_eq_true rfl) rfl dX11_town_37 (fun r5 m6 hr5 => ?_)
    refine j_callVV (q0 := 26) (ci := 9) h [.ref (G.2.2 r5)] (kX9_settle _ G h.2.2.2.2.2.2.2.2.2.2 m6 r5) okX9_settle inX9_settle ml11_92 rfl rfl rfl rfl (by decide) (by decide) (Nat.le_of_ble_eq_true rfl) rfl dX11_town_40 (fun m8 hm8 => ?_)
    refine j_aload_n h dX11_town_43 rfl ?_
    refine gC11_35 h dX11_town_44 ?_
    refine j_aload_n h dX11_town_47 rfl ?_
    refine gC11_28 h dX11_town_48 ?_
    refine gC11_64 h dX11_town_51 ?_
    refine j_callVV (q0 := 56) (ci := 0) h [.ref (G.2.2 27)] (kX0_forgetAll _ G h.2.2.2.2.2.2.2.2.2.2 m8) okX0_forgetAll inX0_forgetAll ml11_68 rfl rfl rfl rfl (by decide) (by decide) (Nat.le_of_ble_eq_true rfl) rfl dX11_town_54 (fun m10 hm10 => ?_)
    refine j_aload_n h dX11_town_57 rfl ?_
    refine gC11_49 h dX11_town_58 ?_
    refine j_callVV (q0 := 65) (ci := 5) h [] (kX5_forgetAll _ G h.2.2.2.2.2.2.2.2.2.2 m10) okX5_forgetAll inX5_forgetAll ml11_96 rfl rfl rfl rfl (by decide) (by decide) (Nat.le_of_ble_eq_true rfl) rfl dX11_town_61 (fun m12 hm12 => ?_)
    refine j_aload_n h dX11_town_64 rfl ?_
    refine j_iconst (v := (0 : Int32)) h dX11_town_65 kiconst_0 ?_
    refine pC11_98 h dX11_town_66 (fun m13 hm13 => ?_)
    refine j_aload_n h dX11_town_69 rfl ?_
    refine j_iconst (v := (0 : Int32)) h dX11_town_70 kiconst_0 ?_
    refine pC11_101 h dX11_town_71 (fun m14 hm14 => ?_)
    refine j_aload_n h dX11_town_74 rfl ?_
    refine gC11_28 h dX11_town_75 ?_
    refine gC11_84 h dX11_town_78 ?_
    refine j_gPl (fun hg15 => ?_)
    refine gC11_104 h hg15 dX11_town_81 ?_
    exact j_iret h rfl dX11_town_84
  · refine j_iconst (v := (-1 : Int32)) h dX11_town_20 kiconst_m1 ?_
    exact j_iret h rfl dX11_town_21
theorem dX11_fault_0 : DD cX11_fault 0 (.iload_n 1) 1 1 := ⟨by decide +kernel, rfl⟩
theorem dX11_fault_1 : DD cX11_fault 1 (.lookupswitch 43 #[(0, 27), (1, 35)]) 27 28 := ⟨by decide +kernel, rfl⟩
theorem dX11_fault_28 : DD cX11_fault 28 (.aload_n 0) 1 29 := ⟨by decide +kernel, rfl⟩
theorem dX11_fault_29 : DD cX11_fault 29 (.getfield 21) 3 32 := ⟨by decide +kernel, rfl⟩
theorem dX11_fault_32 : DD cX11_fault 32 (.getfield 107) 3 35 := ⟨by decide +kernel, rfl⟩
theorem dX11_fault_35 : DD cX11_fault 35 (.ireturn) 1 36 := ⟨by decide +kernel, rfl⟩
theorem dX11_fault_36 : DD cX11_fault 36 (.aload_n 0) 1 37 := ⟨by decide +kernel, rfl⟩
theorem dX11_fault_37 : DD cX11_fault 37 (.getfield 21) 3 40 := ⟨by decide +kernel, rfl⟩
theorem dX11_fault_40 : DD cX11_fault 40 (.getfield 110) 3 43 := ⟨by decide +kernel, rfl⟩
theorem dX11_fault_43 : DD cX11_fault 43 (.ireturn) 1 44 := ⟨by decide +kernel, rfl⟩
theorem dX11_fault_44 : DD cX11_fault 44 (.iconst (-1)) 1 45 := ⟨by decide +kernel, rfl⟩
theorem dX11_fault_45 : DD cX11_fault 45 (.ireturn) 1 46 := ⟨by decide +kernel, rfl⟩
def fX11_fault (m : Mem) (x1 : Int32) : Option Int32 := (if x1 = (0 : Int32) then (some (m.1 4 4)) else (if x1 = (1 : Int32) then (some (m.1 4 5)) else (some (-1 : Int32))))
set_option maxHeartbeats 4000000 in
set_option maxRecDepth 100000 in
theorem kX11_fault (l : Launch) (G : Gt) (hD : ∀ m, va_D (inA G nC) (wC G m)) (m : Mem) (x1 : Int32) : ∀ a, fX11_fault m x1 = some a → Ct l G wC nC yX11_fault cX11_fault 2 (some .int) 1 [.ref (G.2.2 0), .int x1] m ((cvP m) a) := by
  refine ct_of (own := RX11) (ls0 := [some (.ref (G.2.2 0)), some (.int x1)]) (by decide) rfl rfl rfl (Nat.le_of_ble_eq_true rfl) hD (fun X h => ?_) l
  unfold fX11_fault
  refine j_iload_n h dX11_fault_0 rfl ?_
  by_cases c1 : x1 = (0 : Int32)
  · rw [if_pos c1]
    refine j_lookup (off := 27) (tgt := 28) h dX11_fault_1 (by decide) (by rw [c1]; decide) (by decide) ?_
    refine j_aload_n h dX11_fault_28 rfl ?_
    refine gC11_21 h dX11_fault_29 ?_
    refine gC11_107 h dX11_fault_32 ?_
    exact j_iret h rfl dX11_fault_35
  · rw [if_neg c1]
    by_cases c2 : x1 = (1 : Int32)
    · rw [if_pos c2]
      refine j_lookup (off := 35) (tgt := 36) h dX11_fault_1 (by decide) (by rw [c2]; decide) (by decide) ?_
      refine j_aload_n h dX11_fault_36 rfl ?_
      refine gC11_21 h dX11_fault_37 ?_
      refine gC11_110 h dX11_fault_40 ?_
      exact j_iret h rfl dX11_fault_43
    · rw [if_neg c2]
      refine j_lookup (off := 43) (tgt := 44) h dX11_fault_1 (by decide) (by simp only []; rw [lv_osw (a := 0) c1 rfl, lv_osw (a := 1) c2 rfl]; rfl) (by decide) ?_
      refine j_iconst (v := (-1 : Int32)) h dX11_fault_44 kiconst_m1 ?_
      exact j_iret h rfl dX11_fault_45
theorem dX11_person_0 : DD cX11_person 0 (.aload_n 0) 1 1 := ⟨by decide +kernel, rfl⟩
theorem dX11_person_1 : DD cX11_person 1 (.getfield 28) 3 4 := ⟨by decide +kernel, rfl⟩
theorem dX11_person_4 : DD cX11_person 4 (.iload_n 1) 1 5 := ⟨by decide +kernel, rfl⟩
theorem dX11_person_5 : DD cX11_person 5 (.invokevirtual 113) 3 8 := ⟨by decide +kernel, rfl⟩
theorem dX11_person_8 : DD cX11_person 8 (.ifCond .ne 5) 3 11 := ⟨by decide +kernel, rfl⟩
theorem dX11_person_11 : DD cX11_person 11 (.iconst (-1)) 1 12 := ⟨by decide +kernel, rfl⟩
theorem dX11_person_12 : DD cX11_person 12 (.ireturn) 1 13 := ⟨by decide +kernel, rfl⟩
theorem dX11_person_13 : DD cX11_person 13 (.aload_n 0) 1 14 := ⟨by decide +kernel, rfl⟩
theorem dX11_person_14 : DD cX11_person 14 (.getfield 28) 3 17 := ⟨by decide +kernel, rfl⟩
theorem dX11_person_17 : DD cX11_person 17 (.getfield 64) 3 20 := ⟨by decide +kernel, rfl⟩
theorem dX11_person_20 : DD cX11_person 20 (.astore_n 3) 1 21 := ⟨by decide +kernel, rfl⟩
theorem dX11_person_21 : DD cX11_person 21 (.iload_n 2) 1 22 := ⟨by decide +kernel, rfl⟩
theorem dX11_person_22 : DD cX11_person 22 (.tableswitch 146 0 6 #[42, 55, 62, 79, 107, 114, 126]) 42 64 := ⟨by decide +kernel, rfl⟩
theorem dX11_person_64 : DD cX11_person 64 (.aload_n 0) 1 65 := ⟨by decide +kernel, rfl⟩
theorem dX11_person_65 : DD cX11_person 65 (.getfield 28) 3 68 := ⟨by decide +kernel, rfl⟩
theorem dX11_person_68 : DD cX11_person 68 (.getfield 84) 3 71 := ⟨by decide +kernel, rfl⟩
theorem dX11_person_71 : DD cX11_person 71 (.getfield 117) 3 74 := ⟨by decide +kernel, rfl⟩
theorem dX11_person_74 : DD cX11_person 74 (.iload_n 1) 1 75 := ⟨by decide +kernel, rfl⟩
theorem dX11_person_75 : DD cX11_person 75 (.iaload) 1 76 := ⟨by decide +kernel, rfl⟩
theorem dX11_person_76 : DD cX11_person 76 (.ireturn) 1 77 := ⟨by decide +kernel, rfl⟩
theorem dX11_person_77 : DD cX11_person 77 (.aload_n 3) 1 78 := ⟨by decide +kernel, rfl⟩
theorem dX11_person_78 : DD cX11_person 78 (.getfield 120) 3 81 := ⟨by decide +kernel, rfl⟩
theorem dX11_person_81 : DD cX11_person 81 (.iload_n 1) 1 82 := ⟨by decide +kernel, rfl⟩
theorem dX11_person_82 : DD cX11_person 82 (.iaload) 1 83 := ⟨by decide +kernel, rfl⟩
theorem dX11_person_83 : DD cX11_person 83 (.ireturn) 1 84 := ⟨by decide +kernel, rfl⟩
theorem dX11_person_84 : DD cX11_person 84 (.aload_n 0) 1 85 := ⟨by decide +kernel, rfl⟩
theorem dX11_person_85 : DD cX11_person 85 (.getfield 28) 3 88 := ⟨by decide +kernel, rfl⟩
theorem dX11_person_88 : DD cX11_person 88 (.iload_n 1) 1 89 := ⟨by decide +kernel, rfl⟩
theorem dX11_person_89 : DD cX11_person 89 (.invokevirtual 123) 3 92 := ⟨by decide +kernel, rfl⟩
theorem dX11_person_92 : DD cX11_person 92 (.ifCond .eq 7) 3 95 := ⟨by decide +kernel, rfl⟩
theorem dX11_person_95 : DD cX11_person 95 (.iconst 1) 1 96 := ⟨by decide +kernel, rfl⟩
theorem dX11_person_96 : DD cX11_person 96 (.goto 4) 3 99 := ⟨by decide +kernel, rfl⟩
theorem dX11_person_99 : DD cX11_person 99 (.iconst 0) 1 100 := ⟨by decide +kernel, rfl⟩
theorem dX11_person_100 : DD cX11_person 100 (.ireturn) 1 101 := ⟨by decide +kernel, rfl⟩
theorem dX11_person_101 : DD cX11_person 101 (.aload_n 0) 1 102 := ⟨by decide +kernel, rfl⟩
theorem dX11_person_102 : DD cX11_person 102 (.getfield 28) 3 105 := ⟨by decide +kernel, rfl⟩
theorem dX11_person_105 : DD cX11_person 105 (.iload_n 1) 1 106 := ⟨by decide +kernel, rfl⟩
theorem dX11_person_106 : DD cX11_person 106 (.aload_n 0) 1 107 := ⟨by decide +kernel, rfl⟩
theorem dX11_person_107 : DD cX11_person 107 (.getfield 28) 3 110 := ⟨by decide +kernel, rfl⟩
theorem dX11_person_110 : DD cX11_person 110 (.invokevirtual 126) 3 113 := ⟨by decide +kernel, rfl⟩
theorem dX11_person_113 : DD cX11_person 113 (.aload_n 3) 1 114 := ⟨by decide +kernel, rfl⟩
theorem dX11_person_114 : DD cX11_person 114 (.getfield 130) 3 117 := ⟨by decide +kernel, rfl⟩
theorem dX11_person_117 : DD cX11_person 117 (.invokevirtual 133) 3 120 := ⟨by decide +kernel, rfl⟩
theorem dX11_person_120 : DD cX11_person 120 (.ifCond .eq 7) 3 123 := ⟨by decide +kernel, rfl⟩
theorem dX11_person_123 : DD cX11_person 123 (.iconst 1) 1 124 := ⟨by decide +kernel, rfl⟩
theorem dX11_person_124 : DD cX11_person 124 (.goto 4) 3 127 := ⟨by decide +kernel, rfl⟩
theorem dX11_person_127 : DD cX11_person 127 (.iconst 0) 1 128 := ⟨by decide +kernel, rfl⟩
theorem dX11_person_128 : DD cX11_person 128 (.ireturn) 1 129 := ⟨by decide +kernel, rfl⟩
theorem dX11_person_129 : DD cX11_person 129 (.aload_n 3) 1 130 := ⟨by decide +kernel, rfl⟩
theorem dX11_person_130 : DD cX11_person 130 (.getfield 137) 3 133 := ⟨by decide +kernel, rfl⟩
theorem dX11_person_133 : DD cX11_person 133 (.iload_n 1) 1 134 := ⟨by decide +kernel, rfl⟩
theorem dX11_person_134 : DD cX11_person 134 (.iaload) 1 135 := ⟨by decide +kernel, rfl⟩
theorem dX11_person_135 : DD cX11_person 135 (.ireturn) 1 136 := ⟨by decide +kernel, rfl⟩
theorem dX11_person_136 : DD cX11_person 136 (.aload_n 0) 1 137 := ⟨by decide +kernel, rfl⟩
theorem dX11_person_137 : DD cX11_person 137 (.getfield 28) 3 140 := ⟨by decide +kernel, rfl⟩
theorem dX11_person_140 : DD cX11_person 140 (.getfield 84) 3 143 := ⟨by decide +kernel, rfl⟩
theorem dX11_person_143 : DD cX11_person 143 (.iload_n 1) 1 144 := ⟨by decide +kernel, rfl⟩
theorem dX11_person_144 : DD cX11_person 144 (.invokevirtual 140) 3 147 := ⟨by decide +kernel, rfl⟩
theorem dX11_person_147 : DD cX11_person 147 (.ireturn) 1 148 := ⟨by decide +kernel, rfl⟩
theorem dX11_person_148 : DD cX11_person 148 (.aload_n 0) 1 149 := ⟨by decide +kernel, rfl⟩
theorem dX11_person_149 : DD cX11_person 149 (.getfield 28) 3 152 := ⟨by decide +kernel, rfl⟩
theorem dX11_person_152 : DD cX11_person 152 (.iload_n 1) 1 153 := ⟨by decide +kernel, rfl⟩
theorem dX11_person_153 : DD cX11_person 153 (.aload_n 0) 1 154 := ⟨by decide +kernel, rfl⟩
theorem dX11_person_154 : DD cX11_person 154 (.getfield 28) 3 157 := ⟨by decide +kernel, rfl⟩
theorem dX11_person_157 : DD cX11_person 157 (.invokevirtual 126) 3 160 := ⟨by decide +kernel, rfl⟩
theorem dX11_person_160 : DD cX11_person 160 (.aload_n 3) 1 161 := ⟨by decide +kernel, rfl⟩
theorem dX11_person_161 : DD cX11_person 161 (.getfield 130) 3 164 := ⟨by decide +kernel, rfl⟩
theorem dX11_person_164 : DD cX11_person 164 (.invokevirtual 144) 3 167 := ⟨by decide +kernel, rfl⟩
theorem dX11_person_167 : DD cX11_person 167 (.ireturn) 1 168 := ⟨by decide +kernel, rfl⟩
theorem dX11_person_168 : DD cX11_person 168 (.iconst (-1)) 1 169 := ⟨by decide +kernel, rfl⟩
theorem dX11_person_169 : DD cX11_person 169 (.ireturn) 1 170 := ⟨by decide +kernel, rfl⟩
def fX11_person (m : Mem) (x1 : Int32) (x2 : Int32) : Option (Int32 × Mem) := (cP (fX9_hasPerson m x1) fun r1 => (if r1 = 0 then (some ((-1 : Int32), m)) else (if x2 = (0 : Int32) then (gPl (m.2.2 26 1) (rd (m.1 ((m.2.2 26 1) + 2)) 7 x1 fun v6 => (some (v6, m)))) else (if x2 = (1 : Int32) then (rd (m.1 28) 7 x1 fun v8 => (some (v8, m))) else (if x2 = (2 : Int32) then (cP (fX9_isQuiet m x1) fun r10 => (if r10 = 0 then (some ((0 : Int32), m)) else (some ((1 : Int32), m)))) else (if x2 = (3 : Int32) then (cR (fX9_today m) fun r14 m15 => (gEq r14 53 (cP (fX9_isAwake m15 x1 (m15.1 27 5)) fun r17 => (if r17 = 0 then (some ((0 : Int32), m15)) else (some ((1 : Int32), m15)))))) else (if x2 = (4 : Int32) then (rd (m.1 29) 7 x1 fun v21 => (some (v21, m))) else (if x2 = (5 : Int32) then (gPl (m.2.2 26 1) (cP (fX6_wakefulOf m (m.2.2 26 1) x1) fun r24 => (some (r24, m)))) else (if x2 = (6 : Int32) then (cR (fX9_today m) fun r27 m28 => (gEq r27 53 (cI (fX9_harmAt m28 x1 (m28.1 27 5)) fun r30 m31 => (some (r30, m31))))) else (some ((-1 : Int32), m)))))))))))
set_option maxHeartbeats 4000000 in
set_option maxRecDepth 100000 in
theorem kX11_person (l : Launch) (G : Gt) (hD : ∀ m, va_D (inA G nC) (wC G m)) (m : Mem) (x1 : Int32) (x2 : Int32) : ∀ a, fX11_person m x1 x2 = some a → Ct l G wC nC yX11_person cX11_person 4 (some .int) 6 [.ref (G.2.2 0), .int x1, .int x2] m (cvI a) := by
  refine ct_of (own := RX11) (ls0 := [some (.ref (G.2.2 0)), some (.int x1), some (.int x2), none]) (by decide) rfl rfl rfl (Nat.le_of_ble_eq_true rfl) hD (fun X h => ?_) l
  unfold fX11_person
  refine j_aload_n h dX11_person_0 rfl ?_
  refine gC11_28 h dX11_person_1 ?_
  refine j_iload_n h dX11_person_4 rfl ?_
  refine j_callVP (q0 := 26) (ci := 9) h [.int x1] (kX9_hasPerson _ G h.2.2.2.2.2.2.2.2.2.2 m x1) okX9_hasPerson inX9_hasPerson ml11_113 rfl rfl rfl rfl (by decide) (by decide) (Nat.le_of_ble_eq_true rfl) rfl dX11_person_5 (fun r1 hr1 => ?_)
  refine j_if_ne (tgt := 13) h dX11_person_8 (by decide) (fun c3 => ?_) (fun c3 => ?_)
  · refine j_aload_n h dX11_person_13 rfl ?_
    refine gC11_28 h dX11_person_14 ?_
    refine gC11_64 h dX11_person_17 ?_
    refine j_astore_n h dX11_person_20 rfl rfl ?_
    refine j_iload_n h dX11_person_21 rfl ?_
    by_cases c4 : x2 = (0 : Int32)
    · rw [if_pos c4]
      refine j_tabIn (off := 42) (tgt := 64) h c4 dX11_person_22 (by decide) (by decide) (by decide) (by decide) ?_
      refine j_aload_n h dX11_person_64 rfl ?_
      refine gC11_28 h dX11_person_65 ?_
      refine gC11_84 h dX11_person_68 ?_
      refine j_gPl (fun hg5 => ?_)
      refine gC11_117 h hg5 dX11_person_71 ?_
      refine j_iload_n h dX11_person_74 rfl ?_
      refine aC_Pl2 h hg5 dX11_person_75 (fun v6 hv6 => ?_)
      exact j_iret h rfl dX11_person_76
    · rw [if_neg c4]
      by_cases c7 : x2 = (1 : Int32)
      · rw [if_pos c7]
        refine j_tabIn (off := 55) (tgt := 77) h c7 dX11_person_22 (by decide) (by decide) (by decide) (by decide) ?_
        refine j_aload_n h dX11_person_77 rfl ?_
        refine gC11_120 h dX11_person_78 ?_
        refine j_iload_n h dX11_person_81 rfl ?_
        refine aC_28 h dX11_person_82 (fun v8 hv8 => ?_)
        exact j_iret h rfl dX11_person_83
      · rw [if_neg c7]
        by_cases c9 : x2 = (2 : Int32)
        · rw [if_pos c9]
          refine j_tabIn (off := 62) (tgt := 84) h c9 dX11_person_22 (by decide) (by decide) (by decide) (by decide) ?_
          refine j_aload_n h dX11_person_84 rfl ?_
          refine gC11_28 h dX11_person_85 ?_
          refine j_iload_n h dX11_person_88 rfl ?_
          refine j_callVP (q0 := 26) (ci := 9) h [.int x1] (kX9_isQuiet _ G h.2.2.2.2.2.2.2.2.2.2 m x1) okX9_isQuiet inX9_isQuiet ml11_123 rfl rfl rfl rfl (by decide) (by decide) (Nat.le_of_ble_eq_true rfl) rfl dX11_person_89 (fun r10 hr10 => ?_)
          refine j_if_eq (tgt := 99) h dX11_person_92 (by decide) (fun c12 => ?_) (fun c12 => ?_)
          · refine j_iconst (v := (0 : Int32)) h dX11_person_99 kiconst_0 ?_
            exact j_iret h rfl dX11_person_100
          · refine j_iconst (v := (1 : Int32)) h dX11_person_95 kiconst_1 ?_
            refine j_goto (tgt := 100) h dX11_person_96 (by decide) ?_
            exact j_iret h rfl dX11_person_100
        · rw [if_neg c9]
          by_cases c13 : x2 = (3 : Int32)
          · rw [if_pos c13]
            refine j_tabIn (off := 79) (tgt := 101) h c13 dX11_person_22 (by decide) (by decide) (by decide) (by decide) ?_
            refine j_aload_n h dX11_person_101 rfl ?_
            refine gC11_28 h dX11_person_102 ?_
            refine j_iload_n h dX11_person_105 rfl ?_
            refine j_aload_n h dX11_person_106 rfl ?_
            refine gC11_28 h dX11_person_107 ?_
            refine j_callVR (q0 := 26) (ci := 9) h [] (kX9_today _ G h.2.2.2.2.2.2.2.2.2.2 m) okX9_today inX9_today ml11_126 rfl rfl rfl rfl (by decide) (by decide) (Nat.le_of_ble_eq_true rfl) rfl dX11_person_110 (fun r14 m15 hr14 => ?_)
            refine j_gEq (fun hg16 => ?_)
            subst hg16
            refine j_aload_n h dX11_person_113 rfl ?_
            refine gC11_130 h dX11_person_114 ?_
            refine j_callVP (q0 := 26) (ci := 9) h [.int x1, .ref (G.2.2 53), .int (m15.1 27 5)] (kX9_isAwake _ G h.2.2.2.2.2.2.2.2.2.2 m15 x1 (m15.1 27 5)) okX9_isAwake inX9_isAwake ml11_133 rfl rfl rfl rfl (by decide) (by decide) (Nat.le_of_ble_eq_true rfl) rfl dX11_person_117 (fun r17 hr17 => ?_)
            refine j_if_eq (tgt := 127) h dX11_person_120 (by decide) (fun c19 => ?_) (fun c19 => ?_)
            · refine j_iconst (v := (0 : Int32)) h dX11_person_127 kiconst_0 ?_
              exact j_iret h rfl dX11_person_128
            · refine j_iconst (v := (1 : Int32)) h dX11_person_123 kiconst_1 ?_
              refine j_goto (tgt := 128) h dX11_person_124 (by decide) ?_
              exact j_iret h rfl dX11_person_128
          · rw [if_neg c13]
            by_cases c20 : x2 = (4 : Int32)
            · rw [if_pos c20]
              refine j_tabIn (off := 107) (tgt := 129) h c20 dX11_person_22 (by decide) (by decide) (by decide) (by decide) ?_
              refine j_aload_n h dX11_person_129 rfl ?_
              refine gC11_137 h dX11_person_130 ?_
              refine j_iload_n h dX11_person_133 rfl ?_
              refine aC_29 h dX11_person_134 (fun v21 hv21 => ?_)
              exact j_iret h rfl dX11_person_135
            · rw [if_neg c20]
              by_cases c22 : x2 = (5 : Int32)
              · rw [if_pos c22]
                refine j_tabIn (off := 114) (tgt := 136) h c22 dX11_person_22 (by decide) (by decide) (by decide) (by decide) ?_
                refine j_aload_n h dX11_person_136 rfl ?_
                refine gC11_28 h dX11_person_137 ?_
                refine gC11_84 h dX11_person_140 ?_
                refine j_iload_n h dX11_person_143 rfl ?_
                refine j_gPl (fun hg23 => ?_)
                refine j_callVP (q0 := (m.2.2 26 1)) (ci := 6) h [.int x1] (kX6_wakefulOf _ G h.2.2.2.2.2.2.2.2.2.2 m (m.2.2 26 1) x1) okX6_wakefulOf inX6_wakefulOf ml11_140 rfl (at_Pl hg23) rfl rfl (by decide) (by decide) (Nat.le_of_ble_eq_true rfl) rfl dX11_person_144 (fun r24 hr24 => ?_)
                exact j_iret h rfl dX11_person_147
              · rw [if_neg c22]
                by_cases c26 : x2 = (6 : Int32)
                · rw [if_pos c26]
                  refine j_tabIn (off := 126) (tgt := 148) h c26 dX11_person_22 (by decide) (by decide) (by decide) (by decide) ?_
                  refine j_aload_n h dX11_person_148 rfl ?_
                  refine gC11_28 h dX11_person_149 ?_
                  refine j_iload_n h dX11_person_152 rfl ?_
                  refine j_aload_n h dX11_person_153 rfl ?_
                  refine gC11_28 h dX11_person_154 ?_
                  refine j_callVR (q0 := 26) (ci := 9) h [] (kX9_today _ G h.2.2.2.2.2.2.2.2.2.2 m) okX9_today inX9_today ml11_126 rfl rfl rfl rfl (by decide) (by decide) (Nat.le_of_ble_eq_true rfl) rfl dX11_person_157 (fun r27 m28 hr27 => ?_)
                  refine j_gEq (fun hg29 => ?_)
                  subst hg29
                  refine j_aload_n h dX11_person_160 rfl ?_
                  refine gC11_130 h dX11_person_161 ?_
                  refine j_callVI (q0 := 26) (ci := 9) h [.int x1, .ref (G.2.2 53), .int (m28.1 27 5)] (kX9_harmAt _ G h.2.2.2.2.2.2.2.2.2.2 m28 x1 (m28.1 27 5)) okX9_harmAt inX9_harmAt ml11_144 rfl rfl rfl rfl (by decide) (by decide) (Nat.le_of_ble_eq_true rfl) rfl dX11_person_164 (fun r30 m31 hr30 => ?_)
                  exact j_iret h rfl dX11_person_167
                · rw [if_neg c26]
                  refine j_tabOut (tgt := 168) h [(0 : Int32), (1 : Int32), (2 : Int32), (3 : Int32), (4 : Int32), (5 : Int32), (6 : Int32)] dX11_person_22 (by intro v hv; simp only [List.mem_cons, List.not_mem_nil, or_false] at hv; rcases hv with rfl | rfl | rfl | rfl | rfl | rfl | rfl <;> assumption) (by decide) (by decide) (by decide) ?_
                  refine j_iconst (v := (-1 : Int32)) h dX11_person_168 kiconst_m1 ?_
                  exact j_iret h rfl dX11_person_169
  · refine j_iconst (v := (-1 : Int32)) h dX11_person_11 kiconst_m1 ?_
    exact j_iret h rfl dX11_person_12
theorem dX11_meet_0 : DD cX11_meet 0 (.aload_n 0) 1 1 := ⟨by decide +kernel, rfl⟩
theorem dX11_meet_1 : DD cX11_meet 1 (.getfield 28) 3 4 := ⟨by decide +kernel, rfl⟩
theorem dX11_meet_4 : DD cX11_meet 4 (.iload_n 1) 1 5 := ⟨by decide +kernel, rfl⟩
theorem dX11_meet_5 : DD cX11_meet 5 (.invokevirtual 148) 3 8 := ⟨by decide +kernel, rfl⟩
theorem dX11_meet_8 : DD cX11_meet 8 (.ifCond .ne 5) 3 11 := ⟨by decide +kernel, rfl⟩
theorem dX11_meet_11 : DD cX11_meet 11 (.iconst (-1)) 1 12 := ⟨by decide +kernel, rfl⟩
theorem dX11_meet_12 : DD cX11_meet 12 (.ireturn) 1 13 := ⟨by decide +kernel, rfl⟩
theorem dX11_meet_13 : DD cX11_meet 13 (.iload_n 2) 1 14 := ⟨by decide +kernel, rfl⟩
theorem dX11_meet_14 : DD cX11_meet 14 (.tableswitch 144 0 6 #[42, 55, 68, 81, 94, 107, 120]) 42 56 := ⟨by decide +kernel, rfl⟩
theorem dX11_meet_56 : DD cX11_meet 56 (.aload_n 0) 1 57 := ⟨by decide +kernel, rfl⟩
theorem dX11_meet_57 : DD cX11_meet 57 (.getfield 28) 3 60 := ⟨by decide +kernel, rfl⟩
theorem dX11_meet_60 : DD cX11_meet 60 (.getfield 84) 3 63 := ⟨by decide +kernel, rfl⟩
theorem dX11_meet_63 : DD cX11_meet 63 (.getfield 151) 3 66 := ⟨by decide +kernel, rfl⟩
theorem dX11_meet_66 : DD cX11_meet 66 (.iload_n 1) 1 67 := ⟨by decide +kernel, rfl⟩
theorem dX11_meet_67 : DD cX11_meet 67 (.iaload) 1 68 := ⟨by decide +kernel, rfl⟩
theorem dX11_meet_68 : DD cX11_meet 68 (.ireturn) 1 69 := ⟨by decide +kernel, rfl⟩
theorem dX11_meet_69 : DD cX11_meet 69 (.aload_n 0) 1 70 := ⟨by decide +kernel, rfl⟩
theorem dX11_meet_70 : DD cX11_meet 70 (.getfield 28) 3 73 := ⟨by decide +kernel, rfl⟩
theorem dX11_meet_73 : DD cX11_meet 73 (.getfield 84) 3 76 := ⟨by decide +kernel, rfl⟩
theorem dX11_meet_76 : DD cX11_meet 76 (.getfield 154) 3 79 := ⟨by decide +kernel, rfl⟩
theorem dX11_meet_79 : DD cX11_meet 79 (.iload_n 1) 1 80 := ⟨by decide +kernel, rfl⟩
theorem dX11_meet_80 : DD cX11_meet 80 (.iaload) 1 81 := ⟨by decide +kernel, rfl⟩
theorem dX11_meet_81 : DD cX11_meet 81 (.ireturn) 1 82 := ⟨by decide +kernel, rfl⟩
theorem dX11_meet_82 : DD cX11_meet 82 (.aload_n 0) 1 83 := ⟨by decide +kernel, rfl⟩
theorem dX11_meet_83 : DD cX11_meet 83 (.getfield 28) 3 86 := ⟨by decide +kernel, rfl⟩
theorem dX11_meet_86 : DD cX11_meet 86 (.getfield 84) 3 89 := ⟨by decide +kernel, rfl⟩
theorem dX11_meet_89 : DD cX11_meet 89 (.getfield 157) 3 92 := ⟨by decide +kernel, rfl⟩
theorem dX11_meet_92 : DD cX11_meet 92 (.iload_n 1) 1 93 := ⟨by decide +kernel, rfl⟩
theorem dX11_meet_93 : DD cX11_meet 93 (.iaload) 1 94 := ⟨by decide +kernel, rfl⟩
theorem dX11_meet_94 : DD cX11_meet 94 (.ireturn) 1 95 := ⟨by decide +kernel, rfl⟩
theorem dX11_meet_95 : DD cX11_meet 95 (.aload_n 0) 1 96 := ⟨by decide +kernel, rfl⟩
theorem dX11_meet_96 : DD cX11_meet 96 (.getfield 28) 3 99 := ⟨by decide +kernel, rfl⟩
theorem dX11_meet_99 : DD cX11_meet 99 (.getfield 84) 3 102 := ⟨by decide +kernel, rfl⟩
theorem dX11_meet_102 : DD cX11_meet 102 (.getfield 160) 3 105 := ⟨by decide +kernel, rfl⟩
theorem dX11_meet_105 : DD cX11_meet 105 (.iload_n 1) 1 106 := ⟨by decide +kernel, rfl⟩
theorem dX11_meet_106 : DD cX11_meet 106 (.iaload) 1 107 := ⟨by decide +kernel, rfl⟩
theorem dX11_meet_107 : DD cX11_meet 107 (.ireturn) 1 108 := ⟨by decide +kernel, rfl⟩
theorem dX11_meet_108 : DD cX11_meet 108 (.aload_n 0) 1 109 := ⟨by decide +kernel, rfl⟩
theorem dX11_meet_109 : DD cX11_meet 109 (.getfield 28) 3 112 := ⟨by decide +kernel, rfl⟩
theorem dX11_meet_112 : DD cX11_meet 112 (.getfield 64) 3 115 := ⟨by decide +kernel, rfl⟩
theorem dX11_meet_115 : DD cX11_meet 115 (.getfield 163) 3 118 := ⟨by decide +kernel, rfl⟩
theorem dX11_meet_118 : DD cX11_meet 118 (.iload_n 1) 1 119 := ⟨by decide +kernel, rfl⟩
theorem dX11_meet_119 : DD cX11_meet 119 (.iaload) 1 120 := ⟨by decide +kernel, rfl⟩
theorem dX11_meet_120 : DD cX11_meet 120 (.ireturn) 1 121 := ⟨by decide +kernel, rfl⟩
theorem dX11_meet_121 : DD cX11_meet 121 (.aload_n 0) 1 122 := ⟨by decide +kernel, rfl⟩
theorem dX11_meet_122 : DD cX11_meet 122 (.getfield 28) 3 125 := ⟨by decide +kernel, rfl⟩
theorem dX11_meet_125 : DD cX11_meet 125 (.getfield 64) 3 128 := ⟨by decide +kernel, rfl⟩
theorem dX11_meet_128 : DD cX11_meet 128 (.getfield 166) 3 131 := ⟨by decide +kernel, rfl⟩
theorem dX11_meet_131 : DD cX11_meet 131 (.iload_n 1) 1 132 := ⟨by decide +kernel, rfl⟩
theorem dX11_meet_132 : DD cX11_meet 132 (.iaload) 1 133 := ⟨by decide +kernel, rfl⟩
theorem dX11_meet_133 : DD cX11_meet 133 (.ireturn) 1 134 := ⟨by decide +kernel, rfl⟩
theorem dX11_meet_134 : DD cX11_meet 134 (.aload_n 0) 1 135 := ⟨by decide +kernel, rfl⟩
theorem dX11_meet_135 : DD cX11_meet 135 (.getfield 28) 3 138 := ⟨by decide +kernel, rfl⟩
theorem dX11_meet_138 : DD cX11_meet 138 (.iload_n 1) 1 139 := ⟨by decide +kernel, rfl⟩
theorem dX11_meet_139 : DD cX11_meet 139 (.aload_n 0) 1 140 := ⟨by decide +kernel, rfl⟩
theorem dX11_meet_140 : DD cX11_meet 140 (.getfield 28) 3 143 := ⟨by decide +kernel, rfl⟩
theorem dX11_meet_143 : DD cX11_meet 143 (.invokevirtual 126) 3 146 := ⟨by decide +kernel, rfl⟩
theorem dX11_meet_146 : DD cX11_meet 146 (.invokevirtual 169) 3 149 := ⟨by decide +kernel, rfl⟩
theorem dX11_meet_149 : DD cX11_meet 149 (.ifCond .eq 7) 3 152 := ⟨by decide +kernel, rfl⟩
theorem dX11_meet_152 : DD cX11_meet 152 (.iconst 1) 1 153 := ⟨by decide +kernel, rfl⟩
theorem dX11_meet_153 : DD cX11_meet 153 (.goto 4) 3 156 := ⟨by decide +kernel, rfl⟩
theorem dX11_meet_156 : DD cX11_meet 156 (.iconst 0) 1 157 := ⟨by decide +kernel, rfl⟩
theorem dX11_meet_157 : DD cX11_meet 157 (.ireturn) 1 158 := ⟨by decide +kernel, rfl⟩
theorem dX11_meet_158 : DD cX11_meet 158 (.iconst (-1)) 1 159 := ⟨by decide +kernel, rfl⟩
theorem dX11_meet_159 : DD cX11_meet 159 (.ireturn) 1 160 := ⟨by decide +kernel, rfl⟩
def fX11_meet (m : Mem) (x1 : Int32) (x2 : Int32) : Option (Int32 × Mem) := (cP (fX9_hasMeet m x1) fun r1 => (if r1 = 0 then (some ((-1 : Int32), m)) else (if x2 = (0 : Int32) then (gPl (m.2.2 26 1) (rd (m.1 ((m.2.2 26 1) + 5)) 10 x1 fun v6 => (some (v6, m)))) else (if x2 = (1 : Int32) then (gPl (m.2.2 26 1) (rd (m.1 ((m.2.2 26 1) + 6)) 10 x1 fun v9 => (some (v9, m)))) else (if x2 = (2 : Int32) then (gPl (m.2.2 26 1) (rd (m.1 ((m.2.2 26 1) + 7)) 10 x1 fun v12 => (some (v12, m)))) else (if x2 = (3 : Int32) then (gPl (m.2.2 26 1) (rd (m.1 ((m.2.2 26 1) + 8)) 10 x1 fun v15 => (some (v15, m)))) else (if x2 = (4 : Int32) then (rd (m.1 30) 10 x1 fun v17 => (some (v17, m))) else (if x2 = (5 : Int32) then (rd (m.1 31) 10 x1 fun v19 => (some (v19, m))) else (if x2 = (6 : Int32) then (cR (fX9_today m) fun r21 m22 => (gEq r21 53 (cP (fX9_canMeet m22 x1) fun r24 => (if r24 = 0 then (some ((0 : Int32), m22)) else (some ((1 : Int32), m22)))))) else (some ((-1 : Int32), m)))))))))))
set_option maxHeartbeats 4000000 in
set_option maxRecDepth 100000 in
theorem kX11_meet (l : Launch) (G : Gt) (hD : ∀ m, va_D (inA G nC) (wC G m)) (m : Mem) (x1 : Int32) (x2 : Int32) : ∀ a, fX11_meet m x1 x2 = some a → Ct l G wC nC yX11_meet cX11_meet 3 (some .int) 6 [.ref (G.2.2 0), .int x1, .int x2] m (cvI a) := by
  refine ct_of (own := RX11) (ls0 := [some (.ref (G.2.2 0)), some (.int x1), some (.int x2)]) (by decide) rfl rfl rfl (Nat.le_of_ble_eq_true rfl) hD (fun X h => ?_) l
  unfold fX11_meet
  refine j_aload_n h dX11_meet_0 rfl ?_
  refine gC11_28 h dX11_meet_1 ?_
  refine j_iload_n h dX11_meet_4 rfl ?_
  refine j_callVP (q0 := 26) (ci := 9) h [.int x1] (kX9_hasMeet _ G h.2.2.2.2.2.2.2.2.2.2 m x1) okX9_hasMeet inX9_hasMeet ml11_148 rfl rfl rfl rfl (by decide) (by decide) (Nat.le_of_ble_eq_true rfl) rfl dX11_meet_5 (fun r1 hr1 => ?_)
  refine j_if_ne (tgt := 13) h dX11_meet_8 (by decide) (fun c3 => ?_) (fun c3 => ?_)
  · refine j_iload_n h dX11_meet_13 rfl ?_
    by_cases c4 : x2 = (0 : Int32)
    · rw [if_pos c4]
      refine j_tabIn (off := 42) (tgt := 56) h c4 dX11_meet_14 (by decide) (by decide) (by decide) (by decide) ?_
      refine j_aload_n h dX11_meet_56 rfl ?_
      refine gC11_28 h dX11_meet_57 ?_
      refine gC11_84 h dX11_meet_60 ?_
      refine j_gPl (fun hg5 => ?_)
      refine gC11_151 h hg5 dX11_meet_63 ?_
      refine j_iload_n h dX11_meet_66 rfl ?_
      refine aC_Pl5 h hg5 dX11_meet_67 (fun v6 hv6 => ?_)
      exact j_iret h rfl dX11_meet_68
    · rw [if_neg c4]
      by_cases c7 : x2 = (1 : Int32)
      · rw [if_pos c7]
        refine j_tabIn (off := 55) (tgt := 69) h c7 dX11_meet_14 (by decide) (by decide) (by decide) (by decide) ?_
        refine j_aload_n h dX11_meet_69 rfl ?_
        refine gC11_28 h dX11_meet_70 ?_
        refine gC11_84 h dX11_meet_73 ?_
        refine j_gPl (fun hg8 => ?_)
        refine gC11_154 h hg8 dX11_meet_76 ?_
        refine j_iload_n h dX11_meet_79 rfl ?_
        refine aC_Pl6 h hg8 dX11_meet_80 (fun v9 hv9 => ?_)
        exact j_iret h rfl dX11_meet_81
      · rw [if_neg c7]
        by_cases c10 : x2 = (2 : Int32)
        · rw [if_pos c10]
          refine j_tabIn (off := 68) (tgt := 82) h c10 dX11_meet_14 (by decide) (by decide) (by decide) (by decide) ?_
          refine j_aload_n h dX11_meet_82 rfl ?_
          refine gC11_28 h dX11_meet_83 ?_
          refine gC11_84 h dX11_meet_86 ?_
          refine j_gPl (fun hg11 => ?_)
          refine gC11_157 h hg11 dX11_meet_89 ?_
          refine j_iload_n h dX11_meet_92 rfl ?_
          refine aC_Pl7 h hg11 dX11_meet_93 (fun v12 hv12 => ?_)
          exact j_iret h rfl dX11_meet_94
        · rw [if_neg c10]
          by_cases c13 : x2 = (3 : Int32)
          · rw [if_pos c13]
            refine j_tabIn (off := 81) (tgt := 95) h c13 dX11_meet_14 (by decide) (by decide) (by decide) (by decide) ?_
            refine j_aload_n h dX11_meet_95 rfl ?_
            refine gC11_28 h dX11_meet_96 ?_
            refine gC11_84 h dX11_meet_99 ?_
            refine j_gPl (fun hg14 => ?_)
            refine gC11_160 h hg14 dX11_meet_102 ?_
            refine j_iload_n h dX11_meet_105 rfl ?_
            refine aC_Pl8 h hg14 dX11_meet_106 (fun v15 hv15 => ?_)
            exact j_iret h rfl dX11_meet_107
          · rw [if_neg c13]
            by_cases c16 : x2 = (4 : Int32)
            · rw [if_pos c16]
              refine j_tabIn (off := 94) (tgt := 108) h c16 dX11_meet_14 (by decide) (by decide) (by decide) (by decide) ?_
              refine j_aload_n h dX11_meet_108 rfl ?_
              refine gC11_28 h dX11_meet_109 ?_
              refine gC11_64 h dX11_meet_112 ?_
              refine gC11_163 h dX11_meet_115 ?_
              refine j_iload_n h dX11_meet_118 rfl ?_
              refine aC_30 h dX11_meet_119 (fun v17 hv17 => ?_)
              exact j_iret h rfl dX11_meet_120
            · rw [if_neg c16]
              by_cases c18 : x2 = (5 : Int32)
              · rw [if_pos c18]
                refine j_tabIn (off := 107) (tgt := 121) h c18 dX11_meet_14 (by decide) (by decide) (by decide) (by decide) ?_
                refine j_aload_n h dX11_meet_121 rfl ?_
                refine gC11_28 h dX11_meet_122 ?_
                refine gC11_64 h dX11_meet_125 ?_
                refine gC11_166 h dX11_meet_128 ?_
                refine j_iload_n h dX11_meet_131 rfl ?_
                refine aC_31 h dX11_meet_132 (fun v19 hv19 => ?_)
                exact j_iret h rfl dX11_meet_133
              · rw [if_neg c18]
                by_cases c20 : x2 = (6 : Int32)
                · rw [if_pos c20]
                  refine j_tabIn (off := 120) (tgt := 134) h c20 dX11_meet_14 (by decide) (by decide) (by decide) (by decide) ?_
                  refine j_aload_n h dX11_meet_134 rfl ?_
                  refine gC11_28 h dX11_meet_135 ?_
                  refine j_iload_n h dX11_meet_138 rfl ?_
                  refine j_aload_n h dX11_meet_139 rfl ?_
                  refine gC11_28 h dX11_meet_140 ?_
                  refine j_callVR (q0 := 26) (ci := 9) h [] (kX9_today _ G h.2.2.2.2.2.2.2.2.2.2 m) okX9_today inX9_today ml11_126 rfl rfl rfl rfl (by decide) (by decide) (Nat.le_of_ble_eq_true rfl) rfl dX11_meet_143 (fun r21 m22 hr21 => ?_)
                  refine j_gEq (fun hg23 => ?_)
                  subst hg23
                  refine j_callVP (q0 := 26) (ci := 9) h [.int x1, .ref (G.2.2 53)] (kX9_canMeet _ G h.2.2.2.2.2.2.2.2.2.2 m22 x1) okX9_canMeet inX9_canMeet ml11_169 rfl rfl rfl rfl (by decide) (by decide) (Nat.le_of_ble_eq_true rfl) rfl dX11_meet_146 (fun r24 hr24 => ?_)
                  refine j_if_eq (tgt := 156) h dX11_meet_149 (by decide) (fun c26 => ?_) (fun c26 => ?_)
                  · refine j_iconst (v := (0 : Int32)) h dX11_meet_156 kiconst_0 ?_
                    exact j_iret h rfl dX11_meet_157
                  · refine j_iconst (v := (1 : Int32)) h dX11_meet_152 kiconst_1 ?_
                    refine j_goto (tgt := 157) h dX11_meet_153 (by decide) ?_
                    exact j_iret h rfl dX11_meet_157
                · rw [if_neg c20]
                  refine j_tabOut (tgt := 158) h [(0 : Int32), (1 : Int32), (2 : Int32), (3 : Int32), (4 : Int32), (5 : Int32), (6 : Int32)] dX11_meet_14 (by intro v hv; simp only [List.mem_cons, List.not_mem_nil, or_false] at hv; rcases hv with rfl | rfl | rfl | rfl | rfl | rfl | rfl <;> assumption) (by decide) (by decide) (by decide) ?_
                  refine j_iconst (v := (-1 : Int32)) h dX11_meet_158 kiconst_m1 ?_
                  exact j_iret h rfl dX11_meet_159
  · refine j_iconst (v := (-1 : Int32)) h dX11_meet_11 kiconst_m1 ?_
    exact j_iret h rfl dX11_meet_12
theorem dX11_isDate_0 : DD cX11_isDate 0 (.iload_n 0) 1 1 := ⟨by decide +kernel, rfl⟩
theorem dX11_isDate_1 : DD cX11_isDate 1 (.ifCond .lt 14) 3 4 := ⟨by decide +kernel, rfl⟩
theorem dX11_isDate_4 : DD cX11_isDate 4 (.iload_n 0) 1 5 := ⟨by decide +kernel, rfl⟩
theorem dX11_isDate_5 : DD cX11_isDate 5 (.sipush 365) 3 8 := ⟨by decide +kernel, rfl⟩
theorem dX11_isDate_8 : DD cX11_isDate 8 (.if_icmp .ge 7) 3 11 := ⟨by decide +kernel, rfl⟩
theorem dX11_isDate_11 : DD cX11_isDate 11 (.iconst 1) 1 12 := ⟨by decide +kernel, rfl⟩
theorem dX11_isDate_12 : DD cX11_isDate 12 (.goto 4) 3 15 := ⟨by decide +kernel, rfl⟩
theorem dX11_isDate_15 : DD cX11_isDate 15 (.iconst 0) 1 16 := ⟨by decide +kernel, rfl⟩
theorem dX11_isDate_16 : DD cX11_isDate 16 (.ireturn) 1 17 := ⟨by decide +kernel, rfl⟩
def fX11_isDate (x0 : Int32) : Option Int32 := (if x0 < 0 then (some (0 : Int32)) else (if (365 : Int32) ≤ x0 then (some (0 : Int32)) else (some (1 : Int32))))
set_option maxHeartbeats 4000000 in
set_option maxRecDepth 100000 in
theorem kX11_isDate (l : Launch) (G : Gt) (hD : ∀ m, va_D (inA G nC) (wC G m)) (m : Mem) (x0 : Int32) : ∀ a, fX11_isDate x0 = some a → Ct l G wC nC yX11_isDate cX11_isDate 1 (some .boolean) 1 [.int x0] m ((cvP m) a) := by
  refine ct_of (own := RX11) (ls0 := [some (.int x0)]) (by decide) rfl rfl rfl (Nat.le_of_ble_eq_true rfl) hD (fun X h => ?_) l
  unfold fX11_isDate
  refine j_iload_n h dX11_isDate_0 rfl ?_
  refine j_if_lt (tgt := 15) h dX11_isDate_1 (by decide) (fun c1 => ?_) (fun c1 => ?_)
  · refine j_iconst (v := (0 : Int32)) h dX11_isDate_15 kiconst_0 ?_
    exact j_zretB h rfl rfl dX11_isDate_16
  · refine j_iload_n h dX11_isDate_4 rfl ?_
    refine j_sipush (v := (365 : Int32)) h dX11_isDate_5 ksipush_365 ?_
    refine j_icmp_ge (tgt := 15) h dX11_isDate_8 (by decide) (fun c2 => ?_) (fun c2 => ?_)
    · refine j_iconst (v := (0 : Int32)) h dX11_isDate_15 kiconst_0 ?_
      exact j_zretB h rfl rfl dX11_isDate_16
    · refine j_iconst (v := (1 : Int32)) h dX11_isDate_11 kiconst_1 ?_
      refine j_goto (tgt := 16) h dX11_isDate_12 (by decide) ?_
      exact j_zretB h rfl rfl dX11_isDate_16
theorem dX11_light_0 : DD cX11_light 0 (.iload_n 1) 1 1 := ⟨by decide +kernel, rfl⟩
theorem dX11_light_1 : DD cX11_light 1 (.invokestatic 173) 3 4 := ⟨by decide +kernel, rfl⟩
theorem dX11_light_4 : DD cX11_light 4 (.ifCond .ne 5) 3 7 := ⟨by decide +kernel, rfl⟩
theorem dX11_light_7 : DD cX11_light 7 (.iconst (-1)) 1 8 := ⟨by decide +kernel, rfl⟩
theorem dX11_light_8 : DD cX11_light 8 (.ireturn) 1 9 := ⟨by decide +kernel, rfl⟩
theorem dX11_light_9 : DD cX11_light 9 (.iload_n 2) 1 10 := ⟨by decide +kernel, rfl⟩
theorem dX11_light_10 : DD cX11_light 10 (.lookupswitch 50 #[(0, 26), (1, 38)]) 26 36 := ⟨by decide +kernel, rfl⟩
theorem dX11_light_36 : DD cX11_light 36 (.aload_n 0) 1 37 := ⟨by decide +kernel, rfl⟩
theorem dX11_light_37 : DD cX11_light 37 (.getfield 28) 3 40 := ⟨by decide +kernel, rfl⟩
theorem dX11_light_40 : DD cX11_light 40 (.iload_n 1) 1 41 := ⟨by decide +kernel, rfl⟩
theorem dX11_light_41 : DD cX11_light 41 (.invokevirtual 176) 3 44 := ⟨by decide +kernel, rfl⟩
theorem dX11_light_44 : DD cX11_light 44 (.getfield 180) 3 47 := ⟨by decide +kernel, rfl⟩
theorem dX11_light_47 : DD cX11_light 47 (.ireturn) 1 48 := ⟨by decide +kernel, rfl⟩
theorem dX11_light_48 : DD cX11_light 48 (.aload_n 0) 1 49 := ⟨by decide +kernel, rfl⟩
theorem dX11_light_49 : DD cX11_light 49 (.getfield 28) 3 52 := ⟨by decide +kernel, rfl⟩
theorem dX11_light_52 : DD cX11_light 52 (.iload_n 1) 1 53 := ⟨by decide +kernel, rfl⟩
theorem dX11_light_53 : DD cX11_light 53 (.invokevirtual 176) 3 56 := ⟨by decide +kernel, rfl⟩
theorem dX11_light_56 : DD cX11_light 56 (.getfield 185) 3 59 := ⟨by decide +kernel, rfl⟩
theorem dX11_light_59 : DD cX11_light 59 (.ireturn) 1 60 := ⟨by decide +kernel, rfl⟩
theorem dX11_light_60 : DD cX11_light 60 (.iconst (-1)) 1 61 := ⟨by decide +kernel, rfl⟩
theorem dX11_light_61 : DD cX11_light 61 (.ireturn) 1 62 := ⟨by decide +kernel, rfl⟩
def fX11_light (m : Mem) (x1 : Int32) (x2 : Int32) : Option (Int32 × Mem) := (cP (fX11_isDate x1) fun r1 => (if r1 = 0 then (some ((-1 : Int32), m)) else (if x2 = (0 : Int32) then (cR (fX9_dayOf m x1) fun r5 m6 => (gEq r5 53 (some ((m6.1 53 1), m6)))) else (if x2 = (1 : Int32) then (cR (fX9_dayOf m x1) fun r9 m10 => (gEq r9 53 (some ((m10.1 53 2), m10)))) else (some ((-1 : Int32), m))))))
set_option maxHeartbeats 4000000 in
set_option maxRecDepth 100000 in
theorem kX11_light (l : Launch) (G : Gt) (hD : ∀ m, va_D (inA G nC) (wC G m)) (m : Mem) (x1 : Int32) (x2 : Int32) : ∀ a, fX11_light m x1 x2 = some a → Ct l G wC nC yX11_light cX11_light 3 (some .int) 5 [.ref (G.2.2 0), .int x1, .int x2] m (cvI a) := by
  refine ct_of (own := RX11) (ls0 := [some (.ref (G.2.2 0)), some (.int x1), some (.int x2)]) (by decide) rfl rfl rfl (Nat.le_of_ble_eq_true rfl) hD (fun X h => ?_) l
  unfold fX11_light
  refine j_iload_n h dX11_light_0 rfl ?_
  refine j_callSP h [.int x1] (kX11_isDate _ G h.2.2.2.2.2.2.2.2.2.2 m x1) okX11_isDate stX11_isDate ml11_173 rfl rfl (by decide) (by decide) (Nat.le_of_ble_eq_true rfl) rfl dX11_light_1 (fun r1 hr1 => ?_)
  refine j_if_ne (tgt := 9) h dX11_light_4 (by decide) (fun c3 => ?_) (fun c3 => ?_)
  · refine j_iload_n h dX11_light_9 rfl ?_
    by_cases c4 : x2 = (0 : Int32)
    · rw [if_pos c4]
      refine j_lookup (off := 26) (tgt := 36) h dX11_light_10 (by decide) (by rw [c4]; decide) (by decide) ?_
      refine j_aload_n h dX11_light_36 rfl ?_
      refine gC11_28 h dX11_light_37 ?_
      refine j_iload_n h dX11_light_40 rfl ?_
      refine j_callVR (q0 := 26) (ci := 9) h [.int x1] (kX9_dayOf _ G h.2.2.2.2.2.2.2.2.2.2 m x1) okX9_dayOf inX9_dayOf ml11_176 rfl rfl rfl rfl (by decide) (by decide) (Nat.le_of_ble_eq_true rfl) rfl dX11_light_41 (fun r5 m6 hr5 => ?_)
      refine j_gEq (fun hg7 => ?_)
      subst hg7
      refine gC11_180 h dX11_light_44 ?_
      exact j_iret h rfl dX11_light_47
    · rw [if_neg c4]
      by_cases c8 : x2 = (1 : Int32)
      · rw [if_pos c8]
        refine j_lookup (off := 38) (tgt := 48) h dX11_light_10 (by decide) (by rw [c8]; decide) (by decide) ?_
        refine j_aload_n h dX11_light_48 rfl ?_
        refine gC11_28 h dX11_light_49 ?_
        refine j_iload_n h dX11_light_52 rfl ?_
        refine j_callVR (q0 := 26) (ci := 9) h [.int x1] (kX9_dayOf _ G h.2.2.2.2.2.2.2.2.2.2 m x1) okX9_dayOf inX9_dayOf ml11_176 rfl rfl rfl rfl (by decide) (by decide) (Nat.le_of_ble_eq_true rfl) rfl dX11_light_53 (fun r9 m10 hr9 => ?_)
        refine j_gEq (fun hg11 => ?_)
        subst hg11
        refine gC11_185 h dX11_light_56 ?_
        exact j_iret h rfl dX11_light_59
      · rw [if_neg c8]
        refine j_lookup (off := 50) (tgt := 60) h dX11_light_10 (by decide) (by simp only []; rw [lv_osw (a := 0) c4 rfl, lv_osw (a := 1) c8 rfl]; rfl) (by decide) ?_
        refine j_iconst (v := (-1 : Int32)) h dX11_light_60 kiconst_m1 ?_
        exact j_iret h rfl dX11_light_61
  · refine j_iconst (v := (-1 : Int32)) h dX11_light_7 kiconst_m1 ?_
    exact j_iret h rfl dX11_light_8
theorem dX11_isHour_0 : DD cX11_isHour 0 (.iload_n 0) 1 1 := ⟨by decide +kernel, rfl⟩
theorem dX11_isHour_1 : DD cX11_isHour 1 (.ifCond .lt 13) 3 4 := ⟨by decide +kernel, rfl⟩
theorem dX11_isHour_4 : DD cX11_isHour 4 (.iload_n 0) 1 5 := ⟨by decide +kernel, rfl⟩
theorem dX11_isHour_5 : DD cX11_isHour 5 (.bipush 24) 2 7 := ⟨by decide +kernel, rfl⟩
theorem dX11_isHour_7 : DD cX11_isHour 7 (.if_icmp .ge 7) 3 10 := ⟨by decide +kernel, rfl⟩
theorem dX11_isHour_10 : DD cX11_isHour 10 (.iconst 1) 1 11 := ⟨by decide +kernel, rfl⟩
theorem dX11_isHour_11 : DD cX11_isHour 11 (.goto 4) 3 14 := ⟨by decide +kernel, rfl⟩
theorem dX11_isHour_14 : DD cX11_isHour 14 (.iconst 0) 1 15 := ⟨by decide +kernel, rfl⟩
theorem dX11_isHour_15 : DD cX11_isHour 15 (.ireturn) 1 16 := ⟨by decide +kernel, rfl⟩
def fX11_isHour (x0 : Int32) : Option Int32 := (if x0 < 0 then (some (0 : Int32)) else (if (24 : Int32) ≤ x0 then (some (0 : Int32)) else (some (1 : Int32))))
set_option maxHeartbeats 4000000 in
set_option maxRecDepth 100000 in
theorem kX11_isHour (l : Launch) (G : Gt) (hD : ∀ m, va_D (inA G nC) (wC G m)) (m : Mem) (x0 : Int32) : ∀ a, fX11_isHour x0 = some a → Ct l G wC nC yX11_isHour cX11_isHour 1 (some .boolean) 1 [.int x0] m ((cvP m) a) := by
  refine ct_of (own := RX11) (ls0 := [some (.int x0)]) (by decide) rfl rfl rfl (Nat.le_of_ble_eq_true rfl) hD (fun X h => ?_) l
  unfold fX11_isHour
  refine j_iload_n h dX11_isHour_0 rfl ?_
  refine j_if_lt (tgt := 14) h dX11_isHour_1 (by decide) (fun c1 => ?_) (fun c1 => ?_)
  · refine j_iconst (v := (0 : Int32)) h dX11_isHour_14 kiconst_0 ?_
    exact j_zretB h rfl rfl dX11_isHour_15
  · refine j_iload_n h dX11_isHour_4 rfl ?_
    refine j_bipush (v := (24 : Int32)) h dX11_isHour_5 kbipush_24 ?_
    refine j_icmp_ge (tgt := 14) h dX11_isHour_7 (by decide) (fun c2 => ?_) (fun c2 => ?_)
    · refine j_iconst (v := (0 : Int32)) h dX11_isHour_14 kiconst_0 ?_
      exact j_zretB h rfl rfl dX11_isHour_15
    · refine j_iconst (v := (1 : Int32)) h dX11_isHour_10 kiconst_1 ?_
      refine j_goto (tgt := 15) h dX11_isHour_11 (by decide) ?_
      exact j_zretB h rfl rfl dX11_isHour_15
theorem dX11_awake_0 : DD cX11_awake 0 (.iload_n 1) 1 1 := ⟨by decide +kernel, rfl⟩
theorem dX11_awake_1 : DD cX11_awake 1 (.invokestatic 173) 3 4 := ⟨by decide +kernel, rfl⟩
theorem dX11_awake_4 : DD cX11_awake 4 (.ifCond .eq 14) 3 7 := ⟨by decide +kernel, rfl⟩
theorem dX11_awake_7 : DD cX11_awake 7 (.iload_n 2) 1 8 := ⟨by decide +kernel, rfl⟩
theorem dX11_awake_8 : DD cX11_awake 8 (.invokestatic 188) 3 11 := ⟨by decide +kernel, rfl⟩
theorem dX11_awake_11 : DD cX11_awake 11 (.ifCond .eq 7) 3 14 := ⟨by decide +kernel, rfl⟩
theorem dX11_awake_14 : DD cX11_awake 14 (.iconst 1) 1 15 := ⟨by decide +kernel, rfl⟩
theorem dX11_awake_15 : DD cX11_awake 15 (.goto 4) 3 18 := ⟨by decide +kernel, rfl⟩
theorem dX11_awake_18 : DD cX11_awake 18 (.iconst 0) 1 19 := ⟨by decide +kernel, rfl⟩
theorem dX11_awake_19 : DD cX11_awake 19 (.istore_n 3) 1 20 := ⟨by decide +kernel, rfl⟩
theorem dX11_awake_20 : DD cX11_awake 20 (.iload_n 3) 1 21 := ⟨by decide +kernel, rfl⟩
theorem dX11_awake_21 : DD cX11_awake 21 (.ifCond .eq 22) 3 24 := ⟨by decide +kernel, rfl⟩
theorem dX11_awake_24 : DD cX11_awake 24 (.aload_n 0) 1 25 := ⟨by decide +kernel, rfl⟩
theorem dX11_awake_25 : DD cX11_awake 25 (.getfield 28) 3 28 := ⟨by decide +kernel, rfl⟩
theorem dX11_awake_28 : DD cX11_awake 28 (.aload_n 0) 1 29 := ⟨by decide +kernel, rfl⟩
theorem dX11_awake_29 : DD cX11_awake 29 (.getfield 28) 3 32 := ⟨by decide +kernel, rfl⟩
theorem dX11_awake_32 : DD cX11_awake 32 (.iload_n 1) 1 33 := ⟨by decide +kernel, rfl⟩
theorem dX11_awake_33 : DD cX11_awake 33 (.invokevirtual 176) 3 36 := ⟨by decide +kernel, rfl⟩
theorem dX11_awake_36 : DD cX11_awake 36 (.iload_n 2) 1 37 := ⟨by decide +kernel, rfl⟩
theorem dX11_awake_37 : DD cX11_awake 37 (.invokevirtual 191) 3 40 := ⟨by decide +kernel, rfl⟩
theorem dX11_awake_40 : DD cX11_awake 40 (.goto 4) 3 43 := ⟨by decide +kernel, rfl⟩
theorem dX11_awake_43 : DD cX11_awake 43 (.iconst (-1)) 1 44 := ⟨by decide +kernel, rfl⟩
theorem dX11_awake_44 : DD cX11_awake 44 (.ireturn) 1 45 := ⟨by decide +kernel, rfl⟩
def fX11_awake (m : Mem) (x1 : Int32) (x2 : Int32) : Option (Int32 × Mem) := (cP (fX11_isDate x1) fun r1 => (if r1 = 0 then (some ((-1 : Int32), m)) else (cP (fX11_isHour x2) fun r4 => (if r4 = 0 then (some ((-1 : Int32), m)) else (cR (fX9_dayOf m x1) fun r7 m8 => (gEq r7 53 (cP (fX9_whoIsAwake m8 x2) fun r10 => (some (r10, m8)))))))))
set_option maxHeartbeats 4000000 in
set_option maxRecDepth 100000 in
theorem kX11_awake (l : Launch) (G : Gt) (hD : ∀ m, va_D (inA G nC) (wC G m)) (m : Mem) (x1 : Int32) (x2 : Int32) : ∀ a, fX11_awake m x1 x2 = some a → Ct l G wC nC yX11_awake cX11_awake 4 (some .int) 5 [.ref (G.2.2 0), .int x1, .int x2] m (cvI a) := by
  refine ct_of (own := RX11) (ls0 := [some (.ref (G.2.2 0)), some (.int x1), some (.int x2), none]) (by decide) rfl rfl rfl (Nat.le_of_ble_eq_true rfl) hD (fun X h => ?_) l
  unfold fX11_awake
  refine j_iload_n h dX11_awake_0 rfl ?_
  refine j_callSP h [.int x1] (kX11_isDate _ G h.2.2.2.2.2.2.2.2.2.2 m x1) okX11_isDate stX11_isDate ml11_173 rfl rfl (by decide) (by decide) (Nat.le_of_ble_eq_true rfl) rfl dX11_awake_1 (fun r1 hr1 => ?_)
  refine j_if_eq (tgt := 18) h dX11_awake_4 (by decide) (fun c3 => ?_) (fun c3 => ?_)
  · refine j_iconst (v := (0 : Int32)) h dX11_awake_18 kiconst_0 ?_
    refine j_istore_n h dX11_awake_19 rfl rfl ?_
    refine j_iload_n h dX11_awake_20 rfl ?_
    refine j_if_eqB (tgt := 43) h dX11_awake_21 (by decide) (fun _ => ?_) (fun cc => absurd (by decide) cc)
    refine j_iconst (v := (-1 : Int32)) h dX11_awake_43 kiconst_m1 ?_
    exact j_iret h rfl dX11_awake_44
  · refine j_iload_n h dX11_awake_7 rfl ?_
    refine j_callSP h [.int x2] (kX11_isHour _ G h.2.2.2.2.2.2.2.2.2.2 m x2) okX11_isHour stX11_isHour ml11_188 rfl rfl (by decide) (by decide) (Nat.le_of_ble_eq_true rfl) rfl dX11_awake_8 (fun r4 hr4 => ?_)
    refine j_if_eq (tgt := 18) h dX11_awake_11 (by decide) (fun c6 => ?_) (fun c6 => ?_)
    · refine j_iconst (v := (0 : Int32)) h dX11_awake_18 kiconst_0 ?_
      refine j_istore_n h dX11_awake_19 rfl rfl ?_
      refine j_iload_n h dX11_awake_20 rfl ?_
      refine j_if_eqB (tgt := 43) h dX11_awake_21 (by decide) (fun _ => ?_) (fun cc => absurd (by decide) cc)
      refine j_iconst (v := (-1 : Int32)) h dX11_awake_43 kiconst_m1 ?_
      exact j_iret h rfl dX11_awake_44
    · refine j_iconst (v := (1 : Int32)) h dX11_awake_14 kiconst_1 ?_
      refine j_goto (tgt := 19) h dX11_awake_15 (by decide) ?_
      refine j_istore_n h dX11_awake_19 rfl rfl ?_
      refine j_iload_n h dX11_awake_20 rfl ?_
      refine j_if_eqB (tgt := 43) h dX11_awake_21 (by decide) (fun cc => absurd cc (by decide)) (fun _ => ?_)
      refine j_aload_n h dX11_awake_24 rfl ?_
      refine gC11_28 h dX11_awake_25 ?_
      refine j_aload_n h dX11_awake_28 rfl ?_
      refine gC11_28 h dX11_awake_29 ?_
      refine j_iload_n h dX11_awake_32 rfl ?_
      refine j_callVR (q0 := 26) (ci := 9) h [.int x1] (kX9_dayOf _ G h.2.2.2.2.2.2.2.2.2.2 m x1) okX9_dayOf inX9_dayOf ml11_176 rfl rfl rfl rfl (by decide) (by decide) (Nat.le_of_ble_eq_true rfl) rfl dX11_awake_33 (fun r7 m8 hr7 => ?_)
      refine j_gEq (fun hg9 => ?_)
      subst hg9
      refine j_iload_n h dX11_awake_36 rfl ?_
      refine j_callVP (q0 := 26) (ci := 9) h [.ref (G.2.2 53), .int x2] (kX9_whoIsAwake _ G h.2.2.2.2.2.2.2.2.2.2 m8 x2) okX9_whoIsAwake inX9_whoIsAwake ml11_191 rfl rfl rfl rfl (by decide) (by decide) (Nat.le_of_ble_eq_true rfl) rfl dX11_awake_37 (fun r10 hr10 => ?_)
      refine j_goto (tgt := 44) h dX11_awake_40 (by decide) ?_
      exact j_iret h rfl dX11_awake_44
theorem dX11_noise_0 : DD cX11_noise 0 (.aload_n 0) 1 1 := ⟨by decide +kernel, rfl⟩
theorem dX11_noise_1 : DD cX11_noise 1 (.getfield 28) 3 4 := ⟨by decide +kernel, rfl⟩
theorem dX11_noise_4 : DD cX11_noise 4 (.iload_n 1) 1 5 := ⟨by decide +kernel, rfl⟩
theorem dX11_noise_5 : DD cX11_noise 5 (.invokevirtual 113) 3 8 := ⟨by decide +kernel, rfl⟩
theorem dX11_noise_8 : DD cX11_noise 8 (.ifCond .eq 10) 3 11 := ⟨by decide +kernel, rfl⟩
theorem dX11_noise_11 : DD cX11_noise 11 (.iload_n 2) 1 12 := ⟨by decide +kernel, rfl⟩
theorem dX11_noise_12 : DD cX11_noise 12 (.invokestatic 188) 3 15 := ⟨by decide +kernel, rfl⟩
theorem dX11_noise_15 : DD cX11_noise 15 (.ifCond .ne 5) 3 18 := ⟨by decide +kernel, rfl⟩
theorem dX11_noise_18 : DD cX11_noise 18 (.iconst (-1)) 1 19 := ⟨by decide +kernel, rfl⟩
theorem dX11_noise_19 : DD cX11_noise 19 (.ireturn) 1 20 := ⟨by decide +kernel, rfl⟩
theorem dX11_noise_20 : DD cX11_noise 20 (.aload_n 0) 1 21 := ⟨by decide +kernel, rfl⟩
theorem dX11_noise_21 : DD cX11_noise 21 (.getfield 28) 3 24 := ⟨by decide +kernel, rfl⟩
theorem dX11_noise_24 : DD cX11_noise 24 (.getfield 84) 3 27 := ⟨by decide +kernel, rfl⟩
theorem dX11_noise_27 : DD cX11_noise 27 (.iload_n 1) 1 28 := ⟨by decide +kernel, rfl⟩
theorem dX11_noise_28 : DD cX11_noise 28 (.iload_n 2) 1 29 := ⟨by decide +kernel, rfl⟩
theorem dX11_noise_29 : DD cX11_noise 29 (.invokevirtual 195) 3 32 := ⟨by decide +kernel, rfl⟩
theorem dX11_noise_32 : DD cX11_noise 32 (.istore_n 3) 1 33 := ⟨by decide +kernel, rfl⟩
theorem dX11_noise_33 : DD cX11_noise 33 (.iload_n 3) 1 34 := ⟨by decide +kernel, rfl⟩
theorem dX11_noise_34 : DD cX11_noise 34 (.iconst (-1)) 1 35 := ⟨by decide +kernel, rfl⟩
theorem dX11_noise_35 : DD cX11_noise 35 (.if_icmp .ne 7) 3 38 := ⟨by decide +kernel, rfl⟩
theorem dX11_noise_38 : DD cX11_noise 38 (.iconst 0) 1 39 := ⟨by decide +kernel, rfl⟩
theorem dX11_noise_39 : DD cX11_noise 39 (.goto 15) 3 42 := ⟨by decide +kernel, rfl⟩
theorem dX11_noise_42 : DD cX11_noise 42 (.aload_n 0) 1 43 := ⟨by decide +kernel, rfl⟩
theorem dX11_noise_43 : DD cX11_noise 43 (.getfield 28) 3 46 := ⟨by decide +kernel, rfl⟩
theorem dX11_noise_46 : DD cX11_noise 46 (.getfield 84) 3 49 := ⟨by decide +kernel, rfl⟩
theorem dX11_noise_49 : DD cX11_noise 49 (.getfield 199) 3 52 := ⟨by decide +kernel, rfl⟩
theorem dX11_noise_52 : DD cX11_noise 52 (.iload_n 3) 1 53 := ⟨by decide +kernel, rfl⟩
theorem dX11_noise_53 : DD cX11_noise 53 (.iaload) 1 54 := ⟨by decide +kernel, rfl⟩
theorem dX11_noise_54 : DD cX11_noise 54 (.ireturn) 1 55 := ⟨by decide +kernel, rfl⟩
def fX11_noise (m : Mem) (x1 : Int32) (x2 : Int32) : Option Int32 := (cP (fX9_hasPerson m x1) fun r1 => (if r1 = 0 then (some (-1 : Int32)) else (cP (fX11_isHour x2) fun r4 => (if r4 = 0 then (some (-1 : Int32)) else (gPl (m.2.2 26 1) (cP (fX6_noiseOf m (m.2.2 26 1) x1 x2) fun r8 => (if r8 = (-1 : Int32) then (some (0 : Int32)) else (rd (m.1 ((m.2.2 26 1) + 11)) 8 r8 fun v11 => (some v11)))))))))
set_option maxHeartbeats 4000000 in
set_option maxRecDepth 100000 in
theorem kX11_noise (l : Launch) (G : Gt) (hD : ∀ m, va_D (inA G nC) (wC G m)) (m : Mem) (x1 : Int32) (x2 : Int32) : ∀ a, fX11_noise m x1 x2 = some a → Ct l G wC nC yX11_noise cX11_noise 4 (some .int) 2 [.ref (G.2.2 0), .int x1, .int x2] m ((cvP m) a) := by
  refine ct_of (own := RX11) (ls0 := [some (.ref (G.2.2 0)), some (.int x1), some (.int x2), none]) (by decide) rfl rfl rfl (Nat.le_of_ble_eq_true rfl) hD (fun X h => ?_) l
  unfold fX11_noise
  refine j_aload_n h dX11_noise_0 rfl ?_
  refine gC11_28 h dX11_noise_1 ?_
  refine j_iload_n h dX11_noise_4 rfl ?_
  refine j_callVP (q0 := 26) (ci := 9) h [.int x1] (kX9_hasPerson _ G h.2.2.2.2.2.2.2.2.2.2 m x1) okX9_hasPerson inX9_hasPerson ml11_113 rfl rfl rfl rfl (by decide) (by decide) (Nat.le_of_ble_eq_true rfl) rfl dX11_noise_5 (fun r1 hr1 => ?_)
  refine j_if_eq (tgt := 18) h dX11_noise_8 (by decide) (fun c3 => ?_) (fun c3 => ?_)
  · refine j_iconst (v := (-1 : Int32)) h dX11_noise_18 kiconst_m1 ?_
    exact j_iret h rfl dX11_noise_19
  · refine j_iload_n h dX11_noise_11 rfl ?_
    refine j_callSP h [.int x2] (kX11_isHour _ G h.2.2.2.2.2.2.2.2.2.2 m x2) okX11_isHour stX11_isHour ml11_188 rfl rfl (by decide) (by decide) (Nat.le_of_ble_eq_true rfl) rfl dX11_noise_12 (fun r4 hr4 => ?_)
    refine j_if_ne (tgt := 20) h dX11_noise_15 (by decide) (fun c6 => ?_) (fun c6 => ?_)
    · refine j_aload_n h dX11_noise_20 rfl ?_
      refine gC11_28 h dX11_noise_21 ?_
      refine gC11_84 h dX11_noise_24 ?_
      refine j_iload_n h dX11_noise_27 rfl ?_
      refine j_iload_n h dX11_noise_28 rfl ?_
      refine j_gPl (fun hg7 => ?_)
      refine j_callVP (q0 := (m.2.2 26 1)) (ci := 6) h [.int x1, .int x2] (kX6_noiseOf _ G h.2.2.2.2.2.2.2.2.2.2 m (m.2.2 26 1) x1 x2) okX6_noiseOf inX6_noiseOf ml11_195 rfl (at_Pl hg7) rfl rfl (by decide) (by decide) (Nat.le_of_ble_eq_true rfl) rfl dX11_noise_29 (fun r8 hr8 => ?_)
      refine j_istore_n h dX11_noise_32 rfl rfl ?_
      refine j_iload_n h dX11_noise_33 rfl ?_
      refine j_iconst (v := (-1 : Int32)) h dX11_noise_34 kiconst_m1 ?_
      refine j_icmp_ne (tgt := 42) h dX11_noise_35 (by decide) (fun c10 => ?_) (fun c10 => ?_)
      · refine j_aload_n h dX11_noise_42 rfl ?_
        refine gC11_28 h dX11_noise_43 ?_
        refine gC11_84 h dX11_noise_46 ?_
        refine gC11_199 h hg7 dX11_noise_49 ?_
        refine j_iload_n h dX11_noise_52 rfl ?_
        refine aC_Pl11 h hg7 dX11_noise_53 (fun v11 hv11 => ?_)
        exact j_iret h rfl dX11_noise_54
      · refine j_iconst (v := (0 : Int32)) h dX11_noise_38 kiconst_0 ?_
        refine j_goto (tgt := 54) h dX11_noise_39 (by decide) ?_
        exact j_iret h rfl dX11_noise_54
    · refine j_iconst (v := (-1 : Int32)) h dX11_noise_18 kiconst_m1 ?_
      exact j_iret h rfl dX11_noise_19
theorem dX11_go_0 : DD cX11_go 0 (.aload_n 0) 1 1 := ⟨by decide +kernel, rfl⟩
theorem dX11_go_1 : DD cX11_go 1 (.getfield 28) 3 4 := ⟨by decide +kernel, rfl⟩
theorem dX11_go_4 : DD cX11_go 4 (.iload_n 1) 1 5 := ⟨by decide +kernel, rfl⟩
theorem dX11_go_5 : DD cX11_go 5 (.invokevirtual 113) 3 8 := ⟨by decide +kernel, rfl⟩
theorem dX11_go_8 : DD cX11_go 8 (.ifCond .eq 12) 3 11 := ⟨by decide +kernel, rfl⟩
theorem dX11_go_11 : DD cX11_go 11 (.iload_n 2) 1 12 := ⟨by decide +kernel, rfl⟩
theorem dX11_go_12 : DD cX11_go 12 (.ifCond .lt 8) 3 15 := ⟨by decide +kernel, rfl⟩
theorem dX11_go_15 : DD cX11_go 15 (.iload_n 2) 1 16 := ⟨by decide +kernel, rfl⟩
theorem dX11_go_16 : DD cX11_go 16 (.iconst 3) 1 17 := ⟨by decide +kernel, rfl⟩
theorem dX11_go_17 : DD cX11_go 17 (.if_icmp .lt 5) 3 20 := ⟨by decide +kernel, rfl⟩
theorem dX11_go_20 : DD cX11_go 20 (.iconst (-1)) 1 21 := ⟨by decide +kernel, rfl⟩
theorem dX11_go_21 : DD cX11_go 21 (.ireturn) 1 22 := ⟨by decide +kernel, rfl⟩
theorem dX11_go_22 : DD cX11_go 22 (.aload_n 0) 1 23 := ⟨by decide +kernel, rfl⟩
theorem dX11_go_23 : DD cX11_go 23 (.getfield 28) 3 26 := ⟨by decide +kernel, rfl⟩
theorem dX11_go_26 : DD cX11_go 26 (.getfield 64) 3 29 := ⟨by decide +kernel, rfl⟩
theorem dX11_go_29 : DD cX11_go 29 (.getfield 120) 3 32 := ⟨by decide +kernel, rfl⟩
theorem dX11_go_32 : DD cX11_go 32 (.iload_n 1) 1 33 := ⟨by decide +kernel, rfl⟩
theorem dX11_go_33 : DD cX11_go 33 (.iaload) 1 34 := ⟨by decide +kernel, rfl⟩
theorem dX11_go_34 : DD cX11_go 34 (.istore_n 3) 1 35 := ⟨by decide +kernel, rfl⟩
theorem dX11_go_35 : DD cX11_go 35 (.iload_n 3) 1 36 := ⟨by decide +kernel, rfl⟩
theorem dX11_go_36 : DD cX11_go 36 (.iload_n 2) 1 37 := ⟨by decide +kernel, rfl⟩
theorem dX11_go_37 : DD cX11_go 37 (.if_icmp .ne 5) 3 40 := ⟨by decide +kernel, rfl⟩
theorem dX11_go_40 : DD cX11_go 40 (.iconst (-1)) 1 41 := ⟨by decide +kernel, rfl⟩
theorem dX11_go_41 : DD cX11_go 41 (.ireturn) 1 42 := ⟨by decide +kernel, rfl⟩
theorem dX11_go_42 : DD cX11_go 42 (.aload_n 0) 1 43 := ⟨by decide +kernel, rfl⟩
theorem dX11_go_43 : DD cX11_go 43 (.getfield 28) 3 46 := ⟨by decide +kernel, rfl⟩
theorem dX11_go_46 : DD cX11_go 46 (.getfield 64) 3 49 := ⟨by decide +kernel, rfl⟩
theorem dX11_go_49 : DD cX11_go 49 (.getfield 120) 3 52 := ⟨by decide +kernel, rfl⟩
theorem dX11_go_52 : DD cX11_go 52 (.iload_n 1) 1 53 := ⟨by decide +kernel, rfl⟩
theorem dX11_go_53 : DD cX11_go 53 (.iload_n 2) 1 54 := ⟨by decide +kernel, rfl⟩
theorem dX11_go_54 : DD cX11_go 54 (.iastore) 1 55 := ⟨by decide +kernel, rfl⟩
theorem dX11_go_55 : DD cX11_go 55 (.aload_n 0) 1 56 := ⟨by decide +kernel, rfl⟩
theorem dX11_go_56 : DD cX11_go 56 (.getfield 35) 3 59 := ⟨by decide +kernel, rfl⟩
theorem dX11_go_59 : DD cX11_go 59 (.aload_n 0) 1 60 := ⟨by decide +kernel, rfl⟩
theorem dX11_go_60 : DD cX11_go 60 (.getfield 28) 3 63 := ⟨by decide +kernel, rfl⟩
theorem dX11_go_63 : DD cX11_go 63 (.getfield 64) 3 66 := ⟨by decide +kernel, rfl⟩
theorem dX11_go_66 : DD cX11_go 66 (.invokevirtual 202) 3 69 := ⟨by decide +kernel, rfl⟩
theorem dX11_go_69 : DD cX11_go 69 (.iload_n 3) 1 70 := ⟨by decide +kernel, rfl⟩
theorem dX11_go_70 : DD cX11_go 70 (.ireturn) 1 71 := ⟨by decide +kernel, rfl⟩
def fX11_go (m : Mem) (x1 : Int32) (x2 : Int32) : Option (Int32 × Mem) := (cP (fX9_hasPerson m x1) fun r1 => (if r1 = 0 then (some ((-1 : Int32), m)) else (if x2 < 0 then (some ((-1 : Int32), m)) else (if x2 < (3 : Int32) then (rd (m.1 28) 7 x1 fun v6 => (if v6 = x2 then (some ((-1 : Int32), m)) else (wr m 28 7 x1 x2 fun m8 => (cV (fX0_keep m8) fun m10 => (some (v6, m10)))))) else (some ((-1 : Int32), m))))))
set_option maxHeartbeats 4000000 in
set_option maxRecDepth 100000 in
theorem kX11_go (l : Launch) (G : Gt) (hD : ∀ m, va_D (inA G nC) (wC G m)) (m : Mem) (x1 : Int32) (x2 : Int32) : ∀ a, fX11_go m x1 x2 = some a → Ct l G wC nC yX11_go cX11_go 4 (some .int) 4 [.ref (G.2.2 0), .int x1, .int x2] m (cvI a) := by
  refine ct_of (own := RX11) (ls0 := [some (.ref (G.2.2 0)), some (.int x1), some (.int x2), none]) (by decide) rfl rfl rfl (Nat.le_of_ble_eq_true rfl) hD (fun X h => ?_) l
  unfold fX11_go
  refine j_aload_n h dX11_go_0 rfl ?_
  refine gC11_28 h dX11_go_1 ?_
  refine j_iload_n h dX11_go_4 rfl ?_
  refine j_callVP (q0 := 26) (ci := 9) h [.int x1] (kX9_hasPerson _ G h.2.2.2.2.2.2.2.2.2.2 m x1) okX9_hasPerson inX9_hasPerson ml11_113 rfl rfl rfl rfl (by decide) (by decide) (Nat.le_of_ble_eq_true rfl) rfl dX11_go_5 (fun r1 hr1 => ?_)
  refine j_if_eq (tgt := 20) h dX11_go_8 (by decide) (fun c3 => ?_) (fun c3 => ?_)
  · refine j_iconst (v := (-1 : Int32)) h dX11_go_20 kiconst_m1 ?_
    exact j_iret h rfl dX11_go_21
  · refine j_iload_n h dX11_go_11 rfl ?_
    refine j_if_lt (tgt := 20) h dX11_go_12 (by decide) (fun c4 => ?_) (fun c4 => ?_)
    · refine j_iconst (v := (-1 : Int32)) h dX11_go_20 kiconst_m1 ?_
      exact j_iret h rfl dX11_go_21
    · refine j_iload_n h dX11_go_15 rfl ?_
      refine j_iconst (v := (3 : Int32)) h dX11_go_16 kiconst_3 ?_
      refine j_icmp_lt (tgt := 22) h dX11_go_17 (by decide) (fun c5 => ?_) (fun c5 => ?_)
      · refine j_aload_n h dX11_go_22 rfl ?_
        refine gC11_28 h dX11_go_23 ?_
        refine gC11_64 h dX11_go_26 ?_
        refine gC11_120 h dX11_go_29 ?_
        refine j_iload_n h dX11_go_32 rfl ?_
        refine aC_28 h dX11_go_33 (fun v6 hv6 => ?_)
        refine j_istore_n h dX11_go_34 rfl rfl ?_
        refine j_iload_n h dX11_go_35 rfl ?_
        refine j_iload_n h dX11_go_36 rfl ?_
        refine j_icmp_ne (tgt := 42) h dX11_go_37 (by decide) (fun c7 => ?_) (fun c7 => ?_)
        · refine j_aload_n h dX11_go_42 rfl ?_
          refine gC11_28 h dX11_go_43 ?_
          refine gC11_64 h dX11_go_46 ?_
          refine gC11_120 h dX11_go_49 ?_
          refine j_iload_n h dX11_go_52 rfl ?_
          refine j_iload_n h dX11_go_53 rfl ?_
          refine bC_28 h dX11_go_54 (fun m8 hm8 => ?_)
          refine j_aload_n h dX11_go_55 rfl ?_
          refine gC11_35 h dX11_go_56 ?_
          refine j_aload_n h dX11_go_59 rfl ?_
          refine gC11_28 h dX11_go_60 ?_
          refine gC11_64 h dX11_go_63 ?_
          refine j_callVV (q0 := 56) (ci := 0) h [.ref (G.2.2 27)] (kX0_keep _ G h.2.2.2.2.2.2.2.2.2.2 m8) okX0_keep inX0_keep ml11_202 rfl rfl rfl rfl (by decide) (by decide) (Nat.le_of_ble_eq_true rfl) rfl dX11_go_66 (fun m10 hm10 => ?_)
          refine j_iload_n h dX11_go_69 rfl ?_
          exact j_iret h rfl dX11_go_70
        · refine j_iconst (v := (-1 : Int32)) h dX11_go_40 kiconst_m1 ?_
          exact j_iret h rfl dX11_go_41
      · refine j_iconst (v := (-1 : Int32)) h dX11_go_20 kiconst_m1 ?_
        exact j_iret h rfl dX11_go_21
theorem dX11_hush_0 : DD cX11_hush 0 (.aload_n 0) 1 1 := ⟨by decide +kernel, rfl⟩
theorem dX11_hush_1 : DD cX11_hush 1 (.getfield 28) 3 4 := ⟨by decide +kernel, rfl⟩
theorem dX11_hush_4 : DD cX11_hush 4 (.iload_n 1) 1 5 := ⟨by decide +kernel, rfl⟩
theorem dX11_hush_5 : DD cX11_hush 5 (.invokevirtual 113) 3 8 := ⟨by decide +kernel, rfl⟩
theorem dX11_hush_8 : DD cX11_hush 8 (.ifCond .ne 5) 3 11 := ⟨by decide +kernel, rfl⟩
theorem dX11_hush_11 : DD cX11_hush 11 (.iconst (-1)) 1 12 := ⟨by decide +kernel, rfl⟩
theorem dX11_hush_12 : DD cX11_hush 12 (.ireturn) 1 13 := ⟨by decide +kernel, rfl⟩
theorem dX11_hush_13 : DD cX11_hush 13 (.aload_n 0) 1 14 := ⟨by decide +kernel, rfl⟩
theorem dX11_hush_14 : DD cX11_hush 14 (.getfield 28) 3 17 := ⟨by decide +kernel, rfl⟩
theorem dX11_hush_17 : DD cX11_hush 17 (.getfield 64) 3 20 := ⟨by decide +kernel, rfl⟩
theorem dX11_hush_20 : DD cX11_hush 20 (.dup) 1 21 := ⟨by decide +kernel, rfl⟩
theorem dX11_hush_21 : DD cX11_hush 21 (.getfield 205) 3 24 := ⟨by decide +kernel, rfl⟩
theorem dX11_hush_24 : DD cX11_hush 24 (.iconst 1) 1 25 := ⟨by decide +kernel, rfl⟩
theorem dX11_hush_25 : DD cX11_hush 25 (.iload_n 1) 1 26 := ⟨by decide +kernel, rfl⟩
theorem dX11_hush_26 : DD cX11_hush 26 (.ishl) 1 27 := ⟨by decide +kernel, rfl⟩
theorem dX11_hush_27 : DD cX11_hush 27 (.ixor) 1 28 := ⟨by decide +kernel, rfl⟩
theorem dX11_hush_28 : DD cX11_hush 28 (.putfield 205) 3 31 := ⟨by decide +kernel, rfl⟩
theorem dX11_hush_31 : DD cX11_hush 31 (.aload_n 0) 1 32 := ⟨by decide +kernel, rfl⟩
theorem dX11_hush_32 : DD cX11_hush 32 (.getfield 35) 3 35 := ⟨by decide +kernel, rfl⟩
theorem dX11_hush_35 : DD cX11_hush 35 (.aload_n 0) 1 36 := ⟨by decide +kernel, rfl⟩
theorem dX11_hush_36 : DD cX11_hush 36 (.getfield 28) 3 39 := ⟨by decide +kernel, rfl⟩
theorem dX11_hush_39 : DD cX11_hush 39 (.getfield 64) 3 42 := ⟨by decide +kernel, rfl⟩
theorem dX11_hush_42 : DD cX11_hush 42 (.invokevirtual 202) 3 45 := ⟨by decide +kernel, rfl⟩
theorem dX11_hush_45 : DD cX11_hush 45 (.aload_n 0) 1 46 := ⟨by decide +kernel, rfl⟩
theorem dX11_hush_46 : DD cX11_hush 46 (.getfield 28) 3 49 := ⟨by decide +kernel, rfl⟩
theorem dX11_hush_49 : DD cX11_hush 49 (.iload_n 1) 1 50 := ⟨by decide +kernel, rfl⟩
theorem dX11_hush_50 : DD cX11_hush 50 (.invokevirtual 123) 3 53 := ⟨by decide +kernel, rfl⟩
theorem dX11_hush_53 : DD cX11_hush 53 (.ifCond .eq 7) 3 56 := ⟨by decide +kernel, rfl⟩
theorem dX11_hush_56 : DD cX11_hush 56 (.iconst 1) 1 57 := ⟨by decide +kernel, rfl⟩
theorem dX11_hush_57 : DD cX11_hush 57 (.goto 4) 3 60 := ⟨by decide +kernel, rfl⟩
theorem dX11_hush_60 : DD cX11_hush 60 (.iconst 0) 1 61 := ⟨by decide +kernel, rfl⟩
theorem dX11_hush_61 : DD cX11_hush 61 (.ireturn) 1 62 := ⟨by decide +kernel, rfl⟩
def fX11_hush (m : Mem) (x1 : Int32) : Option (Int32 × Mem) := (cP (fX9_hasPerson m x1) fun r1 => (if r1 = 0 then (some ((-1 : Int32), m)) else (pt (sI m 27 4 ((m.1 27 4) ^^^ ((1 : Int32) <<< (x1 &&& 31)))) fun m4 => (cV (fX0_keep m4) fun m6 => (cP (fX9_isQuiet m6 x1) fun r7 => (if r7 = 0 then (some ((0 : Int32), m6)) else (some ((1 : Int32), m6))))))))
set_option maxHeartbeats 4000000 in
set_option maxRecDepth 100000 in
theorem kX11_hush (l : Launch) (G : Gt) (hD : ∀ m, va_D (inA G nC) (wC G m)) (m : Mem) (x1 : Int32) : ∀ a, fX11_hush m x1 = some a → Ct l G wC nC yX11_hush cX11_hush 2 (some .int) 4 [.ref (G.2.2 0), .int x1] m (cvI a) := by
  refine ct_of (own := RX11) (ls0 := [some (.ref (G.2.2 0)), some (.int x1)]) (by decide) rfl rfl rfl (Nat.le_of_ble_eq_true rfl) hD (fun X h => ?_) l
  unfold fX11_hush
  refine j_aload_n h dX11_hush_0 rfl ?_
  refine gC11_28 h dX11_hush_1 ?_
  refine j_iload_n h dX11_hush_4 rfl ?_
  refine j_callVP (q0 := 26) (ci := 9) h [.int x1] (kX9_hasPerson _ G h.2.2.2.2.2.2.2.2.2.2 m x1) okX9_hasPerson inX9_hasPerson ml11_113 rfl rfl rfl rfl (by decide) (by decide) (Nat.le_of_ble_eq_true rfl) rfl dX11_hush_5 (fun r1 hr1 => ?_)
  refine j_if_ne (tgt := 13) h dX11_hush_8 (by decide) (fun c3 => ?_) (fun c3 => ?_)
  · refine j_aload_n h dX11_hush_13 rfl ?_
    refine gC11_28 h dX11_hush_14 ?_
    refine gC11_64 h dX11_hush_17 ?_
    refine j_dup h dX11_hush_20 rfl ?_
    refine gC11_205 h dX11_hush_21 ?_
    refine j_iconst (v := (1 : Int32)) h dX11_hush_24 kiconst_1 ?_
    refine j_iload_n h dX11_hush_25 rfl ?_
    refine j_ishl h dX11_hush_26 ?_
    refine j_ixor h dX11_hush_27 ?_
    refine pC11_205 h dX11_hush_28 (fun m4 hm4 => ?_)
    refine j_aload_n h dX11_hush_31 rfl ?_
    refine gC11_35 h dX11_hush_32 ?_
    refine j_aload_n h dX11_hush_35 rfl ?_
    refine gC11_28 h dX11_hush_36 ?_
    refine gC11_64 h dX11_hush_39 ?_
    refine j_callVV (q0 := 56) (ci := 0) h [.ref (G.2.2 27)] (kX0_keep _ G h.2.2.2.2.2.2.2.2.2.2 m4) okX0_keep inX0_keep ml11_202 rfl rfl rfl rfl (by decide) (by decide) (Nat.le_of_ble_eq_true rfl) rfl dX11_hush_42 (fun m6 hm6 => ?_)
    refine j_aload_n h dX11_hush_45 rfl ?_
    refine gC11_28 h dX11_hush_46 ?_
    refine j_iload_n h dX11_hush_49 rfl ?_
    refine j_callVP (q0 := 26) (ci := 9) h [.int x1] (kX9_isQuiet _ G h.2.2.2.2.2.2.2.2.2.2 m6 x1) okX9_isQuiet inX9_isQuiet ml11_123 rfl rfl rfl rfl (by decide) (by decide) (Nat.le_of_ble_eq_true rfl) rfl dX11_hush_50 (fun r7 hr7 => ?_)
    refine j_if_eq (tgt := 60) h dX11_hush_53 (by decide) (fun c9 => ?_) (fun c9 => ?_)
    · refine j_iconst (v := (0 : Int32)) h dX11_hush_60 kiconst_0 ?_
      exact j_iret h rfl dX11_hush_61
    · refine j_iconst (v := (1 : Int32)) h dX11_hush_56 kiconst_1 ?_
      refine j_goto (tgt := 61) h dX11_hush_57 (by decide) ?_
      exact j_iret h rfl dX11_hush_61
  · refine j_iconst (v := (-1 : Int32)) h dX11_hush_11 kiconst_m1 ?_
    exact j_iret h rfl dX11_hush_12
