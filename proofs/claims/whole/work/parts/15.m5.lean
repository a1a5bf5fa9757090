theorem dX12_meet_0 : DD cX12_meet 0 (.aload_n 0) 1 1 := ⟨by decide +kernel, rfl⟩
theorem dX12_meet_1 : DD cX12_meet 1 (.iload_n 1) 1 2 := ⟨by decide +kernel, rfl⟩
theorem dX12_meet_2 : DD cX12_meet 2 (.invokevirtual 459) 3 5 := ⟨by decide +kernel, rfl⟩
theorem dX12_meet_5 : DD cX12_meet 5 (.ifCond .ne 5) 3 8 := ⟨by decide +kernel, rfl⟩
theorem dX12_meet_8 : DD cX12_meet 8 (.iconst (-1)) 1 9 := ⟨by decide +kernel, rfl⟩
theorem dX12_meet_9 : DD cX12_meet 9 (.ireturn) 1 10 := ⟨by decide +kernel, rfl⟩
theorem dX12_meet_10 : DD cX12_meet 10 (.aload_n 0) 1 11 := ⟨by decide +kernel, rfl⟩
theorem dX12_meet_11 : DD cX12_meet 11 (.aload_n 0) 1 12 := ⟨by decide +kernel, rfl⟩
theorem dX12_meet_12 : DD cX12_meet 12 (.getfield 112) 3 15 := ⟨by decide +kernel, rfl⟩
theorem dX12_meet_15 : DD cX12_meet 15 (.bipush 36) 2 17 := ⟨by decide +kernel, rfl⟩
theorem dX12_meet_17 : DD cX12_meet 17 (.iaload) 1 18 := ⟨by decide +kernel, rfl⟩
theorem dX12_meet_18 : DD cX12_meet 18 (.invokevirtual 453) 3 21 := ⟨by decide +kernel, rfl⟩
theorem dX12_meet_21 : DD cX12_meet 21 (.iload_n 2) 1 22 := ⟨by decide +kernel, rfl⟩
theorem dX12_meet_22 : DD cX12_meet 22 (.tableswitch 99 0 6 #[42, 49, 56, 63, 70, 80, 90]) 42 64 := ⟨by decide +kernel, rfl⟩
theorem dX12_meet_64 : DD cX12_meet 64 (.aload_n 0) 1 65 := ⟨by decide +kernel, rfl⟩
theorem dX12_meet_65 : DD cX12_meet 65 (.getfield 82) 3 68 := ⟨by decide +kernel, rfl⟩
theorem dX12_meet_68 : DD cX12_meet 68 (.iload_n 1) 1 69 := ⟨by decide +kernel, rfl⟩
theorem dX12_meet_69 : DD cX12_meet 69 (.iaload) 1 70 := ⟨by decide +kernel, rfl⟩
theorem dX12_meet_70 : DD cX12_meet 70 (.ireturn) 1 71 := ⟨by decide +kernel, rfl⟩
theorem dX12_meet_71 : DD cX12_meet 71 (.aload_n 0) 1 72 := ⟨by decide +kernel, rfl⟩
theorem dX12_meet_72 : DD cX12_meet 72 (.getfield 85) 3 75 := ⟨by decide +kernel, rfl⟩
theorem dX12_meet_75 : DD cX12_meet 75 (.iload_n 1) 1 76 := ⟨by decide +kernel, rfl⟩
theorem dX12_meet_76 : DD cX12_meet 76 (.iaload) 1 77 := ⟨by decide +kernel, rfl⟩
theorem dX12_meet_77 : DD cX12_meet 77 (.ireturn) 1 78 := ⟨by decide +kernel, rfl⟩
theorem dX12_meet_78 : DD cX12_meet 78 (.aload_n 0) 1 79 := ⟨by decide +kernel, rfl⟩
theorem dX12_meet_79 : DD cX12_meet 79 (.getfield 88) 3 82 := ⟨by decide +kernel, rfl⟩
theorem dX12_meet_82 : DD cX12_meet 82 (.iload_n 1) 1 83 := ⟨by decide +kernel, rfl⟩
theorem dX12_meet_83 : DD cX12_meet 83 (.iaload) 1 84 := ⟨by decide +kernel, rfl⟩
theorem dX12_meet_84 : DD cX12_meet 84 (.ireturn) 1 85 := ⟨by decide +kernel, rfl⟩
theorem dX12_meet_85 : DD cX12_meet 85 (.aload_n 0) 1 86 := ⟨by decide +kernel, rfl⟩
theorem dX12_meet_86 : DD cX12_meet 86 (.getfield 91) 3 89 := ⟨by decide +kernel, rfl⟩
theorem dX12_meet_89 : DD cX12_meet 89 (.iload_n 1) 1 90 := ⟨by decide +kernel, rfl⟩
theorem dX12_meet_90 : DD cX12_meet 90 (.iaload) 1 91 := ⟨by decide +kernel, rfl⟩
theorem dX12_meet_91 : DD cX12_meet 91 (.ireturn) 1 92 := ⟨by decide +kernel, rfl⟩
theorem dX12_meet_92 : DD cX12_meet 92 (.aload_n 0) 1 93 := ⟨by decide +kernel, rfl⟩
theorem dX12_meet_93 : DD cX12_meet 93 (.getfield 115) 3 96 := ⟨by decide +kernel, rfl⟩
theorem dX12_meet_96 : DD cX12_meet 96 (.bipush 14) 2 98 := ⟨by decide +kernel, rfl⟩
theorem dX12_meet_98 : DD cX12_meet 98 (.iload_n 1) 1 99 := ⟨by decide +kernel, rfl⟩
theorem dX12_meet_99 : DD cX12_meet 99 (.iadd) 1 100 := ⟨by decide +kernel, rfl⟩
theorem dX12_meet_100 : DD cX12_meet 100 (.iaload) 1 101 := ⟨by decide +kernel, rfl⟩
theorem dX12_meet_101 : DD cX12_meet 101 (.ireturn) 1 102 := ⟨by decide +kernel, rfl⟩
theorem dX12_meet_102 : DD cX12_meet 102 (.aload_n 0) 1 103 := ⟨by decide +kernel, rfl⟩
theorem dX12_meet_103 : DD cX12_meet 103 (.getfield 115) 3 106 := ⟨by decide +kernel, rfl⟩
theorem dX12_meet_106 : DD cX12_meet 106 (.bipush 24) 2 108 := ⟨by decide +kernel, rfl⟩
theorem dX12_meet_108 : DD cX12_meet 108 (.iload_n 1) 1 109 := ⟨by decide +kernel, rfl⟩
theorem dX12_meet_109 : DD cX12_meet 109 (.iadd) 1 110 := ⟨by decide +kernel, rfl⟩
theorem dX12_meet_110 : DD cX12_meet 110 (.iaload) 1 111 := ⟨by decide +kernel, rfl⟩
theorem dX12_meet_111 : DD cX12_meet 111 (.ireturn) 1 112 := ⟨by decide +kernel, rfl⟩
theorem dX12_meet_112 : DD cX12_meet 112 (.aload_n 0) 1 113 := ⟨by decide +kernel, rfl⟩
theorem dX12_meet_113 : DD cX12_meet 113 (.iload_n 1) 1 114 := ⟨by decide +kernel, rfl⟩
theorem dX12_meet_114 : DD cX12_meet 114 (.invokevirtual 447) 3 117 := ⟨by decide +kernel, rfl⟩
theorem dX12_meet_117 : DD cX12_meet 117 (.invokestatic 322) 3 120 := ⟨by decide +kernel, rfl⟩
theorem dX12_meet_120 : DD cX12_meet 120 (.ireturn) 1 121 := ⟨by decide +kernel, rfl⟩
theorem dX12_meet_121 : DD cX12_meet 121 (.iconst (-1)) 1 122 := ⟨by decide +kernel, rfl⟩
theorem dX12_meet_122 : DD cX12_meet 122 (.ireturn) 1 123 := ⟨by decide +kernel, rfl⟩
def fX12_meet (m : Mem) (x1 : Int32) (x2 : Int32) : Option (Int32 × Mem) := (cP (fX12_isMeet m x1) fun r1 => (if r1 = 0 then (some ((-1 : Int32), m)) else (rd (m.1 33) 37 (36 : Int32) fun v4 => (cV (fX12_loadDate m v4) fun m6 => (if x2 = (0 : Int32) then (rd (m6.1 23) 10 x1 fun v8 => (some (v8, m6))) else (if x2 = (1 : Int32) then (rd (m6.1 24) 10 x1 fun v10 => (some (v10, m6))) else (if x2 = (2 : Int32) then (rd (m6.1 25) 10 x1 fun v12 => (some (v12, m6))) else (if x2 = (3 : Int32) then (rd (m6.1 26) 10 x1 fun v14 => (some (v14, m6))) else (if x2 = (4 : Int32) then (rd (m6.1 34) 37 ((14 : Int32) + x1) fun v16 => (some (v16, m6))) else (if x2 = (5 : Int32) then (rd (m6.1 34) 37 ((24 : Int32) + x1) fun v18 => (some (v18, m6))) else (if x2 = (6 : Int32) then (cP (fX12_canMeet m6 x1) fun r20 => (cP (fX12_truth r20) fun r22 => (some (r22, m6)))) else (some ((-1 : Int32), m6)))))))))))))
set_option maxHeartbeats 4000000 in
set_option maxRecDepth 100000 in
theorem kX12_meet (l : Launch) (G : Gt) (hD : ∀ m, va_D (inA G nM) (wM G m)) (m : Mem) (x1 : Int32) (x2 : Int32) : ∀ a, fX12_meet m x1 x2 = some a → Ct l G wM nM yX12_meet cX12_meet 3 (some .int) 7 [.ref (G.2.2 0), .int x1, .int x2] m (cvI a) := by
  refine ct_of (own := RX12) (ls0 := [some (.ref (G.2.2 0)), some (.int x1), some (.int x2)]) (by decide) rfl rfl rfl (Nat.le_of_ble_eq_true rfl) hD (fun X h => ?_) l
  unfold fX12_meet
  refine j_aload_n h dX12_meet_0 rfl ?_
  refine j_iload_n h dX12_meet_1 rfl ?_
  refine j_callVP (q0 := 0) (ci := 12) h [.int x1] (kX12_isMeet _ G h.2.2.2.2.2.2.2.2.2.2 m x1) okX12_isMeet inX12_isMeet ml12_459 rfl rfl rfl rfl (by decide) (by decide) (Nat.le_of_ble_eq_true rfl) rfl dX12_meet_2 (fun r1 hr1 => ?_)
  refine j_if_ne (tgt := 10) h dX12_meet_5 (by decide) (fun c3 => ?_) (fun c3 => ?_)
  · refine j_aload_n h dX12_meet_10 rfl ?_
    refine j_aload_n h dX12_meet_11 rfl ?_
    refine gM_55 h dX12_meet_12 ?_
    refine j_bipush (v := (36 : Int32)) h dX12_meet_15 kbipush_36 ?_
    refine aM_33 h dX12_meet_17 (fun v4 hv4 => ?_)
    refine j_callVV (q0 := 0) (ci := 12) h [.int v4] (kX12_loadDate _ G h.2.2.2.2.2.2.2.2.2.2 m v4) okX12_loadDate inX12_loadDate ml12_453 rfl rfl rfl rfl (by decide) (by decide) (Nat.le_of_ble_eq_true rfl) rfl dX12_meet_18 (fun m6 hm6 => ?_)
    refine j_iload_n h dX12_meet_21 rfl ?_
    by_cases c7 : x2 = (0 : Int32)
    · rw [if_pos c7]
      refine j_tabIn (off := 42) (tgt := 64) h c7 dX12_meet_22 (by decide) (by decide) (by decide) (by decide) ?_
      refine j_aload_n h dX12_meet_64 rfl ?_
      refine gM_37 h dX12_meet_65 ?_
      refine j_iload_n h dX12_meet_68 rfl ?_
      refine aM_23 h dX12_meet_69 (fun v8 hv8 => ?_)
      exact j_iret h rfl dX12_meet_70
    · rw [if_neg c7]
      by_cases c9 : x2 = (1 : Int32)
      · rw [if_pos c9]
        refine j_tabIn (off := 49) (tgt := 71) h c9 dX12_meet_22 (by decide) (by decide) (by decide) (by decide) ?_
        refine j_aload_n h dX12_meet_71 rfl ?_
        refine gM_38 h dX12_meet_72 ?_
        refine j_iload_n h dX12_meet_75 rfl ?_
        refine aM_24 h dX12_meet_76 (fun v10 hv10 => ?_)
        exact j_iret h rfl dX12_meet_77
      · rw [if_neg c9]
        by_cases c11 : x2 = (2 : Int32)
        · rw [if_pos c11]
          refine j_tabIn (off := 56) (tgt := 78) h c11 dX12_meet_22 (by decide) (by decide) (by decide) (by decide) ?_
          refine j_aload_n h dX12_meet_78 rfl ?_
          refine gM_39 h dX12_meet_79 ?_
          refine j_iload_n h dX12_meet_82 rfl ?_
          refine aM_25 h dX12_meet_83 (fun v12 hv12 => ?_)
          exact j_iret h rfl dX12_meet_84
        · rw [if_neg c11]
          by_cases c13 : x2 = (3 : Int32)
          · rw [if_pos c13]
            refine j_tabIn (off := 63) (tgt := 85) h c13 dX12_meet_22 (by decide) (by decide) (by decide) (by decide) ?_
            refine j_aload_n h dX12_meet_85 rfl ?_
            refine gM_40 h dX12_meet_86 ?_
            refine j_iload_n h dX12_meet_89 rfl ?_
            refine aM_26 h dX12_meet_90 (fun v14 hv14 => ?_)
            exact j_iret h rfl dX12_meet_91
          · rw [if_neg c13]
            by_cases c15 : x2 = (4 : Int32)
            · rw [if_pos c15]
              refine j_tabIn (off := 70) (tgt := 92) h c15 dX12_meet_22 (by decide) (by decide) (by decide) (by decide) ?_
              refine j_aload_n h dX12_meet_92 rfl ?_
              refine gM_56 h dX12_meet_93 ?_
              refine j_bipush (v := (14 : Int32)) h dX12_meet_96 kbipush_14 ?_
              refine j_iload_n h dX12_meet_98 rfl ?_
              refine j_iadd h dX12_meet_99 ?_
              refine aM_34 h dX12_meet_100 (fun v16 hv16 => ?_)
              exact j_iret h rfl dX12_meet_101
            · rw [if_neg c15]
              by_cases c17 : x2 = (5 : Int32)
              · rw [if_pos c17]
                refine j_tabIn (off := 80) (tgt := 102) h c17 dX12_meet_22 (by decide) (by decide) (by decide) (by decide) ?_
                refine j_aload_n h dX12_meet_102 rfl ?_
                refine gM_56 h dX12_meet_103 ?_
                refine j_bipush (v := (24 : Int32)) h dX12_meet_106 kbipush_24 ?_
                refine j_iload_n h dX12_meet_108 rfl ?_
                refine j_iadd h dX12_meet_109 ?_
                refine aM_34 h dX12_meet_110 (fun v18 hv18 => ?_)
                exact j_iret h rfl dX12_meet_111
              · rw [if_neg c17]
                by_cases c19 : x2 = (6 : Int32)
                · rw [if_pos c19]
                  refine j_tabIn (off := 90) (tgt := 112) h c19 dX12_meet_22 (by decide) (by decide) (by decide) (by decide) ?_
                  refine j_aload_n h dX12_meet_112 rfl ?_
                  refine j_iload_n h dX12_meet_113 rfl ?_
                  refine j_callVP (q0 := 0) (ci := 12) h [.int x1] (kX12_canMeet _ G h.2.2.2.2.2.2.2.2.2.2 m6 x1) okX12_canMeet inX12_canMeet ml12_447 rfl rfl rfl rfl (by decide) (by decide) (Nat.le_of_ble_eq_true rfl) rfl dX12_meet_114 (fun r20 hr20 => ?_)
                  refine j_callSP h [.int r20] (kX12_truth _ G h.2.2.2.2.2.2.2.2.2.2 m6 r20) okX12_truth stX12_truth ml12_322 rfl rfl (by decide) (by decide) (Nat.le_of_ble_eq_true rfl) rfl dX12_meet_117 (fun r22 hr22 => ?_)
                  exact j_iret h rfl dX12_meet_120
                · rw [if_neg c19]
                  refine j_tabOut (tgt := 121) h [(0 : Int32), (1 : Int32), (2 : Int32), (3 : Int32), (4 : Int32), (5 : Int32), (6 : Int32)] dX12_meet_22 (by intro v hv; simp only [List.mem_cons, List.not_mem_nil, or_false] at hv; rcases hv with rfl | rfl | rfl | rfl | rfl | rfl | rfl <;> assumption) (by decide) (by decide) (by decide) ?_
                  refine j_iconst (v := (-1 : Int32)) h dX12_meet_121 kiconst_m1 ?_
                  exact j_iret h rfl dX12_meet_122
  · refine j_iconst (v := (-1 : Int32)) h dX12_meet_8 kiconst_m1 ?_
    exact j_iret h rfl dX12_meet_9
theorem dX12_light_0 : DD cX12_light 0 (.iload_n 1) 1 1 := ⟨by decide +kernel, rfl⟩
theorem dX12_light_1 : DD cX12_light 1 (.invokestatic 462) 3 4 := ⟨by decide +kernel, rfl⟩
theorem dX12_light_4 : DD cX12_light 4 (.ifCond .ne 7) 3 7 := ⟨by decide +kernel, rfl⟩
theorem dX12_light_7 : DD cX12_light 7 (.iconst (-1)) 1 8 := ⟨by decide +kernel, rfl⟩
theorem dX12_light_8 : DD cX12_light 8 (.goto 29) 3 11 := ⟨by decide +kernel, rfl⟩
theorem dX12_light_11 : DD cX12_light 11 (.iload_n 2) 1 12 := ⟨by decide +kernel, rfl⟩
theorem dX12_light_12 : DD cX12_light 12 (.ifCond .ne 11) 3 15 := ⟨by decide +kernel, rfl⟩
theorem dX12_light_15 : DD cX12_light 15 (.aload_n 0) 1 16 := ⟨by decide +kernel, rfl⟩
theorem dX12_light_16 : DD cX12_light 16 (.iload_n 1) 1 17 := ⟨by decide +kernel, rfl⟩
theorem dX12_light_17 : DD cX12_light 17 (.invokevirtual 417) 3 20 := ⟨by decide +kernel, rfl⟩
theorem dX12_light_20 : DD cX12_light 20 (.goto 17) 3 23 := ⟨by decide +kernel, rfl⟩
theorem dX12_light_23 : DD cX12_light 23 (.iload_n 2) 1 24 := ⟨by decide +kernel, rfl⟩
theorem dX12_light_24 : DD cX12_light 24 (.iconst 1) 1 25 := ⟨by decide +kernel, rfl⟩
theorem dX12_light_25 : DD cX12_light 25 (.if_icmp .ne 11) 3 28 := ⟨by decide +kernel, rfl⟩
theorem dX12_light_28 : DD cX12_light 28 (.aload_n 0) 1 29 := ⟨by decide +kernel, rfl⟩
theorem dX12_light_29 : DD cX12_light 29 (.iload_n 1) 1 30 := ⟨by decide +kernel, rfl⟩
theorem dX12_light_30 : DD cX12_light 30 (.invokevirtual 420) 3 33 := ⟨by decide +kernel, rfl⟩
theorem dX12_light_33 : DD cX12_light 33 (.goto 4) 3 36 := ⟨by decide +kernel, rfl⟩
theorem dX12_light_36 : DD cX12_light 36 (.iconst (-1)) 1 37 := ⟨by decide +kernel, rfl⟩
theorem dX12_light_37 : DD cX12_light 37 (.ireturn) 1 38 := ⟨by decide +kernel, rfl⟩
def fX12_light (m : Mem) (x1 : Int32) (x2 : Int32) : Option (Int32 × Mem) := (cP (fX12_isDate x1) fun r1 => (if r1 = 0 then (some ((-1 : Int32), m)) else (if x2 = 0 then (cI (fX12_dawnOf m x1) fun r8 m9 => (some (r8, m9))) else (if x2 = (1 : Int32) then (cI (fX12_duskOf m x1) fun r6 m7 => (some (r6, m7))) else (some ((-1 : Int32), m))))))
set_option maxHeartbeats 4000000 in
set_option maxRecDepth 100000 in
theorem kX12_light (l : Launch) (G : Gt) (hD : ∀ m, va_D (inA G nM) (wM G m)) (m : Mem) (x1 : Int32) (x2 : Int32) : ∀ a, fX12_light m x1 x2 = some a → Ct l G wM nM yX12_light cX12_light 3 (some .int) 5 [.ref (G.2.2 0), .int x1, .int x2] m (cvI a) := by
  refine ct_of (own := RX12) (ls0 := [some (.ref (G.2.2 0)), some (.int x1), some (.int x2)]) (by decide) rfl rfl rfl (Nat.le_of_ble_eq_true rfl) hD (fun X h => ?_) l
  unfold fX12_light
  refine j_iload_n h dX12_light_0 rfl ?_
  refine j_callSP h [.int x1] (kX12_isDate _ G h.2.2.2.2.2.2.2.2.2.2 m x1) okX12_isDate stX12_isDate ml12_462 rfl rfl (by decide) (by decide) (Nat.le_of_ble_eq_true rfl) rfl dX12_light_1 (fun r1 hr1 => ?_)
  refine j_if_ne (tgt := 11) h dX12_light_4 (by decide) (fun c3 => ?_) (fun c3 => ?_)
  · refine j_iload_n h dX12_light_11 rfl ?_
    refine j_if_ne (tgt := 23) h dX12_light_12 (by decide) (fun c4 => ?_) (fun c4 => ?_)
    · refine j_iload_n h dX12_light_23 rfl ?_
      refine j_iconst (v := (1 : Int32)) h dX12_light_24 kiconst_1 ?_
      refine j_icmp_ne (tgt := 36) h dX12_light_25 (by decide) (fun c5 => ?_) (fun c5 => ?_)
      · refine j_iconst (v := (-1 : Int32)) h dX12_light_36 kiconst_m1 ?_
        exact j_iret h rfl dX12_light_37
      · refine j_aload_n h dX12_light_28 rfl ?_
        refine j_iload_n h dX12_light_29 rfl ?_
        refine j_callVI (q0 := 0) (ci := 12) h [.int x1] (kX12_duskOf _ G h.2.2.2.2.2.2.2.2.2.2 m x1) okX12_duskOf inX12_duskOf ml12_420 rfl rfl rfl rfl (by decide) (by decide) (Nat.le_of_ble_eq_true rfl) rfl dX12_light_30 (fun r6 m7 hr6 => ?_)
        refine j_goto (tgt := 37) h dX12_light_33 (by decide) ?_
        exact j_iret h rfl dX12_light_37
    · refine j_aload_n h dX12_light_15 rfl ?_
      refine j_iload_n h dX12_light_16 rfl ?_
      refine j_callVI (q0 := 0) (ci := 12) h [.int x1] (kX12_dawnOf _ G h.2.2.2.2.2.2.2.2.2.2 m x1) okX12_dawnOf inX12_dawnOf ml12_417 rfl rfl rfl rfl (by decide) (by decide) (Nat.le_of_ble_eq_true rfl) rfl dX12_light_17 (fun r8 m9 hr8 => ?_)
      refine j_goto (tgt := 37) h dX12_light_20 (by decide) ?_
      exact j_iret h rfl dX12_light_37
  · refine j_iconst (v := (-1 : Int32)) h dX12_light_7 kiconst_m1 ?_
    refine j_goto (tgt := 37) h dX12_light_8 (by decide) ?_
    exact j_iret h rfl dX12_light_37
theorem dX12_awake_0 : DD cX12_awake 0 (.iload_n 1) 1 1 := ⟨by decide +kernel, rfl⟩
theorem dX12_awake_1 : DD cX12_awake 1 (.invokestatic 462) 3 4 := ⟨by decide +kernel, rfl⟩
theorem dX12_awake_4 : DD cX12_awake 4 (.ifCond .eq 13) 3 7 := ⟨by decide +kernel, rfl⟩
theorem dX12_awake_7 : DD cX12_awake 7 (.iload_n 2) 1 8 := ⟨by decide +kernel, rfl⟩
theorem dX12_awake_8 : DD cX12_awake 8 (.iconst 0) 1 9 := ⟨by decide +kernel, rfl⟩
theorem dX12_awake_9 : DD cX12_awake 9 (.bipush 23) 2 11 := ⟨by decide +kernel, rfl⟩
theorem dX12_awake_11 : DD cX12_awake 11 (.invokestatic 402) 3 14 := ⟨by decide +kernel, rfl⟩
theorem dX12_awake_14 : DD cX12_awake 14 (.ifCond .ne 5) 3 17 := ⟨by decide +kernel, rfl⟩
theorem dX12_awake_17 : DD cX12_awake 17 (.iconst (-1)) 1 18 := ⟨by decide +kernel, rfl⟩
theorem dX12_awake_18 : DD cX12_awake 18 (.ireturn) 1 19 := ⟨by decide +kernel, rfl⟩
theorem dX12_awake_19 : DD cX12_awake 19 (.aload_n 0) 1 20 := ⟨by decide +kernel, rfl⟩
theorem dX12_awake_20 : DD cX12_awake 20 (.iload_n 1) 1 21 := ⟨by decide +kernel, rfl⟩
theorem dX12_awake_21 : DD cX12_awake 21 (.invokevirtual 453) 3 24 := ⟨by decide +kernel, rfl⟩
theorem dX12_awake_24 : DD cX12_awake 24 (.aload_n 0) 1 25 := ⟨by decide +kernel, rfl⟩
theorem dX12_awake_25 : DD cX12_awake 25 (.iload_n 2) 1 26 := ⟨by decide +kernel, rfl⟩
theorem dX12_awake_26 : DD cX12_awake 26 (.invokevirtual 465) 3 29 := ⟨by decide +kernel, rfl⟩
theorem dX12_awake_29 : DD cX12_awake 29 (.ireturn) 1 30 := ⟨by decide +kernel, rfl⟩
def fX12_awake (m : Mem) (x1 : Int32) (x2 : Int32) : Option (Int32 × Mem) := (cP (fX12_isDate x1) fun r1 => (if r1 = 0 then (some ((-1 : Int32), m)) else (cP (fX12_isIn x2 (0 : Int32) (23 : Int32)) fun r4 => (if r4 = 0 then (some ((-1 : Int32), m)) else (cV (fX12_loadDate m x1) fun m8 => (cP (fX12_awakeSet m8 x2) fun r9 => (some (r9, m8))))))))
set_option maxHeartbeats 4000000 in
set_option maxRecDepth 100000 in
theorem kX12_awake (l : Launch) (G : Gt) (hD : ∀ m, va_D (inA G nM) (wM G m)) (m : Mem) (x1 : Int32) (x2 : Int32) : ∀ a, fX12_awake m x1 x2 = some a → Ct l G wM nM yX12_awake cX12_awake 3 (some .int) 7 [.ref (G.2.2 0), .int x1, .int x2] m (cvI a) := by
  refine ct_of (own := RX12) (ls0 := [some (.ref (G.2.2 0)), some (.int x1), some (.int x2)]) (by decide) rfl rfl rfl (Nat.le_of_ble_eq_true rfl) hD (fun X h => ?_) l
  unfold fX12_awake
  refine j_iload_n h dX12_awake_0 rfl ?_
  refine j_callSP h [.int x1] (kX12_isDate _ G h.2.2.2.2.2.2.2.2.2.2 m x1) okX12_isDate stX12_isDate ml12_462 rfl rfl (by decide) (by decide) (Nat.le_of_ble_eq_true rfl) rfl dX12_awake_1 (fun r1 hr1 => ?_)
  refine j_if_eq (tgt := 17) h dX12_awake_4 (by decide) (fun c3 => ?_) (fun c3 => ?_)
  · refine j_iconst (v := (-1 : Int32)) h dX12_awake_17 kiconst_m1 ?_
    exact j_iret h rfl dX12_awake_18
  · refine j_iload_n h dX12_awake_7 rfl ?_
    refine j_iconst (v := (0 : Int32)) h dX12_awake_8 kiconst_0 ?_
    refine j_bipush (v := (23 : Int32)) h dX12_awake_9 kbipush_23 ?_
    refine j_callSP h [.int x2, .int (0 : Int32), .int (23 : Int32)] (kX12_isIn _ G h.2.2.2.2.2.2.2.2.2.2 m x2 (0 : Int32) (23 : Int32)) okX12_isIn stX12_isIn ml12_402 rfl rfl (by decide) (by decide) (Nat.le_of_ble_eq_true rfl) rfl dX12_awake_11 (fun r4 hr4 => ?_)
    refine j_if_ne (tgt := 19) h dX12_awake_14 (by decide) (fun c6 => ?_) (fun c6 => ?_)
    · refine j_aload_n h dX12_awake_19 rfl ?_
      refine j_iload_n h dX12_awake_20 rfl ?_
      refine j_callVV (q0 := 0) (ci := 12) h [.int x1] (kX12_loadDate _ G h.2.2.2.2.2.2.2.2.2.2 m x1) okX12_loadDate inX12_loadDate ml12_453 rfl rfl rfl rfl (by decide) (by decide) (Nat.le_of_ble_eq_true rfl) rfl dX12_awake_21 (fun m8 hm8 => ?_)
      refine j_aload_n h dX12_awake_24 rfl ?_
      refine j_iload_n h dX12_awake_25 rfl ?_
      refine j_callVP (q0 := 0) (ci := 12) h [.int x2] (kX12_awakeSet _ G h.2.2.2.2.2.2.2.2.2.2 m8 x2) okX12_awakeSet inX12_awakeSet ml12_465 rfl rfl rfl rfl (by decide) (by decide) (Nat.le_of_ble_eq_true rfl) rfl dX12_awake_26 (fun r9 hr9 => ?_)
      exact j_iret h rfl dX12_awake_29
    · refine j_iconst (v := (-1 : Int32)) h dX12_awake_17 kiconst_m1 ?_
      exact j_iret h rfl dX12_awake_18
theorem dX12_noise_0 : DD cX12_noise 0 (.aload_n 0) 1 1 := ⟨by decide +kernel, rfl⟩
theorem dX12_noise_1 : DD cX12_noise 1 (.iload_n 1) 1 2 := ⟨by decide +kernel, rfl⟩
theorem dX12_noise_2 : DD cX12_noise 2 (.invokevirtual 450) 3 5 := ⟨by decide +kernel, rfl⟩
theorem dX12_noise_5 : DD cX12_noise 5 (.ifCond .eq 13) 3 8 := ⟨by decide +kernel, rfl⟩
theorem dX12_noise_8 : DD cX12_noise 8 (.iload_n 2) 1 9 := ⟨by decide +kernel, rfl⟩
theorem dX12_noise_9 : DD cX12_noise 9 (.iconst 0) 1 10 := ⟨by decide +kernel, rfl⟩
theorem dX12_noise_10 : DD cX12_noise 10 (.bipush 23) 2 12 := ⟨by decide +kernel, rfl⟩
theorem dX12_noise_12 : DD cX12_noise 12 (.invokestatic 402) 3 15 := ⟨by decide +kernel, rfl⟩
theorem dX12_noise_15 : DD cX12_noise 15 (.ifCond .ne 5) 3 18 := ⟨by decide +kernel, rfl⟩
theorem dX12_noise_18 : DD cX12_noise 18 (.iconst (-1)) 1 19 := ⟨by decide +kernel, rfl⟩
theorem dX12_noise_19 : DD cX12_noise 19 (.ireturn) 1 20 := ⟨by decide +kernel, rfl⟩
theorem dX12_noise_20 : DD cX12_noise 20 (.iconst 0) 1 21 := ⟨by decide +kernel, rfl⟩
theorem dX12_noise_21 : DD cX12_noise 21 (.istore_n 3) 1 22 := ⟨by decide +kernel, rfl⟩
theorem dX12_noise_22 : DD cX12_noise 22 (.iconst 0) 1 23 := ⟨by decide +kernel, rfl⟩
theorem dX12_noise_23 : DD cX12_noise 23 (.istore 4) 2 25 := ⟨by decide +kernel, rfl⟩
theorem dX12_noise_25 : DD cX12_noise 25 (.iload 4) 2 27 := ⟨by decide +kernel, rfl⟩
theorem dX12_noise_27 : DD cX12_noise 27 (.aload_n 0) 1 28 := ⟨by decide +kernel, rfl⟩
theorem dX12_noise_28 : DD cX12_noise 28 (.getfield 384) 3 31 := ⟨by decide +kernel, rfl⟩
theorem dX12_noise_31 : DD cX12_noise 31 (.if_icmp .ge 43) 3 34 := ⟨by decide +kernel, rfl⟩
theorem dX12_noise_34 : DD cX12_noise 34 (.aload_n 0) 1 35 := ⟨by decide +kernel, rfl⟩
theorem dX12_noise_35 : DD cX12_noise 35 (.getfield 103) 3 38 := ⟨by decide +kernel, rfl⟩
theorem dX12_noise_38 : DD cX12_noise 38 (.iload 4) 2 40 := ⟨by decide +kernel, rfl⟩
theorem dX12_noise_40 : DD cX12_noise 40 (.iaload) 1 41 := ⟨by decide +kernel, rfl⟩
theorem dX12_noise_41 : DD cX12_noise 41 (.iload_n 1) 1 42 := ⟨by decide +kernel, rfl⟩
theorem dX12_noise_42 : DD cX12_noise 42 (.if_icmp .ne 24) 3 45 := ⟨by decide +kernel, rfl⟩
theorem dX12_noise_45 : DD cX12_noise 45 (.aload_n 0) 1 46 := ⟨by decide +kernel, rfl⟩
theorem dX12_noise_46 : DD cX12_noise 46 (.getfield 106) 3 49 := ⟨by decide +kernel, rfl⟩
theorem dX12_noise_49 : DD cX12_noise 49 (.iload 4) 2 51 := ⟨by decide +kernel, rfl⟩
theorem dX12_noise_51 : DD cX12_noise 51 (.iaload) 1 52 := ⟨by decide +kernel, rfl⟩
theorem dX12_noise_52 : DD cX12_noise 52 (.iload_n 2) 1 53 := ⟨by decide +kernel, rfl⟩
theorem dX12_noise_53 : DD cX12_noise 53 (.if_icmp .ne 13) 3 56 := ⟨by decide +kernel, rfl⟩
theorem dX12_noise_56 : DD cX12_noise 56 (.aload_n 0) 1 57 := ⟨by decide +kernel, rfl⟩
theorem dX12_noise_57 : DD cX12_noise 57 (.getfield 109) 3 60 := ⟨by decide +kernel, rfl⟩
theorem dX12_noise_60 : DD cX12_noise 60 (.iload 4) 2 62 := ⟨by decide +kernel, rfl⟩
theorem dX12_noise_62 : DD cX12_noise 62 (.iaload) 1 63 := ⟨by decide +kernel, rfl⟩
theorem dX12_noise_63 : DD cX12_noise 63 (.goto 4) 3 66 := ⟨by decide +kernel, rfl⟩
theorem dX12_noise_66 : DD cX12_noise 66 (.iload_n 3) 1 67 := ⟨by decide +kernel, rfl⟩
theorem dX12_noise_67 : DD cX12_noise 67 (.istore_n 3) 1 68 := ⟨by decide +kernel, rfl⟩
theorem dX12_noise_68 : DD cX12_noise 68 (.iinc 4 1) 3 71 := ⟨by decide +kernel, rfl⟩
theorem dX12_noise_71 : DD cX12_noise 71 (.goto (-46)) 3 74 := ⟨by decide +kernel, rfl⟩
theorem dX12_noise_74 : DD cX12_noise 74 (.iload_n 3) 1 75 := ⟨by decide +kernel, rfl⟩
theorem dX12_noise_75 : DD cX12_noise 75 (.ireturn) 1 76 := ⟨by decide +kernel, rfl⟩
def gX12_noise (m : Mem) : Nat → Int32 → Int32 → Int32 → Int32 → Option Int32
  | 0, _, _, _, _ => none
  | f + 1, x1, x2, x3, x4 => (if (m.1 0 53) ≤ x4 then (some x3) else (rd (m.1 30) 8 x4 fun v2 => (if v2 = x1 then (rd (m.1 31) 8 x4 fun v4 => (if v4 = x2 then (rd (m.1 32) 8 x4 fun v6 => (gX12_noise m f x1 x2 v6 (x4 + (1 : Int32)))) else (gX12_noise m f x1 x2 x3 (x4 + (1 : Int32))))) else (gX12_noise m f x1 x2 x3 (x4 + (1 : Int32))))))
def fX12_noise (m : Mem) (x1 : Int32) (x2 : Int32) : Option Int32 := (cP (fX12_isPerson m x1) fun r1 => (if r1 = 0 then (some (-1 : Int32)) else (cP (fX12_isIn x2 (0 : Int32) (23 : Int32)) fun r4 => (if r4 = 0 then (some (-1 : Int32)) else (gX12_noise m 5000 x1 x2 (0 : Int32) (0 : Int32))))))
set_option maxHeartbeats 4000000 in
set_option maxRecDepth 100000 in
theorem wX12_noise {X : Cx} {G : Gt} (h : OkX (X, G, wM, nM) cX12_noise RX12 5 (some .int) 3) (m : Mem) : ∀ f : Nat, (∀ (x1 : Int32) (x2 : Int32) (x3 : Int32) (x4 : Int32), JR (X, G, wM, nM) (cvP m) m 25 [some (.ref (G.2.2 0)), some (.int x1), some (.int x2), some (.int x3), some (.int x4)] [] (gX12_noise m f x1 x2 x3 x4)) := by
  intro f
  induction f with
  | zero => exact (fun _ _ _ _ => j_none)
  | succ f ih =>
    intro x1 x2 x3 x4
    rw [gX12_noise]
    refine j_iload h dX12_noise_25 rfl ?_
    refine j_aload_n h dX12_noise_27 rfl ?_
    refine gM_53 h dX12_noise_28 ?_
    refine j_icmp_ge (tgt := 74) h dX12_noise_31 (by decide) (fun c1 => ?_) (fun c1 => ?_)
    · refine j_iload_n h dX12_noise_74 rfl ?_
      exact j_iret h rfl dX12_noise_75
    · refine j_aload_n h dX12_noise_34 rfl ?_
      refine gM_44 h dX12_noise_35 ?_
      refine j_iload h dX12_noise_38 rfl ?_
      refine aM_30 h dX12_noise_40 (fun v2 hv2 => ?_)
      refine j_iload_n h dX12_noise_41 rfl ?_
      refine j_icmp_ne (tgt := 66) h dX12_noise_42 (by decide) (fun c3 => ?_) (fun c3 => ?_)
      · refine j_iload_n h dX12_noise_66 rfl ?_
        refine j_istore_n h dX12_noise_67 rfl rfl ?_
        refine j_iinc (v := (x4 + (1 : Int32))) h dX12_noise_68 rfl (by rw [kiconst_1]) rfl ?_
        refine j_goto (tgt := 25) h dX12_noise_71 (by decide) ?_
        refine j_wk (ls' := [some (.ref (G.2.2 0)), some (.int x1), some (.int x2), some (.int x3), some (.int (x4 + (1 : Int32)))]) (And.intro rfl (And.intro rfl (And.intro rfl (And.intro rfl (And.intro rfl trivial))))) ?_
        exact ih x1 x2 x3 (x4 + (1 : Int32))
      · refine j_aload_n h dX12_noise_45 rfl ?_
        refine gM_45 h dX12_noise_46 ?_
        refine j_iload h dX12_noise_49 rfl ?_
        refine aM_31 h dX12_noise_51 (fun v4 hv4 => ?_)
        refine j_iload_n h dX12_noise_52 rfl ?_
        refine j_icmp_ne (tgt := 66) h dX12_noise_53 (by decide) (fun c5 => ?_) (fun c5 => ?_)
        · refine j_iload_n h dX12_noise_66 rfl ?_
          refine j_istore_n h dX12_noise_67 rfl rfl ?_
          refine j_iinc (v := (x4 + (1 : Int32))) h dX12_noise_68 rfl (by rw [kiconst_1]) rfl ?_
          refine j_goto (tgt := 25) h dX12_noise_71 (by decide) ?_
          refine j_wk (ls' := [some (.ref (G.2.2 0)), some (.int x1), some (.int x2), some (.int x3), some (.int (x4 + (1 : Int32)))]) (And.intro rfl (And.intro rfl (And.intro rfl (And.intro rfl (And.intro rfl trivial))))) ?_
          exact ih x1 x2 x3 (x4 + (1 : Int32))
        · refine j_aload_n h dX12_noise_56 rfl ?_
          refine gM_46 h dX12_noise_57 ?_
          refine j_iload h dX12_noise_60 rfl ?_
          refine aM_32 h dX12_noise_62 (fun v6 hv6 => ?_)
          refine j_goto (tgt := 67) h dX12_noise_63 (by decide) ?_
          refine j_istore_n h dX12_noise_67 rfl rfl ?_
          refine j_iinc (v := (x4 + (1 : Int32))) h dX12_noise_68 rfl (by rw [kiconst_1]) rfl ?_
          refine j_goto (tgt := 25) h dX12_noise_71 (by decide) ?_
          refine j_wk (ls' := [some (.ref (G.2.2 0)), some (.int x1), some (.int x2), some (.int v6), some (.int (x4 + (1 : Int32)))]) (And.intro rfl (And.intro rfl (And.intro rfl (And.intro rfl (And.intro rfl trivial))))) ?_
          exact ih x1 x2 v6 (x4 + (1 : Int32))
set_option maxHeartbeats 4000000 in
set_option maxRecDepth 100000 in
theorem kX12_noise (l : Launch) (G : Gt) (hD : ∀ m, va_D (inA G nM) (wM G m)) (m : Mem) (x1 : Int32) (x2 : Int32) : ∀ a, fX12_noise m x1 x2 = some a → Ct l G wM nM yX12_noise cX12_noise 5 (some .int) 3 [.ref (G.2.2 0), .int x1, .int x2] m ((cvP m) a) := by
  refine ct_of (own := RX12) (ls0 := [some (.ref (G.2.2 0)), some (.int x1), some (.int x2), none, none]) (by decide) rfl rfl rfl (Nat.le_of_ble_eq_true rfl) hD (fun X h => ?_) l
  unfold fX12_noise
  refine j_aload_n h dX12_noise_0 rfl ?_
  refine j_iload_n h dX12_noise_1 rfl ?_
  refine j_callVP (q0 := 0) (ci := 12) h [.int x1] (kX12_isPerson _ G h.2.2.2.2.2.2.2.2.2.2 m x1) okX12_isPerson inX12_isPerson ml12_450 rfl rfl rfl rfl (by decide) (by decide) (Nat.le_of_ble_eq_true rfl) rfl dX12_noise_2 (fun r1 hr1 => ?_)
  refine j_if_eq (tgt := 18) h dX12_noise_5 (by decide) (fun c3 => ?_) (fun c3 => ?_)
  · refine j_iconst (v := (-1 : Int32)) h dX12_noise_18 kiconst_m1 ?_
    exact j_iret h rfl dX12_noise_19
  · refine j_iload_n h dX12_noise_8 rfl ?_
    refine j_iconst (v := (0 : Int32)) h dX12_noise_9 kiconst_0 ?_
    refine j_bipush (v := (23 : Int32)) h dX12_noise_10 kbipush_23 ?_
    refine j_callSP h [.int x2, .int (0 : Int32), .int (23 : Int32)] (kX12_isIn _ G h.2.2.2.2.2.2.2.2.2.2 m x2 (0 : Int32) (23 : Int32)) okX12_isIn stX12_isIn ml12_402 rfl rfl (by decide) (by decide) (Nat.le_of_ble_eq_true rfl) rfl dX12_noise_12 (fun r4 hr4 => ?_)
    refine j_if_ne (tgt := 20) h dX12_noise_15 (by decide) (fun c6 => ?_) (fun c6 => ?_)
    · refine j_iconst (v := (0 : Int32)) h dX12_noise_20 kiconst_0 ?_
      refine j_istore_n h dX12_noise_21 rfl rfl ?_
      refine j_iconst (v := (0 : Int32)) h dX12_noise_22 kiconst_0 ?_
      refine j_istore h dX12_noise_23 rfl rfl ?_
      refine j_wk (ls' := [some (.ref (G.2.2 0)), some (.int x1), some (.int x2), some (.int (0 : Int32)), some (.int (0 : Int32))]) (And.intro rfl (And.intro rfl (And.intro rfl (And.intro rfl (And.intro rfl trivial))))) ?_
      exact (wX12_noise h m 5000) x1 x2 (0 : Int32) (0 : Int32)
    · refine j_iconst (v := (-1 : Int32)) h dX12_noise_18 kiconst_m1 ?_
      exact j_iret h rfl dX12_noise_19
theorem dX12_act_0 : DD cX12_act 0 (.aload_n 0) 1 1 := ⟨by decide +kernel, rfl⟩
theorem dX12_act_1 : DD cX12_act 1 (.getfield 390) 3 4 := ⟨by decide +kernel, rfl⟩
theorem dX12_act_4 : DD cX12_act 4 (.bipush 40) 2 6 := ⟨by decide +kernel, rfl⟩
theorem dX12_act_6 : DD cX12_act 6 (.if_icmp .ne 43) 3 9 := ⟨by decide +kernel, rfl⟩
theorem dX12_act_9 : DD cX12_act 9 (.iconst 0) 1 10 := ⟨by decide +kernel, rfl⟩
theorem dX12_act_10 : DD cX12_act 10 (.istore_n 1) 1 11 := ⟨by decide +kernel, rfl⟩
theorem dX12_act_11 : DD cX12_act 11 (.iload_n 1) 1 12 := ⟨by decide +kernel, rfl⟩
theorem dX12_act_12 : DD cX12_act 12 (.sipush 1443) 3 15 := ⟨by decide +kernel, rfl⟩
theorem dX12_act_15 : DD cX12_act 15 (.if_icmp .ge 24) 3 18 := ⟨by decide +kernel, rfl⟩
theorem dX12_act_18 : DD cX12_act 18 (.aload_n 0) 1 19 := ⟨by decide +kernel, rfl⟩
theorem dX12_act_19 : DD cX12_act 19 (.getfield 124) 3 22 := ⟨by decide +kernel, rfl⟩
theorem dX12_act_22 : DD cX12_act 22 (.iload_n 1) 1 23 := ⟨by decide +kernel, rfl⟩
theorem dX12_act_23 : DD cX12_act 23 (.aload_n 0) 1 24 := ⟨by decide +kernel, rfl⟩
theorem dX12_act_24 : DD cX12_act 24 (.getfield 124) 3 27 := ⟨by decide +kernel, rfl⟩
theorem dX12_act_27 : DD cX12_act 27 (.bipush 37) 2 29 := ⟨by decide +kernel, rfl⟩
theorem dX12_act_29 : DD cX12_act 29 (.iload_n 1) 1 30 := ⟨by decide +kernel, rfl⟩
theorem dX12_act_30 : DD cX12_act 30 (.iadd) 1 31 := ⟨by decide +kernel, rfl⟩
theorem dX12_act_31 : DD cX12_act 31 (.iaload) 1 32 := ⟨by decide +kernel, rfl⟩
theorem dX12_act_32 : DD cX12_act 32 (.iastore) 1 33 := ⟨by decide +kernel, rfl⟩
theorem dX12_act_33 : DD cX12_act 33 (.iinc 1 1) 3 36 := ⟨by decide +kernel, rfl⟩
theorem dX12_act_36 : DD cX12_act 36 (.goto (-25)) 3 39 := ⟨by decide +kernel, rfl⟩
theorem dX12_act_39 : DD cX12_act 39 (.aload_n 0) 1 40 := ⟨by decide +kernel, rfl⟩
theorem dX12_act_40 : DD cX12_act 40 (.dup) 1 41 := ⟨by decide +kernel, rfl⟩
theorem dX12_act_41 : DD cX12_act 41 (.getfield 390) 3 44 := ⟨by decide +kernel, rfl⟩
theorem dX12_act_44 : DD cX12_act 44 (.iconst 1) 1 45 := ⟨by decide +kernel, rfl⟩
theorem dX12_act_45 : DD cX12_act 45 (.isub) 1 46 := ⟨by decide +kernel, rfl⟩
theorem dX12_act_46 : DD cX12_act 46 (.putfield 390) 3 49 := ⟨by decide +kernel, rfl⟩
theorem dX12_act_49 : DD cX12_act 49 (.iconst 0) 1 50 := ⟨by decide +kernel, rfl⟩
theorem dX12_act_50 : DD cX12_act 50 (.istore_n 1) 1 51 := ⟨by decide +kernel, rfl⟩
theorem dX12_act_51 : DD cX12_act 51 (.iload_n 1) 1 52 := ⟨by decide +kernel, rfl⟩
theorem dX12_act_52 : DD cX12_act 52 (.bipush 37) 2 54 := ⟨by decide +kernel, rfl⟩
theorem dX12_act_54 : DD cX12_act 54 (.if_icmp .ge 29) 3 57 := ⟨by decide +kernel, rfl⟩
theorem dX12_act_57 : DD cX12_act 57 (.aload_n 0) 1 58 := ⟨by decide +kernel, rfl⟩
theorem dX12_act_58 : DD cX12_act 58 (.getfield 124) 3 61 := ⟨by decide +kernel, rfl⟩
theorem dX12_act_61 : DD cX12_act 61 (.bipush 37) 2 63 := ⟨by decide +kernel, rfl⟩
theorem dX12_act_63 : DD cX12_act 63 (.aload_n 0) 1 64 := ⟨by decide +kernel, rfl⟩
theorem dX12_act_64 : DD cX12_act 64 (.getfield 390) 3 67 := ⟨by decide +kernel, rfl⟩
theorem dX12_act_67 : DD cX12_act 67 (.imul) 1 68 := ⟨by decide +kernel, rfl⟩
theorem dX12_act_68 : DD cX12_act 68 (.iload_n 1) 1 69 := ⟨by decide +kernel, rfl⟩
theorem dX12_act_69 : DD cX12_act 69 (.iadd) 1 70 := ⟨by decide +kernel, rfl⟩
theorem dX12_act_70 : DD cX12_act 70 (.aload_n 0) 1 71 := ⟨by decide +kernel, rfl⟩
theorem dX12_act_71 : DD cX12_act 71 (.getfield 112) 3 74 := ⟨by decide +kernel, rfl⟩
theorem dX12_act_74 : DD cX12_act 74 (.iload_n 1) 1 75 := ⟨by decide +kernel, rfl⟩
theorem dX12_act_75 : DD cX12_act 75 (.iaload) 1 76 := ⟨by decide +kernel, rfl⟩
theorem dX12_act_76 : DD cX12_act 76 (.iastore) 1 77 := ⟨by decide +kernel, rfl⟩
theorem dX12_act_77 : DD cX12_act 77 (.iinc 1 1) 3 80 := ⟨by decide +kernel, rfl⟩
theorem dX12_act_80 : DD cX12_act 80 (.goto (-29)) 3 83 := ⟨by decide +kernel, rfl⟩
theorem dX12_act_83 : DD cX12_act 83 (.aload_n 0) 1 84 := ⟨by decide +kernel, rfl⟩
theorem dX12_act_84 : DD cX12_act 84 (.dup) 1 85 := ⟨by decide +kernel, rfl⟩
theorem dX12_act_85 : DD cX12_act 85 (.getfield 390) 3 88 := ⟨by decide +kernel, rfl⟩
theorem dX12_act_88 : DD cX12_act 88 (.iconst 1) 1 89 := ⟨by decide +kernel, rfl⟩
theorem dX12_act_89 : DD cX12_act 89 (.iadd) 1 90 := ⟨by decide +kernel, rfl⟩
theorem dX12_act_90 : DD cX12_act 90 (.putfield 390) 3 93 := ⟨by decide +kernel, rfl⟩
theorem dX12_act_93 : DD cX12_act 93 (.aload_n 0) 1 94 := ⟨by decide +kernel, rfl⟩
theorem dX12_act_94 : DD cX12_act 94 (.iconst 0) 1 95 := ⟨by decide +kernel, rfl⟩
theorem dX12_act_95 : DD cX12_act 95 (.putfield 393) 3 98 := ⟨by decide +kernel, rfl⟩
theorem dX12_act_98 : DD cX12_act 98 (.return_) 1 99 := ⟨by decide +kernel, rfl⟩
def gX12_act : Nat → Nat → Int32 → Mem → Option Mem
  | 0, _, _, _ => none
  | f + 1, 0, x1, m => (if (1443 : Int32) ≤ x1 then (pt (sI m 0 60 ((m.1 0 60) - (1 : Int32))) fun m2 => (gX12_act f 1 (0 : Int32) m2)) else (rd (m.1 37) 1480 ((37 : Int32) + x1) fun v3 => (wr m 37 1480 x1 v3 fun m4 => (gX12_act f 0 (x1 + (1 : Int32)) m4))))
  | f + 1, 1, x1, m => (if (37 : Int32) ≤ x1 then (pt (sI m 0 60 ((m.1 0 60) + (1 : Int32))) fun m2 => (pt (sI m2 0 61 (0 : Int32)) fun m3 => (some m3))) else (rd (m.1 33) 37 x1 fun v4 => (wr m 37 1480 (((37 : Int32) * (m.1 0 60)) + x1) v4 fun m5 => (gX12_act f 1 (x1 + (1 : Int32)) m5))))
  | _ + 1, _ + 2, _, _ => none
def fX12_act (m : Mem) : Option Mem := (if (m.1 0 60) = (40 : Int32) then (gX12_act 5000 0 (0 : Int32) m) else (gX12_act 5000 1 (0 : Int32) m))
set_option maxHeartbeats 4000000 in
set_option maxRecDepth 100000 in
theorem wX12_act {X : Cx} {G : Gt} (h : OkX (X, G, wM, nM) cX12_act RX12 2 none 1) : ∀ f : Nat, (∀ (x1 : Int32) (m : Mem), JR (X, G, wM, nM) cvV m 11 [some (.ref (G.2.2 0)), some (.int x1)] [] (gX12_act f 0 x1 m)) ∧ (∀ (x1 : Int32) (m : Mem), JR (X, G, wM, nM) cvV m 51 [some (.ref (G.2.2 0)), some (.int x1)] [] (gX12_act f 1 x1 m)) := by
  intro f
  induction f with
  | zero => exact ⟨(fun _ _ => j_none), (fun _ _ => j_none)⟩
  | succ f ih =>
    refine ⟨?_, ?_⟩
    · intro x1 m
      rw [gX12_act]
      refine j_iload_n h dX12_act_11 rfl ?_
      refine j_sipush (v := (1443 : Int32)) h dX12_act_12 ksipush_1443 ?_
      refine j_icmp_ge (tgt := 39) h dX12_act_15 (by decide) (fun c1 => ?_) (fun c1 => ?_)
      · refine j_aload_n h dX12_act_39 rfl ?_
        refine j_dup h dX12_act_40 rfl ?_
        refine gM_60 h dX12_act_41 ?_
        refine j_iconst (v := (1 : Int32)) h dX12_act_44 kiconst_1 ?_
        refine j_isub h dX12_act_45 ?_
        refine pM_60 h dX12_act_46 (fun m2 hm2 => ?_)
        refine j_iconst (v := (0 : Int32)) h dX12_act_49 kiconst_0 ?_
        refine j_istore_n h dX12_act_50 rfl rfl ?_
        refine j_wk (ls' := [some (.ref (G.2.2 0)), some (.int (0 : Int32))]) (And.intro rfl (And.intro rfl trivial)) ?_
        exact ih.2 (0 : Int32) m2
      · refine j_aload_n h dX12_act_18 rfl ?_
        refine gM_59 h dX12_act_19 ?_
        refine j_iload_n h dX12_act_22 rfl ?_
        refine j_aload_n h dX12_act_23 rfl ?_
        refine gM_59 h dX12_act_24 ?_
        refine j_bipush (v := (37 : Int32)) h dX12_act_27 kbipush_37 ?_
        refine j_iload_n h dX12_act_29 rfl ?_
        refine j_iadd h dX12_act_30 ?_
        refine aM_37 h dX12_act_31 (fun v3 hv3 => ?_)
        refine bM_37 h dX12_act_32 (fun m4 hm4 => ?_)
        refine j_iinc (v := (x1 + (1 : Int32))) h dX12_act_33 rfl (by rw [kiconst_1]) rfl ?_
        refine j_goto (tgt := 11) h dX12_act_36 (by decide) ?_
        refine j_wk (ls' := [some (.ref (G.2.2 0)), some (.int (x1 + (1 : Int32)))]) (And.intro rfl (And.intro rfl trivial)) ?_
        exact ih.1 (x1 + (1 : Int32)) m4
    · intro x1 m
      rw [gX12_act]
      refine j_iload_n h dX12_act_51 rfl ?_
      refine j_bipush (v := (37 : Int32)) h dX12_act_52 kbipush_37 ?_
      refine j_icmp_ge (tgt := 83) h dX12_act_54 (by decide) (fun c1 => ?_) (fun c1 => ?_)
      · refine j_aload_n h dX12_act_83 rfl ?_
        refine j_dup h dX12_act_84 rfl ?_
        refine gM_60 h dX12_act_85 ?_
        refine j_iconst (v := (1 : Int32)) h dX12_act_88 kiconst_1 ?_
        refine j_iadd h dX12_act_89 ?_
        refine pM_60 h dX12_act_90 (fun m2 hm2 => ?_)
        refine j_aload_n h dX12_act_93 rfl ?_
        refine j_iconst (v := (0 : Int32)) h dX12_act_94 kiconst_0 ?_
        refine pM_61 h dX12_act_95 (fun m3 hm3 => ?_)
        exact j_vret h rfl dX12_act_98
      · refine j_aload_n h dX12_act_57 rfl ?_
        refine gM_59 h dX12_act_58 ?_
        refine j_bipush (v := (37 : Int32)) h dX12_act_61 kbipush_37 ?_
        refine j_aload_n h dX12_act_63 rfl ?_
        refine gM_60 h dX12_act_64 ?_
        refine j_imul h dX12_act_67 ?_
        refine j_iload_n h dX12_act_68 rfl ?_
        refine j_iadd h dX12_act_69 ?_
        refine j_aload_n h dX12_act_70 rfl ?_
        refine gM_55 h dX12_act_71 ?_
        refine j_iload_n h dX12_act_74 rfl ?_
        refine aM_33 h dX12_act_75 (fun v4 hv4 => ?_)
        refine bM_37 h dX12_act_76 (fun m5 hm5 => ?_)
        refine j_iinc (v := (x1 + (1 : Int32))) h dX12_act_77 rfl (by rw [kiconst_1]) rfl ?_
        refine j_goto (tgt := 51) h dX12_act_80 (by decide) ?_
        refine j_wk (ls' := [some (.ref (G.2.2 0)), some (.int (x1 + (1 : Int32)))]) (And.intro rfl (And.intro rfl trivial)) ?_
        exact ih.2 (x1 + (1 : Int32)) m5
set_option maxHeartbeats 4000000 in
set_option maxRecDepth 100000 in
theorem kX12_act (l : Launch) (G : Gt) (hD : ∀ m, va_D (inA G nM) (wM G m)) (m : Mem) : ∀ a, fX12_act m = some a → Ct l G wM nM yX12_act cX12_act 2 none 1 [.ref (G.2.2 0)] m (cvV a) := by
  refine ct_of (own := RX12) (ls0 := [some (.ref (G.2.2 0)), none]) (by decide) rfl rfl rfl (Nat.le_of_ble_eq_true rfl) hD (fun X h => ?_) l
  unfold fX12_act
  refine j_aload_n h dX12_act_0 rfl ?_
  refine gM_60 h dX12_act_1 ?_
  refine j_bipush (v := (40 : Int32)) h dX12_act_4 kbipush_40 ?_
  refine j_icmp_ne (tgt := 49) h dX12_act_6 (by decide) (fun c1 => ?_) (fun c1 => ?_)
  · refine j_iconst (v := (0 : Int32)) h dX12_act_49 kiconst_0 ?_
    refine j_istore_n h dX12_act_50 rfl rfl ?_
    refine j_wk (ls' := [some (.ref (G.2.2 0)), some (.int (0 : Int32))]) (And.intro rfl (And.intro rfl trivial)) ?_
    exact (wX12_act h 5000).2 (0 : Int32) m
  · refine j_iconst (v := (0 : Int32)) h dX12_act_9 kiconst_0 ?_
    refine j_istore_n h dX12_act_10 rfl rfl ?_
    refine j_wk (ls' := [some (.ref (G.2.2 0)), some (.int (0 : Int32))]) (And.intro rfl (And.intro rfl trivial)) ?_
    exact (wX12_act h 5000).1 (0 : Int32) m
theorem dX12_exchange_0 : DD cX12_exchange 0 (.iconst 0) 1 1 := ⟨by decide +kernel, rfl⟩
theorem dX12_exchange_1 : DD cX12_exchange 1 (.istore_n 2) 1 2 := ⟨by decide +kernel, rfl⟩
theorem dX12_exchange_2 : DD cX12_exchange 2 (.iload_n 2) 1 3 := ⟨by decide +kernel, rfl⟩
theorem dX12_exchange_3 : DD cX12_exchange 3 (.bipush 37) 2 5 := ⟨by decide +kernel, rfl⟩
theorem dX12_exchange_5 : DD cX12_exchange 5 (.if_icmp .ge 39) 3 8 := ⟨by decide +kernel, rfl⟩
theorem dX12_exchange_8 : DD cX12_exchange 8 (.aload_n 0) 1 9 := ⟨by decide +kernel, rfl⟩
theorem dX12_exchange_9 : DD cX12_exchange 9 (.getfield 124) 3 12 := ⟨by decide +kernel, rfl⟩
theorem dX12_exchange_12 : DD cX12_exchange 12 (.iload_n 1) 1 13 := ⟨by decide +kernel, rfl⟩
theorem dX12_exchange_13 : DD cX12_exchange 13 (.iload_n 2) 1 14 := ⟨by decide +kernel, rfl⟩
theorem dX12_exchange_14 : DD cX12_exchange 14 (.iadd) 1 15 := ⟨by decide +kernel, rfl⟩
theorem dX12_exchange_15 : DD cX12_exchange 15 (.iaload) 1 16 := ⟨by decide +kernel, rfl⟩
theorem dX12_exchange_16 : DD cX12_exchange 16 (.istore_n 3) 1 17 := ⟨by decide +kernel, rfl⟩
theorem dX12_exchange_17 : DD cX12_exchange 17 (.aload_n 0) 1 18 := ⟨by decide +kernel, rfl⟩
theorem dX12_exchange_18 : DD cX12_exchange 18 (.getfield 124) 3 21 := ⟨by decide +kernel, rfl⟩
theorem dX12_exchange_21 : DD cX12_exchange 21 (.iload_n 1) 1 22 := ⟨by decide +kernel, rfl⟩
theorem dX12_exchange_22 : DD cX12_exchange 22 (.iload_n 2) 1 23 := ⟨by decide +kernel, rfl⟩
theorem dX12_exchange_23 : DD cX12_exchange 23 (.iadd) 1 24 := ⟨by decide +kernel, rfl⟩
theorem dX12_exchange_24 : DD cX12_exchange 24 (.aload_n 0) 1 25 := ⟨by decide +kernel, rfl⟩
theorem dX12_exchange_25 : DD cX12_exchange 25 (.getfield 112) 3 28 := ⟨by decide +kernel, rfl⟩
theorem dX12_exchange_28 : DD cX12_exchange 28 (.iload_n 2) 1 29 := ⟨by decide +kernel, rfl⟩
theorem dX12_exchange_29 : DD cX12_exchange 29 (.iaload) 1 30 := ⟨by decide +kernel, rfl⟩
theorem dX12_exchange_30 : DD cX12_exchange 30 (.iastore) 1 31 := ⟨by decide +kernel, rfl⟩
theorem dX12_exchange_31 : DD cX12_exchange 31 (.aload_n 0) 1 32 := ⟨by decide +kernel, rfl⟩
theorem dX12_exchange_32 : DD cX12_exchange 32 (.getfield 112) 3 35 := ⟨by decide +kernel, rfl⟩
theorem dX12_exchange_35 : DD cX12_exchange 35 (.iload_n 2) 1 36 := ⟨by decide +kernel, rfl⟩
theorem dX12_exchange_36 : DD cX12_exchange 36 (.iload_n 3) 1 37 := ⟨by decide +kernel, rfl⟩
theorem dX12_exchange_37 : DD cX12_exchange 37 (.iastore) 1 38 := ⟨by decide +kernel, rfl⟩
theorem dX12_exchange_38 : DD cX12_exchange 38 (.iinc 2 1) 3 41 := ⟨by decide +kernel, rfl⟩
theorem dX12_exchange_41 : DD cX12_exchange 41 (.goto (-39)) 3 44 := ⟨by decide +kernel, rfl⟩
theorem dX12_exchange_44 : DD cX12_exchange 44 (.return_) 1 45 := ⟨by decide +kernel, rfl⟩
def gX12_exchange : Nat → Int32 → Int32 → Mem → Option Mem
  | 0, _, _, _ => none
  | f + 1, x1, x2, m => (if (37 : Int32) ≤ x2 then (some m) else (rd (m.1 37) 1480 (x1 + x2) fun v2 => (rd (m.1 33) 37 x2 fun v3 => (wr m 37 1480 (x1 + x2) v3 fun m4 => (wr m4 33 37 x2 v2 fun m5 => (gX12_exchange f x1 (x2 + (1 : Int32)) m5))))))
def fX12_exchange (m : Mem) (x1 : Int32) : Option Mem := (gX12_exchange 5000 x1 (0 : Int32) m)
set_option maxHeartbeats 4000000 in
set_option maxRecDepth 100000 in
theorem wX12_exchange {X : Cx} {G : Gt} (h : OkX (X, G, wM, nM) cX12_exchange RX12 4 none 1) : ∀ f : Nat, (∀ (x1 : Int32) (x2 : Int32) (m : Mem), JR (X, G, wM, nM) cvV m 2 [some (.ref (G.2.2 0)), some (.int x1), some (.int x2), none] [] (gX12_exchange f x1 x2 m)) := by
  intro f
  induction f with
  | zero => exact (fun _ _ _ => j_none)
  | succ f ih =>
    intro x1 x2 m
    rw [gX12_exchange]
    refine j_iload_n h dX12_exchange_2 rfl ?_
    refine j_bipush (v := (37 : Int32)) h dX12_exchange_3 kbipush_37 ?_
    refine j_icmp_ge (tgt := 44) h dX12_exchange_5 (by decide) (fun c1 => ?_) (fun c1 => ?_)
    · exact j_vret h rfl dX12_exchange_44
    · refine j_aload_n h dX12_exchange_8 rfl ?_
      refine gM_59 h dX12_exchange_9 ?_
      refine j_iload_n h dX12_exchange_12 rfl ?_
      refine j_iload_n h dX12_exchange_13 rfl ?_
      refine j_iadd h dX12_exchange_14 ?_
      refine aM_37 h dX12_exchange_15 (fun v2 hv2 => ?_)
      refine j_istore_n h dX12_exchange_16 rfl rfl ?_
      refine j_aload_n h dX12_exchange_17 rfl ?_
      refine gM_59 h dX12_exchange_18 ?_
      refine j_iload_n h dX12_exchange_21 rfl ?_
      refine j_iload_n h dX12_exchange_22 rfl ?_
      refine j_iadd h dX12_exchange_23 ?_
      refine j_aload_n h dX12_exchange_24 rfl ?_
      refine gM_55 h dX12_exchange_25 ?_
      refine j_iload_n h dX12_exchange_28 rfl ?_
      refine aM_33 h dX12_exchange_29 (fun v3 hv3 => ?_)
      refine bM_37 h dX12_exchange_30 (fun m4 hm4 => ?_)
      refine j_aload_n h dX12_exchange_31 rfl ?_
      refine gM_55 h dX12_exchange_32 ?_
      refine j_iload_n h dX12_exchange_35 rfl ?_
      refine j_iload_n h dX12_exchange_36 rfl ?_
      refine bM_33 h dX12_exchange_37 (fun m5 hm5 => ?_)
      refine j_iinc (v := (x2 + (1 : Int32))) h dX12_exchange_38 rfl (by rw [kiconst_1]) rfl ?_
      refine j_goto (tgt := 2) h dX12_exchange_41 (by decide) ?_
      refine j_wk (ls' := [some (.ref (G.2.2 0)), some (.int x1), some (.int (x2 + (1 : Int32))), none]) (And.intro rfl (And.intro rfl (And.intro rfl trivial))) ?_
      exact ih x1 (x2 + (1 : Int32)) m5
set_option maxHeartbeats 4000000 in
set_option maxRecDepth 100000 in
theorem kX12_exchange (l : Launch) (G : Gt) (hD : ∀ m, va_D (inA G nM) (wM G m)) (m : Mem) (x1 : Int32) : ∀ a, fX12_exchange m x1 = some a → Ct l G wM nM yX12_exchange cX12_exchange 4 none 1 [.ref (G.2.2 0), .int x1] m (cvV a) := by
  refine ct_of (own := RX12) (ls0 := [some (.ref (G.2.2 0)), some (.int x1), none, none]) (by decide) rfl rfl rfl (Nat.le_of_ble_eq_true rfl) hD (fun X h => ?_) l
  unfold fX12_exchange
  refine j_iconst (v := (0 : Int32)) h dX12_exchange_0 kiconst_0 ?_
  refine j_istore_n h dX12_exchange_1 rfl rfl ?_
  refine j_wk (ls' := [some (.ref (G.2.2 0)), some (.int x1), some (.int (0 : Int32)), none]) (And.intro rfl (And.intro rfl (And.intro rfl trivial))) ?_
  exact (wX12_exchange h 5000) x1 (0 : Int32) m
theorem dX12_go_0 : DD cX12_go 0 (.aload_n 0) 1 1 := ⟨by decide +kernel, rfl⟩
theorem dX12_go_1 : DD cX12_go 1 (.iload_n 1) 1 2 := ⟨by decide +kernel, rfl⟩
theorem dX12_go_2 : DD cX12_go 2 (.invokevirtual 450) 3 5 := ⟨by decide +kernel, rfl⟩
theorem dX12_go_5 : DD cX12_go 5 (.ifCond .eq 22) 3 8 := ⟨by decide +kernel, rfl⟩
theorem dX12_go_8 : DD cX12_go 8 (.iload_n 2) 1 9 := ⟨by decide +kernel, rfl⟩
theorem dX12_go_9 : DD cX12_go 9 (.iconst 0) 1 10 := ⟨by decide +kernel, rfl⟩
theorem dX12_go_10 : DD cX12_go 10 (.iconst 2) 1 11 := ⟨by decide +kernel, rfl⟩
theorem dX12_go_11 : DD cX12_go 11 (.invokestatic 402) 3 14 := ⟨by decide +kernel, rfl⟩
theorem dX12_go_14 : DD cX12_go 14 (.ifCond .eq 13) 3 17 := ⟨by decide +kernel, rfl⟩
theorem dX12_go_17 : DD cX12_go 17 (.aload_n 0) 1 18 := ⟨by decide +kernel, rfl⟩
theorem dX12_go_18 : DD cX12_go 18 (.getfield 112) 3 21 := ⟨by decide +kernel, rfl⟩
theorem dX12_go_21 : DD cX12_go 21 (.iload_n 1) 1 22 := ⟨by decide +kernel, rfl⟩
theorem dX12_go_22 : DD cX12_go 22 (.iaload) 1 23 := ⟨by decide +kernel, rfl⟩
theorem dX12_go_23 : DD cX12_go 23 (.iload_n 2) 1 24 := ⟨by decide +kernel, rfl⟩
theorem dX12_go_24 : DD cX12_go 24 (.if_icmp .ne 5) 3 27 := ⟨by decide +kernel, rfl⟩
theorem dX12_go_27 : DD cX12_go 27 (.iconst (-1)) 1 28 := ⟨by decide +kernel, rfl⟩
theorem dX12_go_28 : DD cX12_go 28 (.ireturn) 1 29 := ⟨by decide +kernel, rfl⟩
theorem dX12_go_29 : DD cX12_go 29 (.aload_n 0) 1 30 := ⟨by decide +kernel, rfl⟩
theorem dX12_go_30 : DD cX12_go 30 (.invokevirtual 468) 3 33 := ⟨by decide +kernel, rfl⟩
theorem dX12_go_33 : DD cX12_go 33 (.aload_n 0) 1 34 := ⟨by decide +kernel, rfl⟩
theorem dX12_go_34 : DD cX12_go 34 (.getfield 112) 3 37 := ⟨by decide +kernel, rfl⟩
theorem dX12_go_37 : DD cX12_go 37 (.iload_n 1) 1 38 := ⟨by decide +kernel, rfl⟩
theorem dX12_go_38 : DD cX12_go 38 (.iaload) 1 39 := ⟨by decide +kernel, rfl⟩
theorem dX12_go_39 : DD cX12_go 39 (.istore_n 3) 1 40 := ⟨by decide +kernel, rfl⟩
theorem dX12_go_40 : DD cX12_go 40 (.aload_n 0) 1 41 := ⟨by decide +kernel, rfl⟩
theorem dX12_go_41 : DD cX12_go 41 (.getfield 112) 3 44 := ⟨by decide +kernel, rfl⟩
theorem dX12_go_44 : DD cX12_go 44 (.iload_n 1) 1 45 := ⟨by decide +kernel, rfl⟩
theorem dX12_go_45 : DD cX12_go 45 (.iload_n 2) 1 46 := ⟨by decide +kernel, rfl⟩
theorem dX12_go_46 : DD cX12_go 46 (.iastore) 1 47 := ⟨by decide +kernel, rfl⟩
theorem dX12_go_47 : DD cX12_go 47 (.iload_n 3) 1 48 := ⟨by decide +kernel, rfl⟩
theorem dX12_go_48 : DD cX12_go 48 (.ireturn) 1 49 := ⟨by decide +kernel, rfl⟩
def fX12_go (m : Mem) (x1 : Int32) (x2 : Int32) : Option (Int32 × Mem) := (cP (fX12_isPerson m x1) fun r1 => (if r1 = 0 then (some ((-1 : Int32), m)) else (cP (fX12_isIn x2 (0 : Int32) (2 : Int32)) fun r4 => (if r4 = 0 then (some ((-1 : Int32), m)) else (rd (m.1 33) 37 x1 fun v7 => (if v7 = x2 then (some ((-1 : Int32), m)) else (cV (fX12_act m) fun m10 => (rd (m10.1 33) 37 x1 fun v11 => (wr m10 33 37 x1 x2 fun m12 => (some (v11, m12)))))))))))
set_option maxHeartbeats 4000000 in
set_option maxRecDepth 100000 in
theorem kX12_go (l : Launch) (G : Gt) (hD : ∀ m, va_D (inA G nM) (wM G m)) (m : Mem) (x1 : Int32) (x2 : Int32) : ∀ a, fX12_go m x1 x2 = some a → Ct l G wM nM yX12_go cX12_go 4 (some .int) 3 [.ref (G.2.2 0), .int x1, .int x2] m (cvI a) := by
  refine ct_of (own := RX12) (ls0 := [some (.ref (G.2.2 0)), some (.int x1), some (.int x2), none]) (by decide) rfl rfl rfl (Nat.le_of_ble_eq_true rfl) hD (fun X h => ?_) l
  unfold fX12_go
  refine j_aload_n h dX12_go_0 rfl ?_
  refine j_iload_n h dX12_go_1 rfl ?_
  refine j_callVP (q0 := 0) (ci := 12) h [.int x1] (kX12_isPerson _ G h.2.2.2.2.2.2.2.2.2.2 m x1) okX12_isPerson inX12_isPerson ml12_450 rfl rfl rfl rfl (by decide) (by decide) (Nat.le_of_ble_eq_true rfl) rfl dX12_go_2 (fun r1 hr1 => ?_)
  refine j_if_eq (tgt := 27) h dX12_go_5 (by decide) (fun c3 => ?_) (fun c3 => ?_)
  · refine j_iconst (v := (-1 : Int32)) h dX12_go_27 kiconst_m1 ?_
    exact j_iret h rfl dX12_go_28
  · refine j_iload_n h dX12_go_8 rfl ?_
    refine j_iconst (v := (0 : Int32)) h dX12_go_9 kiconst_0 ?_
    refine j_iconst (v := (2 : Int32)) h dX12_go_10 kiconst_2 ?_
    refine j_callSP h [.int x2, .int (0 : Int32), .int (2 : Int32)] (kX12_isIn _ G h.2.2.2.2.2.2.2.2.2.2 m x2 (0 : Int32) (2 : Int32)) okX12_isIn stX12_isIn ml12_402 rfl rfl (by decide) (by decide) (Nat.le_of_ble_eq_true rfl) rfl dX12_go_11 (fun r4 hr4 => ?_)
    refine j_if_eq (tgt := 27) h dX12_go_14 (by decide) (fun c6 => ?_) (fun c6 => ?_)
    · refine j_iconst (v := (-1 : Int32)) h dX12_go_27 kiconst_m1 ?_
      exact j_iret h rfl dX12_go_28
    · refine j_aload_n h dX12_go_17 rfl ?_
      refine gM_55 h dX12_go_18 ?_
      refine j_iload_n h dX12_go_21 rfl ?_
      refine aM_33 h dX12_go_22 (fun v7 hv7 => ?_)
      refine j_iload_n h dX12_go_23 rfl ?_
      refine j_icmp_ne (tgt := 29) h dX12_go_24 (by decide) (fun c8 => ?_) (fun c8 => ?_)
      · refine j_aload_n h dX12_go_29 rfl ?_
        refine j_callVV (q0 := 0) (ci := 12) h [] (kX12_act _ G h.2.2.2.2.2.2.2.2.2.2 m) okX12_act inX12_act ml12_468 rfl rfl rfl rfl (by decide) (by decide) (Nat.le_of_ble_eq_true rfl) rfl dX12_go_30 (fun m10 hm10 => ?_)
        refine j_aload_n h dX12_go_33 rfl ?_
        refine gM_55 h dX12_go_34 ?_
        refine j_iload_n h dX12_go_37 rfl ?_
        refine aM_33 h dX12_go_38 (fun v11 hv11 => ?_)
        refine j_istore_n h dX12_go_39 rfl rfl ?_
        refine j_aload_n h dX12_go_40 rfl ?_
        refine gM_55 h dX12_go_41 ?_
        refine j_iload_n h dX12_go_44 rfl ?_
        refine j_iload_n h dX12_go_45 rfl ?_
        refine bM_33 h dX12_go_46 (fun m12 hm12 => ?_)
        refine j_iload_n h dX12_go_47 rfl ?_
        exact j_iret h rfl dX12_go_48
      · refine j_iconst (v := (-1 : Int32)) h dX12_go_27 kiconst_m1 ?_
        exact j_iret h rfl dX12_go_28
theorem dX12_hush_0 : DD cX12_hush 0 (.aload_n 0) 1 1 := ⟨by decide +kernel, rfl⟩
theorem dX12_hush_1 : DD cX12_hush 1 (.iload_n 1) 1 2 := ⟨by decide +kernel, rfl⟩
theorem dX12_hush_2 : DD cX12_hush 2 (.invokevirtual 450) 3 5 := ⟨by decide +kernel, rfl⟩
theorem dX12_hush_5 : DD cX12_hush 5 (.ifCond .ne 5) 3 8 := ⟨by decide +kernel, rfl⟩
theorem dX12_hush_8 : DD cX12_hush 8 (.iconst (-1)) 1 9 := ⟨by decide +kernel, rfl⟩
theorem dX12_hush_9 : DD cX12_hush 9 (.ireturn) 1 10 := ⟨by decide +kernel, rfl⟩
theorem dX12_hush_10 : DD cX12_hush 10 (.aload_n 0) 1 11 := ⟨by decide +kernel, rfl⟩
theorem dX12_hush_11 : DD cX12_hush 11 (.invokevirtual 468) 3 14 := ⟨by decide +kernel, rfl⟩
theorem dX12_hush_14 : DD cX12_hush 14 (.aload_n 0) 1 15 := ⟨by decide +kernel, rfl⟩
theorem dX12_hush_15 : DD cX12_hush 15 (.getfield 112) 3 18 := ⟨by decide +kernel, rfl⟩
theorem dX12_hush_18 : DD cX12_hush 18 (.bipush 34) 2 20 := ⟨by decide +kernel, rfl⟩
theorem dX12_hush_20 : DD cX12_hush 20 (.dup2) 1 21 := ⟨by decide +kernel, rfl⟩
theorem dX12_hush_21 : DD cX12_hush 21 (.iaload) 1 22 := ⟨by decide +kernel, rfl⟩
theorem dX12_hush_22 : DD cX12_hush 22 (.iconst 1) 1 23 := ⟨by decide +kernel, rfl⟩
theorem dX12_hush_23 : DD cX12_hush 23 (.iload_n 1) 1 24 := ⟨by decide +kernel, rfl⟩
theorem dX12_hush_24 : DD cX12_hush 24 (.ishl) 1 25 := ⟨by decide +kernel, rfl⟩
theorem dX12_hush_25 : DD cX12_hush 25 (.ixor) 1 26 := ⟨by decide +kernel, rfl⟩
theorem dX12_hush_26 : DD cX12_hush 26 (.iastore) 1 27 := ⟨by decide +kernel, rfl⟩
theorem dX12_hush_27 : DD cX12_hush 27 (.aload_n 0) 1 28 := ⟨by decide +kernel, rfl⟩
theorem dX12_hush_28 : DD cX12_hush 28 (.getfield 112) 3 31 := ⟨by decide +kernel, rfl⟩
theorem dX12_hush_31 : DD cX12_hush 31 (.bipush 34) 2 33 := ⟨by decide +kernel, rfl⟩
theorem dX12_hush_33 : DD cX12_hush 33 (.iaload) 1 34 := ⟨by decide +kernel, rfl⟩
theorem dX12_hush_34 : DD cX12_hush 34 (.iload_n 1) 1 35 := ⟨by decide +kernel, rfl⟩
theorem dX12_hush_35 : DD cX12_hush 35 (.ishr) 1 36 := ⟨by decide +kernel, rfl⟩
theorem dX12_hush_36 : DD cX12_hush 36 (.iconst 1) 1 37 := ⟨by decide +kernel, rfl⟩
theorem dX12_hush_37 : DD cX12_hush 37 (.iand) 1 38 := ⟨by decide +kernel, rfl⟩
theorem dX12_hush_38 : DD cX12_hush 38 (.ireturn) 1 39 := ⟨by decide +kernel, rfl⟩
def fX12_hush (m : Mem) (x1 : Int32) : Option (Int32 × Mem) := (cP (fX12_isPerson m x1) fun r1 => (if r1 = 0 then (some ((-1 : Int32), m)) else (cV (fX12_act m) fun m5 => (rd (m5.1 33) 37 (34 : Int32) fun v6 => (wr m5 33 37 (34 : Int32) (v6 ^^^ ((1 : Int32) <<< (x1 &&& 31))) fun m7 => (rd (m7.1 33) 37 (34 : Int32) fun v8 => (some (((v8 >>> (x1 &&& 31)) &&& (1 : Int32)), m7))))))))
set_option maxHeartbeats 4000000 in
set_option maxRecDepth 100000 in
theorem kX12_hush (l : Launch) (G : Gt) (hD : ∀ m, va_D (inA G nM) (wM G m)) (m : Mem) (x1 : Int32) : ∀ a, fX12_hush m x1 = some a → Ct l G wM nM yX12_hush cX12_hush 2 (some .int) 3 [.ref (G.2.2 0), .int x1] m (cvI a) := by
  refine ct_of (own := RX12) (ls0 := [some (.ref (G.2.2 0)), some (.int x1)]) (by decide) rfl rfl rfl (Nat.le_of_ble_eq_true rfl) hD (fun X h => ?_) l
  unfold fX12_hush
  refine j_aload_n h dX12_hush_0 rfl ?_
  refine j_iload_n h dX12_hush_1 rfl ?_
  refine j_callVP (q0 := 0) (ci := 12) h [.int x1] (kX12_isPerson _ G h.2.2.2.2.2.2.2.2.2.2 m x1) okX12_isPerson inX12_isPerson ml12_450 rfl rfl rfl rfl (by decide) (by decide) (Nat.le_of_ble_eq_true rfl) rfl dX12_hush_2 (fun r1 hr1 => ?_)
  refine j_if_ne (tgt := 10) h dX12_hush_5 (by decide) (fun c3 => ?_) (fun c3 => ?_)
  · refine j_aload_n h dX12_hush_10 rfl ?_
    refine j_callVV (q0 := 0) (ci := 12) h [] (kX12_act _ G h.2.2.2.2.2.2.2.2.2.2 m) okX12_act inX12_act ml12_468 rfl rfl rfl rfl (by decide) (by decide) (Nat.le_of_ble_eq_true rfl) rfl dX12_hush_11 (fun m5 hm5 => ?_)
    refine j_aload_n h dX12_hush_14 rfl ?_
    refine gM_55 h dX12_hush_15 ?_
    refine j_bipush (v := (34 : Int32)) h dX12_hush_18 kbipush_34 ?_
    refine j_dup2 h dX12_hush_20 rfl rfl ?_
    refine aM_33 h dX12_hush_21 (fun v6 hv6 => ?_)
    refine j_iconst (v := (1 : Int32)) h dX12_hush_22 kiconst_1 ?_
    refine j_iload_n h dX12_hush_23 rfl ?_
    refine j_ishl h dX12_hush_24 ?_
    refine j_ixor h dX12_hush_25 ?_
    refine bM_33 h dX12_hush_26 (fun m7 hm7 => ?_)
    refine j_aload_n h dX12_hush_27 rfl ?_
    refine gM_55 h dX12_hush_28 ?_
    refine j_bipush (v := (34 : Int32)) h dX12_hush_31 kbipush_34 ?_
    refine aM_33 h dX12_hush_33 (fun v8 hv8 => ?_)
    refine j_iload_n h dX12_hush_34 rfl ?_
    refine j_ishr h dX12_hush_35 ?_
    refine j_iconst (v := (1 : Int32)) h dX12_hush_36 kiconst_1 ?_
    refine j_iand h dX12_hush_37 ?_
    exact j_iret h rfl dX12_hush_38
  · refine j_iconst (v := (-1 : Int32)) h dX12_hush_8 kiconst_m1 ?_
    exact j_iret h rfl dX12_hush_9
theorem dX12_goDate_0 : DD cX12_goDate 0 (.aload_n 0) 1 1 := ⟨by decide +kernel, rfl⟩
theorem dX12_goDate_1 : DD cX12_goDate 1 (.getfield 115) 3 4 := ⟨by decide +kernel, rfl⟩
theorem dX12_goDate_4 : DD cX12_goDate 4 (.bipush 35) 2 6 := ⟨by decide +kernel, rfl⟩
theorem dX12_goDate_6 : DD cX12_goDate 6 (.iconst 0) 1 7 := ⟨by decide +kernel, rfl⟩
theorem dX12_goDate_7 : DD cX12_goDate 7 (.iastore) 1 8 := ⟨by decide +kernel, rfl⟩
theorem dX12_goDate_8 : DD cX12_goDate 8 (.aload_n 0) 1 9 := ⟨by decide +kernel, rfl⟩
theorem dX12_goDate_9 : DD cX12_goDate 9 (.getfield 115) 3 12 := ⟨by decide +kernel, rfl⟩
theorem dX12_goDate_12 : DD cX12_goDate 12 (.bipush 36) 2 14 := ⟨by decide +kernel, rfl⟩
theorem dX12_goDate_14 : DD cX12_goDate 14 (.aload_n 0) 1 15 := ⟨by decide +kernel, rfl⟩
theorem dX12_goDate_15 : DD cX12_goDate 15 (.getfield 115) 3 18 := ⟨by decide +kernel, rfl⟩
theorem dX12_goDate_18 : DD cX12_goDate 18 (.bipush 36) 2 20 := ⟨by decide +kernel, rfl⟩
theorem dX12_goDate_20 : DD cX12_goDate 20 (.iaload) 1 21 := ⟨by decide +kernel, rfl⟩
theorem dX12_goDate_21 : DD cX12_goDate 21 (.iconst 1) 1 22 := ⟨by decide +kernel, rfl⟩
theorem dX12_goDate_22 : DD cX12_goDate 22 (.iadd) 1 23 := ⟨by decide +kernel, rfl⟩
theorem dX12_goDate_23 : DD cX12_goDate 23 (.sipush 365) 3 26 := ⟨by decide +kernel, rfl⟩
theorem dX12_goDate_26 : DD cX12_goDate 26 (.irem) 1 27 := ⟨by decide +kernel, rfl⟩
theorem dX12_goDate_27 : DD cX12_goDate 27 (.iastore) 1 28 := ⟨by decide +kernel, rfl⟩
theorem dX12_goDate_28 : DD cX12_goDate 28 (.iconst 0) 1 29 := ⟨by decide +kernel, rfl⟩
theorem dX12_goDate_29 : DD cX12_goDate 29 (.istore_n 1) 1 30 := ⟨by decide +kernel, rfl⟩
theorem dX12_goDate_30 : DD cX12_goDate 30 (.iload_n 1) 1 31 := ⟨by decide +kernel, rfl⟩
theorem dX12_goDate_31 : DD cX12_goDate 31 (.aload_n 0) 1 32 := ⟨by decide +kernel, rfl⟩
theorem dX12_goDate_32 : DD cX12_goDate 32 (.getfield 381) 3 35 := ⟨by decide +kernel, rfl⟩
theorem dX12_goDate_35 : DD cX12_goDate 35 (.if_icmp .ge 57) 3 38 := ⟨by decide +kernel, rfl⟩
theorem dX12_goDate_38 : DD cX12_goDate 38 (.aload_n 0) 1 39 := ⟨by decide +kernel, rfl⟩
theorem dX12_goDate_39 : DD cX12_goDate 39 (.getfield 115) 3 42 := ⟨by decide +kernel, rfl⟩
theorem dX12_goDate_42 : DD cX12_goDate 42 (.bipush 24) 2 44 := ⟨by decide +kernel, rfl⟩
theorem dX12_goDate_44 : DD cX12_goDate 44 (.iload_n 1) 1 45 := ⟨by decide +kernel, rfl⟩
theorem dX12_goDate_45 : DD cX12_goDate 45 (.iadd) 1 46 := ⟨by decide +kernel, rfl⟩
theorem dX12_goDate_46 : DD cX12_goDate 46 (.dup2) 1 47 := ⟨by decide +kernel, rfl⟩
theorem dX12_goDate_47 : DD cX12_goDate 47 (.iaload) 1 48 := ⟨by decide +kernel, rfl⟩
theorem dX12_goDate_48 : DD cX12_goDate 48 (.aload_n 0) 1 49 := ⟨by decide +kernel, rfl⟩
theorem dX12_goDate_49 : DD cX12_goDate 49 (.getfield 115) 3 52 := ⟨by decide +kernel, rfl⟩
theorem dX12_goDate_52 : DD cX12_goDate 52 (.bipush 14) 2 54 := ⟨by decide +kernel, rfl⟩
theorem dX12_goDate_54 : DD cX12_goDate 54 (.iload_n 1) 1 55 := ⟨by decide +kernel, rfl⟩
theorem dX12_goDate_55 : DD cX12_goDate 55 (.iadd) 1 56 := ⟨by decide +kernel, rfl⟩
theorem dX12_goDate_56 : DD cX12_goDate 56 (.iaload) 1 57 := ⟨by decide +kernel, rfl⟩
theorem dX12_goDate_57 : DD cX12_goDate 57 (.aload_n 0) 1 58 := ⟨by decide +kernel, rfl⟩
theorem dX12_goDate_58 : DD cX12_goDate 58 (.getfield 88) 3 61 := ⟨by decide +kernel, rfl⟩
theorem dX12_goDate_61 : DD cX12_goDate 61 (.iload_n 1) 1 62 := ⟨by decide +kernel, rfl⟩
theorem dX12_goDate_62 : DD cX12_goDate 62 (.iaload) 1 63 := ⟨by decide +kernel, rfl⟩
theorem dX12_goDate_63 : DD cX12_goDate 63 (.if_icmp .lt 7) 3 66 := ⟨by decide +kernel, rfl⟩
theorem dX12_goDate_66 : DD cX12_goDate 66 (.iconst 1) 1 67 := ⟨by decide +kernel, rfl⟩
theorem dX12_goDate_67 : DD cX12_goDate 67 (.goto 4) 3 70 := ⟨by decide +kernel, rfl⟩
theorem dX12_goDate_70 : DD cX12_goDate 70 (.iconst 0) 1 71 := ⟨by decide +kernel, rfl⟩
theorem dX12_goDate_71 : DD cX12_goDate 71 (.invokestatic 322) 3 74 := ⟨by decide +kernel, rfl⟩
theorem dX12_goDate_74 : DD cX12_goDate 74 (.iadd) 1 75 := ⟨by decide +kernel, rfl⟩
theorem dX12_goDate_75 : DD cX12_goDate 75 (.iastore) 1 76 := ⟨by decide +kernel, rfl⟩
theorem dX12_goDate_76 : DD cX12_goDate 76 (.aload_n 0) 1 77 := ⟨by decide +kernel, rfl⟩
theorem dX12_goDate_77 : DD cX12_goDate 77 (.getfield 115) 3 80 := ⟨by decide +kernel, rfl⟩
theorem dX12_goDate_80 : DD cX12_goDate 80 (.bipush 14) 2 82 := ⟨by decide +kernel, rfl⟩
theorem dX12_goDate_82 : DD cX12_goDate 82 (.iload_n 1) 1 83 := ⟨by decide +kernel, rfl⟩
theorem dX12_goDate_83 : DD cX12_goDate 83 (.iadd) 1 84 := ⟨by decide +kernel, rfl⟩
theorem dX12_goDate_84 : DD cX12_goDate 84 (.iconst 0) 1 85 := ⟨by decide +kernel, rfl⟩
theorem dX12_goDate_85 : DD cX12_goDate 85 (.iastore) 1 86 := ⟨by decide +kernel, rfl⟩
theorem dX12_goDate_86 : DD cX12_goDate 86 (.iinc 1 1) 3 89 := ⟨by decide +kernel, rfl⟩
theorem dX12_goDate_89 : DD cX12_goDate 89 (.goto (-59)) 3 92 := ⟨by decide +kernel, rfl⟩
theorem dX12_goDate_92 : DD cX12_goDate 92 (.return_) 1 93 := ⟨by decide +kernel, rfl⟩
def gX12_goDate : Nat → Int32 → Mem → Option Mem
  | 0, _, _ => none
  | f + 1, x1, m => (if (m.1 0 52) ≤ x1 then (some m) else (nm ((24 : Int32) + x1) fun v2 => (rd (m.1 34) 37 v2 fun v3 => (rd (m.1 34) 37 ((14 : Int32) + x1) fun v4 => (rd (m.1 25) 10 x1 fun v5 => (if v4 < v5 then (cP (fX12_truth (0 : Int32)) fun r7 => (wr m 34 37 v2 (v3 + r7) fun m9 => (wr m9 34 37 ((14 : Int32) + x1) (0 : Int32) fun m10 => (gX12_goDate f (x1 + (1 : Int32)) m10)))) else (cP (fX12_truth (1 : Int32)) fun r11 => (wr m 34 37 v2 (v3 + r11) fun m13 => (wr m13 34 37 ((14 : Int32) + x1) (0 : Int32) fun m14 => (gX12_goDate f (x1 + (1 : Int32)) m14))))))))))
def fX12_goDate (m : Mem) : Option Mem := (wr m 34 37 (35 : Int32) (0 : Int32) fun m1 => (rd (m1.1 34) 37 (36 : Int32) fun v2 => (wr m1 34 37 (36 : Int32) ((v2 + (1 : Int32)) - (v2 + (1 : Int32)) / (365 : Int32) * (365 : Int32)) fun m3 => (gX12_goDate 5000 (0 : Int32) m3))))
set_option maxHeartbeats 4000000 in
set_option maxRecDepth 100000 in
theorem wX12_goDate {X : Cx} {G : Gt} (h : OkX (X, G, wM, nM) cX12_goDate RX12 2 none 2) : ∀ f : Nat, (∀ (x1 : Int32) (m : Mem), JR (X, G, wM, nM) cvV m 30 [some (.ref (G.2.2 0)), some (.int x1)] [] (gX12_goDate f x1 m)) := by
  intro f
  induction f with
  | zero => exact (fun _ _ => j_none)
  | succ f ih =>
    intro x1 m
    rw [gX12_goDate]
    refine j_iload_n h dX12_goDate_30 rfl ?_
    refine j_aload_n h dX12_goDate_31 rfl ?_
    refine gM_52 h dX12_goDate_32 ?_
    refine j_icmp_ge (tgt := 92) h dX12_goDate_35 (by decide) (fun c1 => ?_) (fun c1 => ?_)
    · exact j_vret h rfl dX12_goDate_92
    · refine j_aload_n h dX12_goDate_38 rfl ?_
      refine gM_56 h dX12_goDate_39 ?_
      refine j_bipush (v := (24 : Int32)) h dX12_goDate_42 kbipush_24 ?_
      refine j_iload_n h dX12_goDate_44 rfl ?_
      refine j_iadd h dX12_goDate_45 ?_
      refine j_nm (fun v2 hv2 => ?_)
      refine j_dup2 h dX12_goDate_46 rfl rfl ?_
      refine aM_34 h dX12_goDate_47 (fun v3 hv3 => ?_)
      refine j_aload_n h dX12_goDate_48 rfl ?_
      refine gM_56 h dX12_goDate_49 ?_
      refine j_bipush (v := (14 : Int32)) h dX12_goDate_52 kbipush_14 ?_
      refine j_iload_n h dX12_goDate_54 rfl ?_
      refine j_iadd h dX12_goDate_55 ?_
      refine aM_34 h dX12_goDate_56 (fun v4 hv4 => ?_)
      refine j_aload_n h dX12_goDate_57 rfl ?_
      refine gM_39 h dX12_goDate_58 ?_
      refine j_iload_n h dX12_goDate_61 rfl ?_
      refine aM_25 h dX12_goDate_62 (fun v5 hv5 => ?_)
      refine j_icmp_lt (tgt := 70) h dX12_goDate_63 (by decide) (fun c6 => ?_) (fun c6 => ?_)
      · refine j_iconst (v := (0 : Int32)) h dX12_goDate_70 kiconst_0 ?_
        refine j_callSP h [.int (0 : Int32)] (kX12_truth _ G h.2.2.2.2.2.2.2.2.2.2 m (0 : Int32)) okX12_truth stX12_truth ml12_322 rfl rfl (by decide) (by decide) (Nat.le_of_ble_eq_true rfl) rfl dX12_goDate_71 (fun r7 hr7 => ?_)
        refine j_iadd h dX12_goDate_74 ?_
        refine bM_34 h dX12_goDate_75 (fun m9 hm9 => ?_)
        refine j_aload_n h dX12_goDate_76 rfl ?_
        refine gM_56 h dX12_goDate_77 ?_
        refine j_bipush (v := (14 : Int32)) h dX12_goDate_80 kbipush_14 ?_
        refine j_iload_n h dX12_goDate_82 rfl ?_
        refine j_iadd h dX12_goDate_83 ?_
        refine j_iconst (v := (0 : Int32)) h dX12_goDate_84 kiconst_0 ?_
        refine bM_34 h dX12_goDate_85 (fun m10 hm10 => ?_)
        refine j_iinc (v := (x1 + (1 : Int32))) h dX12_goDate_86 rfl (by rw [kiconst_1]) rfl ?_
        refine j_goto (tgt := 30) h dX12_goDate_89 (by decide) ?_
        refine j_wk (ls' := [some (.ref (G.2.2 0)), some (.int (x1 + (1 : Int32)))]) (And.intro rfl (And.intro rfl trivial)) ?_
        exact ih (x1 + (1 : Int32)) m10
      · refine j_iconst (v := (1 : Int32)) h dX12_goDate_66 kiconst_1 ?_
        refine j_goto (tgt := 71) h dX12_goDate_67 (by decide) ?_
        refine j_callSP h [.int (1 : Int32)] (kX12_truth _ G h.2.2.2.2.2.2.2.2.2.2 m (1 : Int32)) okX12_truth stX12_truth ml12_322 rfl rfl (by decide) (by decide) (Nat.le_of_ble_eq_true rfl) rfl dX12_goDate_71 (fun r11 hr11 => ?_)
        refine j_iadd h dX12_goDate_74 ?_
        refine bM_34 h dX12_goDate_75 (fun m13 hm13 => ?_)
        refine j_aload_n h dX12_goDate_76 rfl ?_
        refine gM_56 h dX12_goDate_77 ?_
        refine j_bipush (v := (14 : Int32)) h dX12_goDate_80 kbipush_14 ?_
        refine j_iload_n h dX12_goDate_82 rfl ?_
        refine j_iadd h dX12_goDate_83 ?_
        refine j_iconst (v := (0 : Int32)) h dX12_goDate_84 kiconst_0 ?_
        refine bM_34 h dX12_goDate_85 (fun m14 hm14 => ?_)
        refine j_iinc (v := (x1 + (1 : Int32))) h dX12_goDate_86 rfl (by rw [kiconst_1]) rfl ?_
        refine j_goto (tgt := 30) h dX12_goDate_89 (by decide) ?_
        refine j_wk (ls' := [some (.ref (G.2.2 0)), some (.int (x1 + (1 : Int32)))]) (And.intro rfl (And.intro rfl trivial)) ?_
        exact ih (x1 + (1 : Int32)) m14
set_option maxHeartbeats 4000000 in
set_option maxRecDepth 100000 in
theorem kX12_goDate (l : Launch) (G : Gt) (hD : ∀ m, va_D (inA G nM) (wM G m)) (m : Mem) : ∀ a, fX12_goDate m = some a → Ct l G wM nM yX12_goDate cX12_goDate 2 none 2 [.ref (G.2.2 0)] m (cvV a) := by
  refine ct_of (own := RX12) (ls0 := [some (.ref (G.2.2 0)), none]) (by decide) rfl rfl rfl (Nat.le_of_ble_eq_true rfl) hD (fun X h => ?_) l
  unfold fX12_goDate
  refine j_aload_n h dX12_goDate_0 rfl ?_
  refine gM_56 h dX12_goDate_1 ?_
  refine j_bipush (v := (35 : Int32)) h dX12_goDate_4 kbipush_35 ?_
  refine j_iconst (v := (0 : Int32)) h dX12_goDate_6 kiconst_0 ?_
  refine bM_34 h dX12_goDate_7 (fun m1 hm1 => ?_)
  refine j_aload_n h dX12_goDate_8 rfl ?_
  refine gM_56 h dX12_goDate_9 ?_
  refine j_bipush (v := (36 : Int32)) h dX12_goDate_12 kbipush_36 ?_
  refine j_aload_n h dX12_goDate_14 rfl ?_
  refine gM_56 h dX12_goDate_15 ?_
  refine j_bipush (v := (36 : Int32)) h dX12_goDate_18 kbipush_36 ?_
  refine aM_34 h dX12_goDate_20 (fun v2 hv2 => ?_)
  refine j_iconst (v := (1 : Int32)) h dX12_goDate_21 kiconst_1 ?_
  refine j_iadd h dX12_goDate_22 ?_
  refine j_sipush (v := (365 : Int32)) h dX12_goDate_23 ksipush_365 ?_
  refine j_iremB h dX12_goDate_26 (by decide) ?_
  refine bM_34 h dX12_goDate_27 (fun m3 hm3 => ?_)
  refine j_iconst (v := (0 : Int32)) h dX12_goDate_28 kiconst_0 ?_
  refine j_istore_n h dX12_goDate_29 rfl rfl ?_
  refine j_wk (ls' := [some (.ref (G.2.2 0)), some (.int (0 : Int32))]) (And.intro rfl (And.intro rfl trivial)) ?_
  exact (wX12_goDate h 5000) (0 : Int32) m3
theorem dX12_hour_0 : DD cX12_hour 0 (.aload_n 0) 1 1 := ⟨by decide +kernel, rfl⟩
theorem dX12_hour_1 : DD cX12_hour 1 (.invokevirtual 468) 3 4 := ⟨by decide +kernel, rfl⟩
theorem dX12_hour_4 : DD cX12_hour 4 (.aload_n 0) 1 5 := ⟨by decide +kernel, rfl⟩
theorem dX12_hour_5 : DD cX12_hour 5 (.aload_n 0) 1 6 := ⟨by decide +kernel, rfl⟩
theorem dX12_hour_6 : DD cX12_hour 6 (.getfield 112) 3 9 := ⟨by decide +kernel, rfl⟩
theorem dX12_hour_9 : DD cX12_hour 9 (.bipush 36) 2 11 := ⟨by decide +kernel, rfl⟩
theorem dX12_hour_11 : DD cX12_hour 11 (.iaload) 1 12 := ⟨by decide +kernel, rfl⟩
theorem dX12_hour_12 : DD cX12_hour 12 (.invokevirtual 453) 3 15 := ⟨by decide +kernel, rfl⟩
theorem dX12_hour_15 : DD cX12_hour 15 (.aload_n 0) 1 16 := ⟨by decide +kernel, rfl⟩
theorem dX12_hour_16 : DD cX12_hour 16 (.getfield 115) 3 19 := ⟨by decide +kernel, rfl⟩
theorem dX12_hour_19 : DD cX12_hour 19 (.bipush 35) 2 21 := ⟨by decide +kernel, rfl⟩
theorem dX12_hour_21 : DD cX12_hour 21 (.iaload) 1 22 := ⟨by decide +kernel, rfl⟩
theorem dX12_hour_22 : DD cX12_hour 22 (.istore_n 1) 1 23 := ⟨by decide +kernel, rfl⟩
theorem dX12_hour_23 : DD cX12_hour 23 (.iconst 0) 1 24 := ⟨by decide +kernel, rfl⟩
theorem dX12_hour_24 : DD cX12_hour 24 (.istore_n 2) 1 25 := ⟨by decide +kernel, rfl⟩
theorem dX12_hour_25 : DD cX12_hour 25 (.iconst 0) 1 26 := ⟨by decide +kernel, rfl⟩
theorem dX12_hour_26 : DD cX12_hour 26 (.istore_n 3) 1 27 := ⟨by decide +kernel, rfl⟩
theorem dX12_hour_27 : DD cX12_hour 27 (.iload_n 3) 1 28 := ⟨by decide +kernel, rfl⟩
theorem dX12_hour_28 : DD cX12_hour 28 (.aload_n 0) 1 29 := ⟨by decide +kernel, rfl⟩
theorem dX12_hour_29 : DD cX12_hour 29 (.getfield 378) 3 32 := ⟨by decide +kernel, rfl⟩
theorem dX12_hour_32 : DD cX12_hour 32 (.if_icmp .ge 36) 3 35 := ⟨by decide +kernel, rfl⟩
theorem dX12_hour_35 : DD cX12_hour 35 (.aload_n 0) 1 36 := ⟨by decide +kernel, rfl⟩
theorem dX12_hour_36 : DD cX12_hour 36 (.getfield 115) 3 39 := ⟨by decide +kernel, rfl⟩
theorem dX12_hour_39 : DD cX12_hour 39 (.bipush 7) 2 41 := ⟨by decide +kernel, rfl⟩
theorem dX12_hour_41 : DD cX12_hour 41 (.iload_n 3) 1 42 := ⟨by decide +kernel, rfl⟩
theorem dX12_hour_42 : DD cX12_hour 42 (.iadd) 1 43 := ⟨by decide +kernel, rfl⟩
theorem dX12_hour_43 : DD cX12_hour 43 (.dup2) 1 44 := ⟨by decide +kernel, rfl⟩
theorem dX12_hour_44 : DD cX12_hour 44 (.iaload) 1 45 := ⟨by decide +kernel, rfl⟩
theorem dX12_hour_45 : DD cX12_hour 45 (.aload_n 0) 1 46 := ⟨by decide +kernel, rfl⟩
theorem dX12_hour_46 : DD cX12_hour 46 (.iload_n 3) 1 47 := ⟨by decide +kernel, rfl⟩
theorem dX12_hour_47 : DD cX12_hour 47 (.iload_n 1) 1 48 := ⟨by decide +kernel, rfl⟩
theorem dX12_hour_48 : DD cX12_hour 48 (.invokevirtual 456) 3 51 := ⟨by decide +kernel, rfl⟩
theorem dX12_hour_51 : DD cX12_hour 51 (.iadd) 1 52 := ⟨by decide +kernel, rfl⟩
theorem dX12_hour_52 : DD cX12_hour 52 (.iastore) 1 53 := ⟨by decide +kernel, rfl⟩
theorem dX12_hour_53 : DD cX12_hour 53 (.iload_n 2) 1 54 := ⟨by decide +kernel, rfl⟩
theorem dX12_hour_54 : DD cX12_hour 54 (.aload_n 0) 1 55 := ⟨by decide +kernel, rfl⟩
theorem dX12_hour_55 : DD cX12_hour 55 (.iload_n 3) 1 56 := ⟨by decide +kernel, rfl⟩
theorem dX12_hour_56 : DD cX12_hour 56 (.iload_n 1) 1 57 := ⟨by decide +kernel, rfl⟩
theorem dX12_hour_57 : DD cX12_hour 57 (.invokevirtual 456) 3 60 := ⟨by decide +kernel, rfl⟩
theorem dX12_hour_60 : DD cX12_hour 60 (.iadd) 1 61 := ⟨by decide +kernel, rfl⟩
theorem dX12_hour_61 : DD cX12_hour 61 (.istore_n 2) 1 62 := ⟨by decide +kernel, rfl⟩
theorem dX12_hour_62 : DD cX12_hour 62 (.iinc 3 1) 3 65 := ⟨by decide +kernel, rfl⟩
theorem dX12_hour_65 : DD cX12_hour 65 (.goto (-38)) 3 68 := ⟨by decide +kernel, rfl⟩
theorem dX12_hour_68 : DD cX12_hour 68 (.iconst 0) 1 69 := ⟨by decide +kernel, rfl⟩
theorem dX12_hour_69 : DD cX12_hour 69 (.istore_n 3) 1 70 := ⟨by decide +kernel, rfl⟩
theorem dX12_hour_70 : DD cX12_hour 70 (.iload_n 3) 1 71 := ⟨by decide +kernel, rfl⟩
theorem dX12_hour_71 : DD cX12_hour 71 (.aload_n 0) 1 72 := ⟨by decide +kernel, rfl⟩
theorem dX12_hour_72 : DD cX12_hour 72 (.getfield 381) 3 75 := ⟨by decide +kernel, rfl⟩
theorem dX12_hour_75 : DD cX12_hour 75 (.if_icmp .ge 57) 3 78 := ⟨by decide +kernel, rfl⟩
theorem dX12_hour_78 : DD cX12_hour 78 (.aload_n 0) 1 79 := ⟨by decide +kernel, rfl⟩
theorem dX12_hour_79 : DD cX12_hour 79 (.getfield 115) 3 82 := ⟨by decide +kernel, rfl⟩
theorem dX12_hour_82 : DD cX12_hour 82 (.bipush 14) 2 84 := ⟨by decide +kernel, rfl⟩
theorem dX12_hour_84 : DD cX12_hour 84 (.iload_n 3) 1 85 := ⟨by decide +kernel, rfl⟩
theorem dX12_hour_85 : DD cX12_hour 85 (.iadd) 1 86 := ⟨by decide +kernel, rfl⟩
theorem dX12_hour_86 : DD cX12_hour 86 (.dup2) 1 87 := ⟨by decide +kernel, rfl⟩
theorem dX12_hour_87 : DD cX12_hour 87 (.iaload) 1 88 := ⟨by decide +kernel, rfl⟩
theorem dX12_hour_88 : DD cX12_hour 88 (.aload_n 0) 1 89 := ⟨by decide +kernel, rfl⟩
theorem dX12_hour_89 : DD cX12_hour 89 (.aload_n 0) 1 90 := ⟨by decide +kernel, rfl⟩
theorem dX12_hour_90 : DD cX12_hour 90 (.getfield 82) 3 93 := ⟨by decide +kernel, rfl⟩
theorem dX12_hour_93 : DD cX12_hour 93 (.iload_n 3) 1 94 := ⟨by decide +kernel, rfl⟩
theorem dX12_hour_94 : DD cX12_hour 94 (.iaload) 1 95 := ⟨by decide +kernel, rfl⟩
theorem dX12_hour_95 : DD cX12_hour 95 (.iload_n 1) 1 96 := ⟨by decide +kernel, rfl⟩
theorem dX12_hour_96 : DD cX12_hour 96 (.invokevirtual 432) 3 99 := ⟨by decide +kernel, rfl⟩
theorem dX12_hour_99 : DD cX12_hour 99 (.ifCond .eq 21) 3 102 := ⟨by decide +kernel, rfl⟩
theorem dX12_hour_102 : DD cX12_hour 102 (.aload_n 0) 1 103 := ⟨by decide +kernel, rfl⟩
theorem dX12_hour_103 : DD cX12_hour 103 (.aload_n 0) 1 104 := ⟨by decide +kernel, rfl⟩
theorem dX12_hour_104 : DD cX12_hour 104 (.getfield 85) 3 107 := ⟨by decide +kernel, rfl⟩
theorem dX12_hour_107 : DD cX12_hour 107 (.iload_n 3) 1 108 := ⟨by decide +kernel, rfl⟩
theorem dX12_hour_108 : DD cX12_hour 108 (.iaload) 1 109 := ⟨by decide +kernel, rfl⟩
theorem dX12_hour_109 : DD cX12_hour 109 (.iload_n 1) 1 110 := ⟨by decide +kernel, rfl⟩
theorem dX12_hour_110 : DD cX12_hour 110 (.invokevirtual 432) 3 113 := ⟨by decide +kernel, rfl⟩
theorem dX12_hour_113 : DD cX12_hour 113 (.ifCond .eq 7) 3 116 := ⟨by decide +kernel, rfl⟩
theorem dX12_hour_116 : DD cX12_hour 116 (.iconst 1) 1 117 := ⟨by decide +kernel, rfl⟩
theorem dX12_hour_117 : DD cX12_hour 117 (.goto 4) 3 120 := ⟨by decide +kernel, rfl⟩
theorem dX12_hour_120 : DD cX12_hour 120 (.iconst 0) 1 121 := ⟨by decide +kernel, rfl⟩
theorem dX12_hour_121 : DD cX12_hour 121 (.invokestatic 322) 3 124 := ⟨by decide +kernel, rfl⟩
theorem dX12_hour_124 : DD cX12_hour 124 (.iadd) 1 125 := ⟨by decide +kernel, rfl⟩
theorem dX12_hour_125 : DD cX12_hour 125 (.iastore) 1 126 := ⟨by decide +kernel, rfl⟩
theorem dX12_hour_126 : DD cX12_hour 126 (.iinc 3 1) 3 129 := ⟨by decide +kernel, rfl⟩
theorem dX12_hour_129 : DD cX12_hour 129 (.goto (-59)) 3 132 := ⟨by decide +kernel, rfl⟩
theorem dX12_hour_132 : DD cX12_hour 132 (.aload_n 0) 1 133 := ⟨by decide +kernel, rfl⟩
theorem dX12_hour_133 : DD cX12_hour 133 (.getfield 115) 3 136 := ⟨by decide +kernel, rfl⟩
theorem dX12_hour_136 : DD cX12_hour 136 (.bipush 35) 2 138 := ⟨by decide +kernel, rfl⟩
theorem dX12_hour_138 : DD cX12_hour 138 (.dup2) 1 139 := ⟨by decide +kernel, rfl⟩
theorem dX12_hour_139 : DD cX12_hour 139 (.iaload) 1 140 := ⟨by decide +kernel, rfl⟩
theorem dX12_hour_140 : DD cX12_hour 140 (.iconst 1) 1 141 := ⟨by decide +kernel, rfl⟩
theorem dX12_hour_141 : DD cX12_hour 141 (.iadd) 1 142 := ⟨by decide +kernel, rfl⟩
theorem dX12_hour_142 : DD cX12_hour 142 (.iastore) 1 143 := ⟨by decide +kernel, rfl⟩
theorem dX12_hour_143 : DD cX12_hour 143 (.aload_n 0) 1 144 := ⟨by decide +kernel, rfl⟩
theorem dX12_hour_144 : DD cX12_hour 144 (.getfield 115) 3 147 := ⟨by decide +kernel, rfl⟩
theorem dX12_hour_147 : DD cX12_hour 147 (.bipush 35) 2 149 := ⟨by decide +kernel, rfl⟩
theorem dX12_hour_149 : DD cX12_hour 149 (.iaload) 1 150 := ⟨by decide +kernel, rfl⟩
theorem dX12_hour_150 : DD cX12_hour 150 (.bipush 24) 2 152 := ⟨by decide +kernel, rfl⟩
theorem dX12_hour_152 : DD cX12_hour 152 (.if_icmp .ne 7) 3 155 := ⟨by decide +kernel, rfl⟩
theorem dX12_hour_155 : DD cX12_hour 155 (.aload_n 0) 1 156 := ⟨by decide +kernel, rfl⟩
theorem dX12_hour_156 : DD cX12_hour 156 (.invokevirtual 471) 3 159 := ⟨by decide +kernel, rfl⟩
theorem dX12_hour_159 : DD cX12_hour 159 (.iconst 0) 1 160 := ⟨by decide +kernel, rfl⟩
theorem dX12_hour_160 : DD cX12_hour 160 (.istore_n 3) 1 161 := ⟨by decide +kernel, rfl⟩
theorem dX12_hour_161 : DD cX12_hour 161 (.iload_n 3) 1 162 := ⟨by decide +kernel, rfl⟩
theorem dX12_hour_162 : DD cX12_hour 162 (.bipush 37) 2 164 := ⟨by decide +kernel, rfl⟩
theorem dX12_hour_164 : DD cX12_hour 164 (.if_icmp .ge 21) 3 167 := ⟨by decide +kernel, rfl⟩
theorem dX12_hour_167 : DD cX12_hour 167 (.aload_n 0) 1 168 := ⟨by decide +kernel, rfl⟩
theorem dX12_hour_168 : DD cX12_hour 168 (.getfield 112) 3 171 := ⟨by decide +kernel, rfl⟩
theorem dX12_hour_171 : DD cX12_hour 171 (.iload_n 3) 1 172 := ⟨by decide +kernel, rfl⟩
theorem dX12_hour_172 : DD cX12_hour 172 (.aload_n 0) 1 173 := ⟨by decide +kernel, rfl⟩
theorem dX12_hour_173 : DD cX12_hour 173 (.getfield 115) 3 176 := ⟨by decide +kernel, rfl⟩
theorem dX12_hour_176 : DD cX12_hour 176 (.iload_n 3) 1 177 := ⟨by decide +kernel, rfl⟩
theorem dX12_hour_177 : DD cX12_hour 177 (.iaload) 1 178 := ⟨by decide +kernel, rfl⟩
theorem dX12_hour_178 : DD cX12_hour 178 (.iastore) 1 179 := ⟨by decide +kernel, rfl⟩
theorem dX12_hour_179 : DD cX12_hour 179 (.iinc 3 1) 3 182 := ⟨by decide +kernel, rfl⟩
theorem dX12_hour_182 : DD cX12_hour 182 (.goto (-21)) 3 185 := ⟨by decide +kernel, rfl⟩
theorem dX12_hour_185 : DD cX12_hour 185 (.iload_n 2) 1 186 := ⟨by decide +kernel, rfl⟩
theorem dX12_hour_186 : DD cX12_hour 186 (.ireturn) 1 187 := ⟨by decide +kernel, rfl⟩
def gX12_hour : Nat → Nat → Int32 → Int32 → Int32 → Mem → Option (Int32 × Mem)
  | 0, _, _, _, _, _ => none
  | f + 1, 0, x1, x2, x3, m => (if (m.1 0 51) ≤ x3 then (gX12_hour f 1 x1 x2 (0 : Int32) m) else (nm ((7 : Int32) + x3) fun v2 => (rd (m.1 34) 37 v2 fun v3 => (cP (fX12_harmAt m x3 x1) fun r4 => (wr m 34 37 v2 (v3 + r4) fun m6 => (cP (fX12_harmAt m6 x3 x1) fun r7 => (nm (x2 + r7) fun v9 => (gX12_hour f 0 x1 v9 (x3 + (1 : Int32)) m6))))))))
  | f + 1, 1, x1, x2, x3, m => (if (m.1 0 52) ≤ x3 then (rd (m.1 34) 37 (35 : Int32) fun v2 => (wr m 34 37 (35 : Int32) (v2 + (1 : Int32)) fun m3 => (rd (m3.1 34) 37 (35 : Int32) fun v4 => (if v4 = (24 : Int32) then (cV (fX12_goDate m3) fun m7 => (gX12_hour f 2 0 x2 (0 : Int32) m7)) else (gX12_hour f 2 0 x2 (0 : Int32) m3))))) else (nm ((14 : Int32) + x3) fun v8 => (rd (m.1 34) 37 v8 fun v9 => (rd (m.1 23) 10 x3 fun v10 => (cP (fX12_isAwake m v10 x1) fun r11 => (if r11 = 0 then (cP (fX12_truth (0 : Int32)) fun r14 => (wr m 34 37 v8 (v9 + r14) fun m16 => (gX12_hour f 1 x1 x2 (x3 + (1 : Int32)) m16))) else (rd (m.1 24) 10 x3 fun v17 => (cP (fX12_isAwake m v17 x1) fun r18 => (if r18 = 0 then (cP (fX12_truth (0 : Int32)) fun r21 => (wr m 34 37 v8 (v9 + r21) fun m23 => (gX12_hour f 1 x1 x2 (x3 + (1 : Int32)) m23))) else (cP (fX12_truth (1 : Int32)) fun r24 => (wr m 34 37 v8 (v9 + r24) fun m26 => (gX12_hour f 1 x1 x2 (x3 + (1 : Int32)) m26))))))))))))
  | f + 1, 2, x1, x2, x3, m => (if (37 : Int32) ≤ x3 then (some (x2, m)) else (rd (m.1 34) 37 x3 fun v2 => (wr m 33 37 x3 v2 fun m3 => (gX12_hour f 2 0 x2 (x3 + (1 : Int32)) m3))))
  | _ + 1, _ + 3, _, _, _, _ => none
def fX12_hour (m : Mem) : Option (Int32 × Mem) := (cV (fX12_act m) fun m2 => (rd (m2.1 33) 37 (36 : Int32) fun v3 => (cV (fX12_loadDate m2 v3) fun m5 => (rd (m5.1 34) 37 (35 : Int32) fun v6 => (gX12_hour 5000 0 v6 (0 : Int32) (0 : Int32) m5)))))
set_option maxHeartbeats 4000000 in
set_option maxRecDepth 100000 in
theorem wX12_hour {X : Cx} {G : Gt} (h : OkX (X, G, wM, nM) cX12_hour RX12 4 (some .int) 7) : ∀ f : Nat, (∀ (x1 : Int32) (x2 : Int32) (x3 : Int32) (m : Mem), JR (X, G, wM, nM) cvI m 27 [some (.ref (G.2.2 0)), some (.int x1), some (.int x2), some (.int x3)] [] (gX12_hour f 0 x1 x2 x3 m)) ∧ (∀ (x1 : Int32) (x2 : Int32) (x3 : Int32) (m : Mem), JR (X, G, wM, nM) cvI m 70 [some (.ref (G.2.2 0)), some (.int x1), some (.int x2), some (.int x3)] [] (gX12_hour f 1 x1 x2 x3 m)) ∧ (∀ (x1 : Int32) (x2 : Int32) (x3 : Int32) (m : Mem), JR (X, G, wM, nM) cvI m 161 [some (.ref (G.2.2 0)), none, some (.int x2), some (.int x3)] [] (gX12_hour f 2 x1 x2 x3 m)) := by
  intro f
  induction f with
  | zero => exact ⟨(fun _ _ _ _ => j_none), (fun _ _ _ _ => j_none), (fun _ _ _ _ => j_none)⟩
  | succ f ih =>
    refine ⟨?_, ?_, ?_⟩
    · intro x1 x2 x3 m
      rw [gX12_hour]
      refine j_iload_n h dX12_hour_27 rfl ?_
      refine j_aload_n h dX12_hour_28 rfl ?_
      refine gM_51 h dX12_hour_29 ?_
      refine j_icmp_ge (tgt := 68) h dX12_hour_32 (by decide) (fun c1 => ?_) (fun c1 => ?_)
      · refine j_iconst (v := (0 : Int32)) h dX12_hour_68 kiconst_0 ?_
        refine j_istore_n h dX12_hour_69 rfl rfl ?_
        refine j_wk (ls' := [some (.ref (G.2.2 0)), some (.int x1), some (.int x2), some (.int (0 : Int32))]) (And.intro rfl (And.intro rfl (And.intro rfl (And.intro rfl trivial)))) ?_
        exact ih.2.1 x1 x2 (0 : Int32) m
      · refine j_aload_n h dX12_hour_35 rfl ?_
        refine gM_56 h dX12_hour_36 ?_
        refine j_bipush (v := (7 : Int32)) h dX12_hour_39 kbipush_7 ?_
        refine j_iload_n h dX12_hour_41 rfl ?_
        refine j_iadd h dX12_hour_42 ?_
        refine j_nm (fun v2 hv2 => ?_)
        refine j_dup2 h dX12_hour_43 rfl rfl ?_
        refine aM_34 h dX12_hour_44 (fun v3 hv3 => ?_)
        refine j_aload_n h dX12_hour_45 rfl ?_
        refine j_iload_n h dX12_hour_46 rfl ?_
        refine j_iload_n h dX12_hour_47 rfl ?_
        refine j_callVP (q0 := 0) (ci := 12) h [.int x3, .int x1] (kX12_harmAt _ G h.2.2.2.2.2.2.2.2.2.2 m x3 x1) okX12_harmAt inX12_harmAt ml12_456 rfl rfl rfl rfl (by decide) (by decide) (Nat.le_of_ble_eq_true rfl) rfl dX12_hour_48 (fun r4 hr4 => ?_)
        refine j_iadd h dX12_hour_51 ?_
        refine bM_34 h dX12_hour_52 (fun m6 hm6 => ?_)
        refine j_iload_n h dX12_hour_53 rfl ?_
        refine j_aload_n h dX12_hour_54 rfl ?_
        refine j_iload_n h dX12_hour_55 rfl ?_
        refine j_iload_n h dX12_hour_56 rfl ?_
        refine j_callVP (q0 := 0) (ci := 12) h [.int x3, .int x1] (kX12_harmAt _ G h.2.2.2.2.2.2.2.2.2.2 m6 x3 x1) okX12_harmAt inX12_harmAt ml12_456 rfl rfl rfl rfl (by decide) (by decide) (Nat.le_of_ble_eq_true rfl) rfl dX12_hour_57 (fun r7 hr7 => ?_)
        refine j_iadd h dX12_hour_60 ?_
        refine j_nm (fun v9 hv9 => ?_)
        refine j_istore_n h dX12_hour_61 rfl rfl ?_
        refine j_iinc (v := (x3 + (1 : Int32))) h dX12_hour_62 rfl (by rw [kiconst_1]) rfl ?_
        refine j_goto (tgt := 27) h dX12_hour_65 (by decide) ?_
        refine j_wk (ls' := [some (.ref (G.2.2 0)), some (.int x1), some (.int v9), some (.int (x3 + (1 : Int32)))]) (And.intro rfl (And.intro rfl (And.intro rfl (And.intro rfl trivial)))) ?_
        exact ih.1 x1 v9 (x3 + (1 : Int32)) m6
    · intro x1 x2 x3 m
      rw [gX12_hour]
      refine j_iload_n h dX12_hour_70 rfl ?_
      refine j_aload_n h dX12_hour_71 rfl ?_
      refine gM_52 h dX12_hour_72 ?_
      refine j_icmp_ge (tgt := 132) h dX12_hour_75 (by decide) (fun c1 => ?_) (fun c1 => ?_)
      · refine j_aload_n h dX12_hour_132 rfl ?_
        refine gM_56 h dX12_hour_133 ?_
        refine j_bipush (v := (35 : Int32)) h dX12_hour_136 kbipush_35 ?_
        refine j_dup2 h dX12_hour_138 rfl rfl ?_
        refine aM_34 h dX12_hour_139 (fun v2 hv2 => ?_)
        refine j_iconst (v := (1 : Int32)) h dX12_hour_140 kiconst_1 ?_
        refine j_iadd h dX12_hour_141 ?_
        refine bM_34 h dX12_hour_142 (fun m3 hm3 => ?_)
        refine j_aload_n h dX12_hour_143 rfl ?_
        refine gM_56 h dX12_hour_144 ?_
        refine j_bipush (v := (35 : Int32)) h dX12_hour_147 kbipush_35 ?_
        refine aM_34 h dX12_hour_149 (fun v4 hv4 => ?_)
        refine j_bipush (v := (24 : Int32)) h dX12_hour_150 kbipush_24 ?_
        refine j_icmp_ne (tgt := 159) h dX12_hour_152 (by decide) (fun c5 => ?_) (fun c5 => ?_)
        · refine j_iconst (v := (0 : Int32)) h dX12_hour_159 kiconst_0 ?_
          refine j_istore_n h dX12_hour_160 rfl rfl ?_
          refine j_wk (ls' := [some (.ref (G.2.2 0)), none, some (.int x2), some (.int (0 : Int32))]) (And.intro rfl (And.intro rfl (And.intro rfl trivial))) ?_
          exact ih.2.2 0 x2 (0 : Int32) m3
        · refine j_aload_n h dX12_hour_155 rfl ?_
          refine j_callVV (q0 := 0) (ci := 12) h [] (kX12_goDate _ G h.2.2.2.2.2.2.2.2.2.2 m3) okX12_goDate inX12_goDate ml12_471 rfl rfl rfl rfl (by decide) (by decide) (Nat.le_of_ble_eq_true rfl) rfl dX12_hour_156 (fun m7 hm7 => ?_)
          refine j_iconst (v := (0 : Int32)) h dX12_hour_159 kiconst_0 ?_
          refine j_istore_n h dX12_hour_160 rfl rfl ?_
          refine j_wk (ls' := [some (.ref (G.2.2 0)), none, some (.int x2), some (.int (0 : Int32))]) (And.intro rfl (And.intro rfl (And.intro rfl trivial))) ?_
          exact ih.2.2 0 x2 (0 : Int32) m7
      · refine j_aload_n h dX12_hour_78 rfl ?_
        refine gM_56 h dX12_hour_79 ?_
        refine j_bipush (v := (14 : Int32)) h dX12_hour_82 kbipush_14 ?_
        refine j_iload_n h dX12_hour_84 rfl ?_
        refine j_iadd h dX12_hour_85 ?_
        refine j_nm (fun v8 hv8 => ?_)
        refine j_dup2 h dX12_hour_86 rfl rfl ?_
        refine aM_34 h dX12_hour_87 (fun v9 hv9 => ?_)
        refine j_aload_n h dX12_hour_88 rfl ?_
        refine j_aload_n h dX12_hour_89 rfl ?_
        refine gM_37 h dX12_hour_90 ?_
        refine j_iload_n h dX12_hour_93 rfl ?_
        refine aM_23 h dX12_hour_94 (fun v10 hv10 => ?_)
        refine j_iload_n h dX12_hour_95 rfl ?_
        refine j_callVP (q0 := 0) (ci := 12) h [.int v10, .int x1] (kX12_isAwake _ G h.2.2.2.2.2.2.2.2.2.2 m v10 x1) okX12_isAwake inX12_isAwake ml12_432 rfl rfl rfl rfl (by decide) (by decide) (Nat.le_of_ble_eq_true rfl) rfl dX12_hour_96 (fun r11 hr11 => ?_)
        refine j_if_eq (tgt := 120) h dX12_hour_99 (by decide) (fun c13 => ?_) (fun c13 => ?_)
        · refine j_iconst (v := (0 : Int32)) h dX12_hour_120 kiconst_0 ?_
          refine j_callSP h [.int (0 : Int32)] (kX12_truth _ G h.2.2.2.2.2.2.2.2.2.2 m (0 : Int32)) okX12_truth stX12_truth ml12_322 rfl rfl (by decide) (by decide) (Nat.le_of_ble_eq_true rfl) rfl dX12_hour_121 (fun r14 hr14 => ?_)
          refine j_iadd h dX12_hour_124 ?_
          refine bM_34 h dX12_hour_125 (fun m16 hm16 => ?_)
          refine j_iinc (v := (x3 + (1 : Int32))) h dX12_hour_126 rfl (by rw [kiconst_1]) rfl ?_
          refine j_goto (tgt := 70) h dX12_hour_129 (by decide) ?_
          refine j_wk (ls' := [some (.ref (G.2.2 0)), some (.int x1), some (.int x2), some (.int (x3 + (1 : Int32)))]) (And.intro rfl (And.intro rfl (And.intro rfl (And.intro rfl trivial)))) ?_
          exact ih.2.1 x1 x2 (x3 + (1 : Int32)) m16
        · refine j_aload_n h dX12_hour_102 rfl ?_
          refine j_aload_n h dX12_hour_103 rfl ?_
          refine gM_38 h dX12_hour_104 ?_
          refine j_iload_n h dX12_hour_107 rfl ?_
          refine aM_24 h dX12_hour_108 (fun v17 hv17 => ?_)
          refine j_iload_n h dX12_hour_109 rfl ?_
          refine j_callVP (q0 := 0) (ci := 12) h [.int v17, .int x1] (kX12_isAwake _ G h.2.2.2.2.2.2.2.2.2.2 m v17 x1) okX12_isAwake inX12_isAwake ml12_432 rfl rfl rfl rfl (by decide) (by decide) (Nat.le_of_ble_eq_true rfl) rfl dX12_hour_110 (fun r18 hr18 => ?_)
          refine j_if_eq (tgt := 120) h dX12_hour_113 (by decide) (fun c20 => ?_) (fun c20 => ?_)
          · refine j_iconst (v := (0 : Int32)) h dX12_hour_120 kiconst_0 ?_
            refine j_callSP h [.int (0 : Int32)] (kX12_truth _ G h.2.2.2.2.2.2.2.2.2.2 m (0 : Int32)) okX12_truth stX12_truth ml12_322 rfl rfl (by decide) (by decide) (Nat.le_of_ble_eq_true rfl) rfl dX12_hour_121 (fun r21 hr21 => ?_)
            refine j_iadd h dX12_hour_124 ?_
            refine bM_34 h dX12_hour_125 (fun m23 hm23 => ?_)
            refine j_iinc (v := (x3 + (1 : Int32))) h dX12_hour_126 rfl (by rw [kiconst_1]) rfl ?_
            refine j_goto (tgt := 70) h dX12_hour_129 (by decide) ?_
            refine j_wk (ls' := [some (.ref (G.2.2 0)), some (.int x1), some (.int x2), some (.int (x3 + (1 : Int32)))]) (And.intro rfl (And.intro rfl (And.intro rfl (And.intro rfl trivial)))) ?_
            exact ih.2.1 x1 x2 (x3 + (1 : Int32)) m23
          · refine j_iconst (v := (1 : Int32)) h dX12_hour_116 kiconst_1 ?_
            refine j_goto (tgt := 121) h dX12_hour_117 (by decide) ?_
            refine j_callSP h [.int (1 : Int32)] (kX12_truth _ G h.2.2.2.2.2.2.2.2.2.2 m (1 : Int32)) okX12_truth stX12_truth ml12_322 rfl rfl (by decide) (by decide) (Nat.le_of_ble_eq_true rfl) rfl dX12_hour_121 (fun r24 hr24 => ?_)
            refine j_iadd h dX12_hour_124 ?_
            refine bM_34 h dX12_hour_125 (fun m26 hm26 => ?_)
            refine j_iinc (v := (x3 + (1 : Int32))) h dX12_hour_126 rfl (by rw [kiconst_1]) rfl ?_
            refine j_goto (tgt := 70) h dX12_hour_129 (by decide) ?_
            refine j_wk (ls' := [some (.ref (G.2.2 0)), some (.int x1), some (.int x2), some (.int (x3 + (1 : Int32)))]) (And.intro rfl (And.intro rfl (And.intro rfl (And.intro rfl trivial)))) ?_
            exact ih.2.1 x1 x2 (x3 + (1 : Int32)) m26
    · intro x1 x2 x3 m
      rw [gX12_hour]
      refine j_iload_n h dX12_hour_161 rfl ?_
      refine j_bipush (v := (37 : Int32)) h dX12_hour_162 kbipush_37 ?_
      refine j_icmp_ge (tgt := 185) h dX12_hour_164 (by decide) (fun c1 => ?_) (fun c1 => ?_)
      · refine j_iload_n h dX12_hour_185 rfl ?_
        exact j_iret h rfl dX12_hour_186
      · refine j_aload_n h dX12_hour_167 rfl ?_
        refine gM_55 h dX12_hour_168 ?_
        refine j_iload_n h dX12_hour_171 rfl ?_
        refine j_aload_n h dX12_hour_172 rfl ?_
        refine gM_56 h dX12_hour_173 ?_
        refine j_iload_n h dX12_hour_176 rfl ?_
        refine aM_34 h dX12_hour_177 (fun v2 hv2 => ?_)
        refine bM_33 h dX12_hour_178 (fun m3 hm3 => ?_)
        refine j_iinc (v := (x3 + (1 : Int32))) h dX12_hour_179 rfl (by rw [kiconst_1]) rfl ?_
        refine j_goto (tgt := 161) h dX12_hour_182 (by decide) ?_
        refine j_wk (ls' := [some (.ref (G.2.2 0)), none, some (.int x2), some (.int (x3 + (1 : Int32)))]) (And.intro rfl (And.intro rfl (And.intro rfl trivial))) ?_
        exact ih.2.2 0 x2 (x3 + (1 : Int32)) m3
set_option maxHeartbeats 4000000 in
set_option maxRecDepth 100000 in
theorem kX12_hour (l : Launch) (G : Gt) (hD : ∀ m, va_D (inA G nM) (wM G m)) (m : Mem) : ∀ a, fX12_hour m = some a → Ct l G wM nM yX12_hour cX12_hour 4 (some .int) 7 [.ref (G.2.2 0)] m (cvI a) := by
  refine ct_of (own := RX12) (ls0 := [some (.ref (G.2.2 0)), none, none, none]) (by decide) rfl rfl rfl (Nat.le_of_ble_eq_true rfl) hD (fun X h => ?_) l
  unfold fX12_hour
  refine j_aload_n h dX12_hour_0 rfl ?_
  refine j_callVV (q0 := 0) (ci := 12) h [] (kX12_act _ G h.2.2.2.2.2.2.2.2.2.2 m) okX12_act inX12_act ml12_468 rfl rfl rfl rfl (by decide) (by decide) (Nat.le_of_ble_eq_true rfl) rfl dX12_hour_1 (fun m2 hm2 => ?_)
  refine j_aload_n h dX12_hour_4 rfl ?_
  refine j_aload_n h dX12_hour_5 rfl ?_
  refine gM_55 h dX12_hour_6 ?_
  refine j_bipush (v := (36 : Int32)) h dX12_hour_9 kbipush_36 ?_
  refine aM_33 h dX12_hour_11 (fun v3 hv3 => ?_)
  refine j_callVV (q0 := 0) (ci := 12) h [.int v3] (kX12_loadDate _ G h.2.2.2.2.2.2.2.2.2.2 m2 v3) okX12_loadDate inX12_loadDate ml12_453 rfl rfl rfl rfl (by decide) (by decide) (Nat.le_of_ble_eq_true rfl) rfl dX12_hour_12 (fun m5 hm5 => ?_)
  refine j_aload_n h dX12_hour_15 rfl ?_
  refine gM_56 h dX12_hour_16 ?_
  refine j_bipush (v := (35 : Int32)) h dX12_hour_19 kbipush_35 ?_
  refine aM_34 h dX12_hour_21 (fun v6 hv6 => ?_)
  refine j_istore_n h dX12_hour_22 rfl rfl ?_
  refine j_iconst (v := (0 : Int32)) h dX12_hour_23 kiconst_0 ?_
  refine j_istore_n h dX12_hour_24 rfl rfl ?_
  refine j_iconst (v := (0 : Int32)) h dX12_hour_25 kiconst_0 ?_
  refine j_istore_n h dX12_hour_26 rfl rfl ?_
  refine j_wk (ls' := [some (.ref (G.2.2 0)), some (.int v6), some (.int (0 : Int32)), some (.int (0 : Int32))]) (And.intro rfl (And.intro rfl (And.intro rfl (And.intro rfl trivial)))) ?_
  exact (wX12_hour h 5000).1 v6 (0 : Int32) (0 : Int32) m5
theorem dX12_undo_0 : DD cX12_undo 0 (.aload_n 0) 1 1 := ⟨by decide +kernel, rfl⟩
theorem dX12_undo_1 : DD cX12_undo 1 (.getfield 390) 3 4 := ⟨by decide +kernel, rfl⟩
theorem dX12_undo_4 : DD cX12_undo 4 (.ifCond .ne 5) 3 7 := ⟨by decide +kernel, rfl⟩
theorem dX12_undo_7 : DD cX12_undo 7 (.iconst 0) 1 8 := ⟨by decide +kernel, rfl⟩
theorem dX12_undo_8 : DD cX12_undo 8 (.ireturn) 1 9 := ⟨by decide +kernel, rfl⟩
theorem dX12_undo_9 : DD cX12_undo 9 (.aload_n 0) 1 10 := ⟨by decide +kernel, rfl⟩
theorem dX12_undo_10 : DD cX12_undo 10 (.dup) 1 11 := ⟨by decide +kernel, rfl⟩
theorem dX12_undo_11 : DD cX12_undo 11 (.getfield 390) 3 14 := ⟨by decide +kernel, rfl⟩
theorem dX12_undo_14 : DD cX12_undo 14 (.iconst 1) 1 15 := ⟨by decide +kernel, rfl⟩
theorem dX12_undo_15 : DD cX12_undo 15 (.isub) 1 16 := ⟨by decide +kernel, rfl⟩
theorem dX12_undo_16 : DD cX12_undo 16 (.putfield 390) 3 19 := ⟨by decide +kernel, rfl⟩
theorem dX12_undo_19 : DD cX12_undo 19 (.aload_n 0) 1 20 := ⟨by decide +kernel, rfl⟩
theorem dX12_undo_20 : DD cX12_undo 20 (.dup) 1 21 := ⟨by decide +kernel, rfl⟩
theorem dX12_undo_21 : DD cX12_undo 21 (.getfield 393) 3 24 := ⟨by decide +kernel, rfl⟩
theorem dX12_undo_24 : DD cX12_undo 24 (.iconst 1) 1 25 := ⟨by decide +kernel, rfl⟩
theorem dX12_undo_25 : DD cX12_undo 25 (.iadd) 1 26 := ⟨by decide +kernel, rfl⟩
theorem dX12_undo_26 : DD cX12_undo 26 (.putfield 393) 3 29 := ⟨by decide +kernel, rfl⟩
theorem dX12_undo_29 : DD cX12_undo 29 (.aload_n 0) 1 30 := ⟨by decide +kernel, rfl⟩
theorem dX12_undo_30 : DD cX12_undo 30 (.bipush 37) 2 32 := ⟨by decide +kernel, rfl⟩
theorem dX12_undo_32 : DD cX12_undo 32 (.aload_n 0) 1 33 := ⟨by decide +kernel, rfl⟩
theorem dX12_undo_33 : DD cX12_undo 33 (.getfield 390) 3 36 := ⟨by decide +kernel, rfl⟩
theorem dX12_undo_36 : DD cX12_undo 36 (.imul) 1 37 := ⟨by decide +kernel, rfl⟩
theorem dX12_undo_37 : DD cX12_undo 37 (.invokevirtual 474) 3 40 := ⟨by decide +kernel, rfl⟩
theorem dX12_undo_40 : DD cX12_undo 40 (.iconst 1) 1 41 := ⟨by decide +kernel, rfl⟩
theorem dX12_undo_41 : DD cX12_undo 41 (.ireturn) 1 42 := ⟨by decide +kernel, rfl⟩
def fX12_undo (m : Mem) : Option (Int32 × Mem) := (if (m.1 0 60) = 0 then (some ((0 : Int32), m)) else (pt (sI m 0 60 ((m.1 0 60) - (1 : Int32))) fun m2 => (pt (sI m2 0 61 ((m2.1 0 61) + (1 : Int32))) fun m3 => (cV (fX12_exchange m3 ((37 : Int32) * (m3.1 0 60))) fun m5 => (some ((1 : Int32), m5))))))
set_option maxHeartbeats 4000000 in
set_option maxRecDepth 100000 in
theorem kX12_undo (l : Launch) (G : Gt) (hD : ∀ m, va_D (inA G nM) (wM G m)) (m : Mem) : ∀ a, fX12_undo m = some a → Ct l G wM nM yX12_undo cX12_undo 1 (some .boolean) 2 [.ref (G.2.2 0)] m (cvI a) := by
  refine ct_of (own := RX12) (ls0 := [some (.ref (G.2.2 0))]) (by decide) rfl rfl rfl (Nat.le_of_ble_eq_true rfl) hD (fun X h => ?_) l
  unfold fX12_undo
  refine j_aload_n h dX12_undo_0 rfl ?_
  refine gM_60 h dX12_undo_1 ?_
  refine j_if_ne (tgt := 9) h dX12_undo_4 (by decide) (fun c1 => ?_) (fun c1 => ?_)
  · refine j_aload_n h dX12_undo_9 rfl ?_
    refine j_dup h dX12_undo_10 rfl ?_
    refine gM_60 h dX12_undo_11 ?_
    refine j_iconst (v := (1 : Int32)) h dX12_undo_14 kiconst_1 ?_
    refine j_isub h dX12_undo_15 ?_
    refine pM_60 h dX12_undo_16 (fun m2 hm2 => ?_)
    refine j_aload_n h dX12_undo_19 rfl ?_
    refine j_dup h dX12_undo_20 rfl ?_
    refine gM_61 h dX12_undo_21 ?_
    refine j_iconst (v := (1 : Int32)) h dX12_undo_24 kiconst_1 ?_
    refine j_iadd h dX12_undo_25 ?_
    refine pM_61 h dX12_undo_26 (fun m3 hm3 => ?_)
    refine j_aload_n h dX12_undo_29 rfl ?_
    refine j_bipush (v := (37 : Int32)) h dX12_undo_30 kbipush_37 ?_
    refine j_aload_n h dX12_undo_32 rfl ?_
    refine gM_60 h dX12_undo_33 ?_
    refine j_imul h dX12_undo_36 ?_
    refine j_callVV (q0 := 0) (ci := 12) h [.int ((37 : Int32) * (m3.1 0 60))] (kX12_exchange _ G h.2.2.2.2.2.2.2.2.2.2 m3 ((37 : Int32) * (m3.1 0 60))) okX12_exchange inX12_exchange ml12_474 rfl rfl rfl rfl (by decide) (by decide) (Nat.le_of_ble_eq_true rfl) rfl dX12_undo_37 (fun m5 hm5 => ?_)
    refine j_iconst (v := (1 : Int32)) h dX12_undo_40 kiconst_1 ?_
    exact j_zretB h rfl rfl dX12_undo_41
  · refine j_iconst (v := (0 : Int32)) h dX12_undo_7 kiconst_0 ?_
    exact j_zretB h rfl rfl dX12_undo_8
theorem dX12_redo_0 : DD cX12_redo 0 (.aload_n 0) 1 1 := ⟨by decide +kernel, rfl⟩
theorem dX12_redo_1 : DD cX12_redo 1 (.getfield 393) 3 4 := ⟨by decide +kernel, rfl⟩
theorem dX12_redo_4 : DD cX12_redo 4 (.ifCond .ne 5) 3 7 := ⟨by decide +kernel, rfl⟩
theorem dX12_redo_7 : DD cX12_redo 7 (.iconst 0) 1 8 := ⟨by decide +kernel, rfl⟩
theorem dX12_redo_8 : DD cX12_redo 8 (.ireturn) 1 9 := ⟨by decide +kernel, rfl⟩
theorem dX12_redo_9 : DD cX12_redo 9 (.aload_n 0) 1 10 := ⟨by decide +kernel, rfl⟩
theorem dX12_redo_10 : DD cX12_redo 10 (.bipush 37) 2 12 := ⟨by decide +kernel, rfl⟩
theorem dX12_redo_12 : DD cX12_redo 12 (.aload_n 0) 1 13 := ⟨by decide +kernel, rfl⟩
theorem dX12_redo_13 : DD cX12_redo 13 (.getfield 390) 3 16 := ⟨by decide +kernel, rfl⟩
theorem dX12_redo_16 : DD cX12_redo 16 (.imul) 1 17 := ⟨by decide +kernel, rfl⟩
theorem dX12_redo_17 : DD cX12_redo 17 (.invokevirtual 474) 3 20 := ⟨by decide +kernel, rfl⟩
theorem dX12_redo_20 : DD cX12_redo 20 (.aload_n 0) 1 21 := ⟨by decide +kernel, rfl⟩
theorem dX12_redo_21 : DD cX12_redo 21 (.dup) 1 22 := ⟨by decide +kernel, rfl⟩
theorem dX12_redo_22 : DD cX12_redo 22 (.getfield 390) 3 25 := ⟨by decide +kernel, rfl⟩
theorem dX12_redo_25 : DD cX12_redo 25 (.iconst 1) 1 26 := ⟨by decide +kernel, rfl⟩
theorem dX12_redo_26 : DD cX12_redo 26 (.iadd) 1 27 := ⟨by decide +kernel, rfl⟩
theorem dX12_redo_27 : DD cX12_redo 27 (.putfield 390) 3 30 := ⟨by decide +kernel, rfl⟩
theorem dX12_redo_30 : DD cX12_redo 30 (.aload_n 0) 1 31 := ⟨by decide +kernel, rfl⟩
theorem dX12_redo_31 : DD cX12_redo 31 (.dup) 1 32 := ⟨by decide +kernel, rfl⟩
theorem dX12_redo_32 : DD cX12_redo 32 (.getfield 393) 3 35 := ⟨by decide +kernel, rfl⟩
theorem dX12_redo_35 : DD cX12_redo 35 (.iconst 1) 1 36 := ⟨by decide +kernel, rfl⟩
theorem dX12_redo_36 : DD cX12_redo 36 (.isub) 1 37 := ⟨by decide +kernel, rfl⟩
theorem dX12_redo_37 : DD cX12_redo 37 (.putfield 393) 3 40 := ⟨by decide +kernel, rfl⟩
theorem dX12_redo_40 : DD cX12_redo 40 (.iconst 1) 1 41 := ⟨by decide +kernel, rfl⟩
theorem dX12_redo_41 : DD cX12_redo 41 (.ireturn) 1 42 := ⟨by decide +kernel, rfl⟩
def fX12_redo (m : Mem) : Option (Int32 × Mem) := (if (m.1 0 61) = 0 then (some ((0 : Int32), m)) else (cV (fX12_exchange m ((37 : Int32) * (m.1 0 60))) fun m3 => (pt (sI m3 0 60 ((m3.1 0 60) + (1 : Int32))) fun m4 => (pt (sI m4 0 61 ((m4.1 0 61) - (1 : Int32))) fun m5 => (some ((1 : Int32), m5))))))
set_option maxHeartbeats 4000000 in
set_option maxRecDepth 100000 in
theorem kX12_redo (l : Launch) (G : Gt) (hD : ∀ m, va_D (inA G nM) (wM G m)) (m : Mem) : ∀ a, fX12_redo m = some a → Ct l G wM nM yX12_redo cX12_redo 1 (some .boolean) 2 [.ref (G.2.2 0)] m (cvI a) := by
  refine ct_of (own := RX12) (ls0 := [some (.ref (G.2.2 0))]) (by decide) rfl rfl rfl (Nat.le_of_ble_eq_true rfl) hD (fun X h => ?_) l
  unfold fX12_redo
  refine j_aload_n h dX12_redo_0 rfl ?_
  refine gM_61 h dX12_redo_1 ?_
  refine j_if_ne (tgt := 9) h dX12_redo_4 (by decide) (fun c1 => ?_) (fun c1 => ?_)
  · refine j_aload_n h dX12_redo_9 rfl ?_
    refine j_bipush (v := (37 : Int32)) h dX12_redo_10 kbipush_37 ?_
    refine j_aload_n h dX12_redo_12 rfl ?_
    refine gM_60 h dX12_redo_13 ?_
    refine j_imul h dX12_redo_16 ?_
    refine j_callVV (q0 := 0) (ci := 12) h [.int ((37 : Int32) * (m.1 0 60))] (kX12_exchange _ G h.2.2.2.2.2.2.2.2.2.2 m ((37 : Int32) * (m.1 0 60))) okX12_exchange inX12_exchange ml12_474 rfl rfl rfl rfl (by decide) (by decide) (Nat.le_of_ble_eq_true rfl) rfl dX12_redo_17 (fun m3 hm3 => ?_)
    refine j_aload_n h dX12_redo_20 rfl ?_
    refine j_dup h dX12_redo_21 rfl ?_
    refine gM_60 h dX12_redo_22 ?_
    refine j_iconst (v := (1 : Int32)) h dX12_redo_25 kiconst_1 ?_
    refine j_iadd h dX12_redo_26 ?_
    refine pM_60 h dX12_redo_27 (fun m4 hm4 => ?_)
    refine j_aload_n h dX12_redo_30 rfl ?_
    refine j_dup h dX12_redo_31 rfl ?_
    refine gM_61 h dX12_redo_32 ?_
    refine j_iconst (v := (1 : Int32)) h dX12_redo_35 kiconst_1 ?_
    refine j_isub h dX12_redo_36 ?_
    refine pM_61 h dX12_redo_37 (fun m5 hm5 => ?_)
    refine j_iconst (v := (1 : Int32)) h dX12_redo_40 kiconst_1 ?_
    exact j_zretB h rfl rfl dX12_redo_41
  · refine j_iconst (v := (0 : Int32)) h dX12_redo_7 kiconst_0 ?_
    exact j_zretB h rfl rfl dX12_redo_8
theorem dX12_common_0 : DD cX12_common 0 (.aload_n 0) 1 1 := ⟨by decide +kernel, rfl⟩
theorem dX12_common_1 : DD cX12_common 1 (.iload_n 1) 1 2 := ⟨by decide +kernel, rfl⟩
theorem dX12_common_2 : DD cX12_common 2 (.invokevirtual 450) 3 5 := ⟨by decide +kernel, rfl⟩
theorem dX12_common_5 : DD cX12_common 5 (.ifCond .eq 18) 3 8 := ⟨by decide +kernel, rfl⟩
theorem dX12_common_8 : DD cX12_common 8 (.aload_n 0) 1 9 := ⟨by decide +kernel, rfl⟩
theorem dX12_common_9 : DD cX12_common 9 (.iload_n 2) 1 10 := ⟨by decide +kernel, rfl⟩
theorem dX12_common_10 : DD cX12_common 10 (.invokevirtual 450) 3 13 := ⟨by decide +kernel, rfl⟩
theorem dX12_common_13 : DD cX12_common 13 (.ifCond .eq 10) 3 16 := ⟨by decide +kernel, rfl⟩
theorem dX12_common_16 : DD cX12_common 16 (.iload_n 3) 1 17 := ⟨by decide +kernel, rfl⟩
theorem dX12_common_17 : DD cX12_common 17 (.invokestatic 462) 3 20 := ⟨by decide +kernel, rfl⟩
theorem dX12_common_20 : DD cX12_common 20 (.ifCond .ne 5) 3 23 := ⟨by decide +kernel, rfl⟩
theorem dX12_common_23 : DD cX12_common 23 (.iconst (-1)) 1 24 := ⟨by decide +kernel, rfl⟩
theorem dX12_common_24 : DD cX12_common 24 (.ireturn) 1 25 := ⟨by decide +kernel, rfl⟩
theorem dX12_common_25 : DD cX12_common 25 (.aload_n 0) 1 26 := ⟨by decide +kernel, rfl⟩
theorem dX12_common_26 : DD cX12_common 26 (.iload_n 3) 1 27 := ⟨by decide +kernel, rfl⟩
theorem dX12_common_27 : DD cX12_common 27 (.invokevirtual 453) 3 30 := ⟨by decide +kernel, rfl⟩
theorem dX12_common_30 : DD cX12_common 30 (.aload_n 0) 1 31 := ⟨by decide +kernel, rfl⟩
theorem dX12_common_31 : DD cX12_common 31 (.iload_n 1) 1 32 := ⟨by decide +kernel, rfl⟩
theorem dX12_common_32 : DD cX12_common 32 (.iload_n 2) 1 33 := ⟨by decide +kernel, rfl⟩
theorem dX12_common_33 : DD cX12_common 33 (.invokevirtual 444) 3 36 := ⟨by decide +kernel, rfl⟩
theorem dX12_common_36 : DD cX12_common 36 (.ireturn) 1 37 := ⟨by decide +kernel, rfl⟩
def fX12_common (m : Mem) (x1 : Int32) (x2 : Int32) (x3 : Int32) : Option (Int32 × Mem) := (cP (fX12_isPerson m x1) fun r1 => (if r1 = 0 then (some ((-1 : Int32), m)) else (cP (fX12_isPerson m x2) fun r4 => (if r4 = 0 then (some ((-1 : Int32), m)) else (cP (fX12_isDate x3) fun r7 => (if r7 = 0 then (some ((-1 : Int32), m)) else (cV (fX12_loadDate m x3) fun m11 => (cP (fX12_commonOf m11 x1 x2) fun r12 => (some (r12, m11))))))))))
set_option maxHeartbeats 4000000 in
set_option maxRecDepth 100000 in
theorem kX12_common (l : Launch) (G : Gt) (hD : ∀ m, va_D (inA G nM) (wM G m)) (m : Mem) (x1 : Int32) (x2 : Int32) (x3 : Int32) : ∀ a, fX12_common m x1 x2 x3 = some a → Ct l G wM nM yX12_common cX12_common 4 (some .int) 7 [.ref (G.2.2 0), .int x1, .int x2, .int x3] m (cvI a) := by
  refine ct_of (own := RX12) (ls0 := [some (.ref (G.2.2 0)), some (.int x1), some (.int x2), some (.int x3)]) (by decide) rfl rfl rfl (Nat.le_of_ble_eq_true rfl) hD (fun X h => ?_) l
  unfold fX12_common
  refine j_aload_n h dX12_common_0 rfl ?_
  refine j_iload_n h dX12_common_1 rfl ?_
  refine j_callVP (q0 := 0) (ci := 12) h [.int x1] (kX12_isPerson _ G h.2.2.2.2.2.2.2.2.2.2 m x1) okX12_isPerson inX12_isPerson ml12_450 rfl rfl rfl rfl (by decide) (by decide) (Nat.le_of_ble_eq_true rfl) rfl dX12_common_2 (fun r1 hr1 => ?_)
  refine j_if_eq (tgt := 23) h dX12_common_5 (by decide) (fun c3 => ?_) (fun c3 => ?_)
  · refine j_iconst (v := (-1 : Int32)) h dX12_common_23 kiconst_m1 ?_
    exact j_iret h rfl dX12_common_24
  · refine j_aload_n h dX12_common_8 rfl ?_
    refine j_iload_n h dX12_common_9 rfl ?_
    refine j_callVP (q0 := 0) (ci := 12) h [.int x2] (kX12_isPerson _ G h.2.2.2.2.2.2.2.2.2.2 m x2) okX12_isPerson inX12_isPerson ml12_450 rfl rfl rfl rfl (by decide) (by decide) (Nat.le_of_ble_eq_true rfl) rfl dX12_common_10 (fun r4 hr4 => ?_)
    refine j_if_eq (tgt := 23) h dX12_common_13 (by decide) (fun c6 => ?_) (fun c6 => ?_)
    · refine j_iconst (v := (-1 : Int32)) h dX12_common_23 kiconst_m1 ?_
      exact j_iret h rfl dX12_common_24
    · refine j_iload_n h dX12_common_16 rfl ?_
      refine j_callSP h [.int x3] (kX12_isDate _ G h.2.2.2.2.2.2.2.2.2.2 m x3) okX12_isDate stX12_isDate ml12_462 rfl rfl (by decide) (by decide) (Nat.le_of_ble_eq_true rfl) rfl dX12_common_17 (fun r7 hr7 => ?_)
      refine j_if_ne (tgt := 25) h dX12_common_20 (by decide) (fun c9 => ?_) (fun c9 => ?_)
      · refine j_aload_n h dX12_common_25 rfl ?_
        refine j_iload_n h dX12_common_26 rfl ?_
        refine j_callVV (q0 := 0) (ci := 12) h [.int x3] (kX12_loadDate _ G h.2.2.2.2.2.2.2.2.2.2 m x3) okX12_loadDate inX12_loadDate ml12_453 rfl rfl rfl rfl (by decide) (by decide) (Nat.le_of_ble_eq_true rfl) rfl dX12_common_27 (fun m11 hm11 => ?_)
        refine j_aload_n h dX12_common_30 rfl ?_
        refine j_iload_n h dX12_common_31 rfl ?_
        refine j_iload_n h dX12_common_32 rfl ?_
        refine j_callVP (q0 := 0) (ci := 12) h [.int x1, .int x2] (kX12_commonOf _ G h.2.2.2.2.2.2.2.2.2.2 m11 x1 x2) okX12_commonOf inX12_commonOf ml12_444 rfl rfl rfl rfl (by decide) (by decide) (Nat.le_of_ble_eq_true rfl) rfl dX12_common_33 (fun r12 hr12 => ?_)
        exact j_iret h rfl dX12_common_36
      · refine j_iconst (v := (-1 : Int32)) h dX12_common_23 kiconst_m1 ?_
        exact j_iret h rfl dX12_common_24
theorem dX12_can_0 : DD cX12_can 0 (.iload_n 1) 1 1 := ⟨by decide +kernel, rfl⟩
theorem dX12_can_1 : DD cX12_can 1 (.invokestatic 462) 3 4 := ⟨by decide +kernel, rfl⟩
theorem dX12_can_4 : DD cX12_can 4 (.ifCond .ne 5) 3 7 := ⟨by decide +kernel, rfl⟩
theorem dX12_can_7 : DD cX12_can 7 (.iconst (-1)) 1 8 := ⟨by decide +kernel, rfl⟩
theorem dX12_can_8 : DD cX12_can 8 (.ireturn) 1 9 := ⟨by decide +kernel, rfl⟩
theorem dX12_can_9 : DD cX12_can 9 (.aload_n 0) 1 10 := ⟨by decide +kernel, rfl⟩
theorem dX12_can_10 : DD cX12_can 10 (.iload_n 1) 1 11 := ⟨by decide +kernel, rfl⟩
theorem dX12_can_11 : DD cX12_can 11 (.invokevirtual 453) 3 14 := ⟨by decide +kernel, rfl⟩
theorem dX12_can_14 : DD cX12_can 14 (.aload_n 0) 1 15 := ⟨by decide +kernel, rfl⟩
theorem dX12_can_15 : DD cX12_can 15 (.invokevirtual 477) 3 18 := ⟨by decide +kernel, rfl⟩
theorem dX12_can_18 : DD cX12_can 18 (.ireturn) 1 19 := ⟨by decide +kernel, rfl⟩
def fX12_can (m : Mem) (x1 : Int32) : Option (Int32 × Mem) := (cP (fX12_isDate x1) fun r1 => (if r1 = 0 then (some ((-1 : Int32), m)) else (cV (fX12_loadDate m x1) fun m5 => (cP (fX12_canSet m5) fun r6 => (some (r6, m5))))))
set_option maxHeartbeats 4000000 in
set_option maxRecDepth 100000 in
theorem kX12_can (l : Launch) (G : Gt) (hD : ∀ m, va_D (inA G nM) (wM G m)) (m : Mem) (x1 : Int32) : ∀ a, fX12_can m x1 = some a → Ct l G wM nM yX12_can cX12_can 2 (some .int) 7 [.ref (G.2.2 0), .int x1] m (cvI a) := by
  refine ct_of (own := RX12) (ls0 := [some (.ref (G.2.2 0)), some (.int x1)]) (by decide) rfl rfl rfl (Nat.le_of_ble_eq_true rfl) hD (fun X h => ?_) l
  unfold fX12_can
  refine j_iload_n h dX12_can_0 rfl ?_
  refine j_callSP h [.int x1] (kX12_isDate _ G h.2.2.2.2.2.2.2.2.2.2 m x1) okX12_isDate stX12_isDate ml12_462 rfl rfl (by decide) (by decide) (Nat.le_of_ble_eq_true rfl) rfl dX12_can_1 (fun r1 hr1 => ?_)
  refine j_if_ne (tgt := 9) h dX12_can_4 (by decide) (fun c3 => ?_) (fun c3 => ?_)
  · refine j_aload_n h dX12_can_9 rfl ?_
    refine j_iload_n h dX12_can_10 rfl ?_
    refine j_callVV (q0 := 0) (ci := 12) h [.int x1] (kX12_loadDate _ G h.2.2.2.2.2.2.2.2.2.2 m x1) okX12_loadDate inX12_loadDate ml12_453 rfl rfl rfl rfl (by decide) (by decide) (Nat.le_of_ble_eq_true rfl) rfl dX12_can_11 (fun m5 hm5 => ?_)
    refine j_aload_n h dX12_can_14 rfl ?_
    refine j_callVP (q0 := 0) (ci := 12) h [] (kX12_canSet _ G h.2.2.2.2.2.2.2.2.2.2 m5) okX12_canSet inX12_canSet ml12_477 rfl rfl rfl rfl (by decide) (by decide) (Nat.le_of_ble_eq_true rfl) rfl dX12_can_15 (fun r6 hr6 => ?_)
    exact j_iret h rfl dX12_can_18
  · refine j_iconst (v := (-1 : Int32)) h dX12_can_7 kiconst_m1 ?_
    exact j_iret h rfl dX12_can_8
theorem dX12_canOn_0 : DD cX12_canOn 0 (.aload_n 0) 1 1 := ⟨by decide +kernel, rfl⟩
theorem dX12_canOn_1 : DD cX12_canOn 1 (.iload_n 2) 1 2 := ⟨by decide +kernel, rfl⟩
theorem dX12_canOn_2 : DD cX12_canOn 2 (.invokevirtual 429) 3 5 := ⟨by decide +kernel, rfl⟩
theorem dX12_canOn_5 : DD cX12_canOn 5 (.aload_n 0) 1 6 := ⟨by decide +kernel, rfl⟩
theorem dX12_canOn_6 : DD cX12_canOn 6 (.iload_n 1) 1 7 := ⟨by decide +kernel, rfl⟩
theorem dX12_canOn_7 : DD cX12_canOn 7 (.invokevirtual 447) 3 10 := ⟨by decide +kernel, rfl⟩
theorem dX12_canOn_10 : DD cX12_canOn 10 (.ireturn) 1 11 := ⟨by decide +kernel, rfl⟩
def fX12_canOn (m : Mem) (x1 : Int32) (x2 : Int32) : Option (Int32 × Mem) := (cV (fX12_layDate m x2) fun m2 => (cP (fX12_canMeet m2 x1) fun r3 => (tz r3 (some (r3, m2)))))
set_option maxHeartbeats 4000000 in
set_option maxRecDepth 100000 in
theorem kX12_canOn (l : Launch) (G : Gt) (hD : ∀ m, va_D (inA G nM) (wM G m)) (m : Mem) (x1 : Int32) (x2 : Int32) : ∀ a, fX12_canOn m x1 x2 = some a → Ct l G wM nM yX12_canOn cX12_canOn 3 (some .boolean) 6 [.ref (G.2.2 0), .int x1, .int x2] m (cvI a) := by
  refine ct_of (own := RX12) (ls0 := [some (.ref (G.2.2 0)), some (.int x1), some (.int x2)]) (by decide) rfl rfl rfl (Nat.le_of_ble_eq_true rfl) hD (fun X h => ?_) l
  unfold fX12_canOn
  refine j_aload_n h dX12_canOn_0 rfl ?_
  refine j_iload_n h dX12_canOn_1 rfl ?_
  refine j_callVV (q0 := 0) (ci := 12) h [.int x2] (kX12_layDate _ G h.2.2.2.2.2.2.2.2.2.2 m x2) okX12_layDate inX12_layDate ml12_429 rfl rfl rfl rfl (by decide) (by decide) (Nat.le_of_ble_eq_true rfl) rfl dX12_canOn_2 (fun m2 hm2 => ?_)
  refine j_aload_n h dX12_canOn_5 rfl ?_
  refine j_iload_n h dX12_canOn_6 rfl ?_
  refine j_callVP (q0 := 0) (ci := 12) h [.int x1] (kX12_canMeet _ G h.2.2.2.2.2.2.2.2.2.2 m2 x1) okX12_canMeet inX12_canMeet ml12_447 rfl rfl rfl rfl (by decide) (by decide) (Nat.le_of_ble_eq_true rfl) rfl dX12_canOn_7 (fun r3 hr3 => ?_)
  exact j_zret h rfl dX12_canOn_10
theorem dX12_never_0 : DD cX12_never 0 (.aload_n 0) 1 1 := ⟨by decide +kernel, rfl⟩
theorem dX12_never_1 : DD cX12_never 1 (.iload_n 1) 1 2 := ⟨by decide +kernel, rfl⟩
theorem dX12_never_2 : DD cX12_never 2 (.invokevirtual 459) 3 5 := ⟨by decide +kernel, rfl⟩
theorem dX12_never_5 : DD cX12_never 5 (.ifCond .ne 5) 3 8 := ⟨by decide +kernel, rfl⟩
theorem dX12_never_8 : DD cX12_never 8 (.iconst (-1)) 1 9 := ⟨by decide +kernel, rfl⟩
theorem dX12_never_9 : DD cX12_never 9 (.ireturn) 1 10 := ⟨by decide +kernel, rfl⟩
theorem dX12_never_10 : DD cX12_never 10 (.aload_n 0) 1 11 := ⟨by decide +kernel, rfl⟩
theorem dX12_never_11 : DD cX12_never 11 (.invokevirtual 426) 3 14 := ⟨by decide +kernel, rfl⟩
theorem dX12_never_14 : DD cX12_never 14 (.iconst 0) 1 15 := ⟨by decide +kernel, rfl⟩
theorem dX12_never_15 : DD cX12_never 15 (.istore_n 2) 1 16 := ⟨by decide +kernel, rfl⟩
theorem dX12_never_16 : DD cX12_never 16 (.iload_n 2) 1 17 := ⟨by decide +kernel, rfl⟩
theorem dX12_never_17 : DD cX12_never 17 (.sipush 365) 3 20 := ⟨by decide +kernel, rfl⟩
theorem dX12_never_20 : DD cX12_never 20 (.if_icmp .ge 34) 3 23 := ⟨by decide +kernel, rfl⟩
theorem dX12_never_23 : DD cX12_never 23 (.aload_n 0) 1 24 := ⟨by decide +kernel, rfl⟩
theorem dX12_never_24 : DD cX12_never 24 (.getfield 112) 3 27 := ⟨by decide +kernel, rfl⟩
theorem dX12_never_27 : DD cX12_never 27 (.bipush 36) 2 29 := ⟨by decide +kernel, rfl⟩
theorem dX12_never_29 : DD cX12_never 29 (.iaload) 1 30 := ⟨by decide +kernel, rfl⟩
theorem dX12_never_30 : DD cX12_never 30 (.iload_n 2) 1 31 := ⟨by decide +kernel, rfl⟩
theorem dX12_never_31 : DD cX12_never 31 (.iadd) 1 32 := ⟨by decide +kernel, rfl⟩
theorem dX12_never_32 : DD cX12_never 32 (.sipush 365) 3 35 := ⟨by decide +kernel, rfl⟩
theorem dX12_never_35 : DD cX12_never 35 (.irem) 1 36 := ⟨by decide +kernel, rfl⟩
theorem dX12_never_36 : DD cX12_never 36 (.istore_n 3) 1 37 := ⟨by decide +kernel, rfl⟩
theorem dX12_never_37 : DD cX12_never 37 (.aload_n 0) 1 38 := ⟨by decide +kernel, rfl⟩
theorem dX12_never_38 : DD cX12_never 38 (.iload_n 1) 1 39 := ⟨by decide +kernel, rfl⟩
theorem dX12_never_39 : DD cX12_never 39 (.iload_n 3) 1 40 := ⟨by decide +kernel, rfl⟩
theorem dX12_never_40 : DD cX12_never 40 (.invokevirtual 480) 3 43 := ⟨by decide +kernel, rfl⟩
theorem dX12_never_43 : DD cX12_never 43 (.ifCond .ne 5) 3 46 := ⟨by decide +kernel, rfl⟩
theorem dX12_never_46 : DD cX12_never 46 (.iload_n 3) 1 47 := ⟨by decide +kernel, rfl⟩
theorem dX12_never_47 : DD cX12_never 47 (.ireturn) 1 48 := ⟨by decide +kernel, rfl⟩
theorem dX12_never_48 : DD cX12_never 48 (.iinc 2 1) 3 51 := ⟨by decide +kernel, rfl⟩
theorem dX12_never_51 : DD cX12_never 51 (.goto (-35)) 3 54 := ⟨by decide +kernel, rfl⟩
theorem dX12_never_54 : DD cX12_never 54 (.iconst (-1)) 1 55 := ⟨by decide +kernel, rfl⟩
theorem dX12_never_55 : DD cX12_never 55 (.ireturn) 1 56 := ⟨by decide +kernel, rfl⟩
def gX12_never : Nat → Int32 → Int32 → Mem → Option (Int32 × Mem)
  | 0, _, _, _ => none
  | f + 1, x1, x2, m => (if (365 : Int32) ≤ x2 then (some ((-1 : Int32), m)) else (rd (m.1 33) 37 (36 : Int32) fun v2 => (nm ((v2 + x2) - (v2 + x2) / (365 : Int32) * (365 : Int32)) fun v3 => (cI (fX12_canOn m x1 v3) fun r4 m5 => (if r4 = 0 then (some (v3, m5)) else (gX12_never f x1 (x2 + (1 : Int32)) m5))))))
def fX12_never (m : Mem) (x1 : Int32) : Option (Int32 × Mem) := (cP (fX12_isMeet m x1) fun r1 => (if r1 = 0 then (some ((-1 : Int32), m)) else (cV (fX12_load m) fun m5 => (gX12_never 5000 x1 (0 : Int32) m5))))
set_option maxHeartbeats 4000000 in
set_option maxRecDepth 100000 in
theorem wX12_never {X : Cx} {G : Gt} (h : OkX (X, G, wM, nM) cX12_never RX12 4 (some .int) 7) : ∀ f : Nat, (∀ (x1 : Int32) (x2 : Int32) (m : Mem), JR (X, G, wM, nM) cvI m 16 [some (.ref (G.2.2 0)), some (.int x1), some (.int x2), none] [] (gX12_never f x1 x2 m)) := by
  intro f
  induction f with
  | zero => exact (fun _ _ _ => j_none)
  | succ f ih =>
    intro x1 x2 m
    rw [gX12_never]
    refine j_iload_n h dX12_never_16 rfl ?_
    refine j_sipush (v := (365 : Int32)) h dX12_never_17 ksipush_365 ?_
    refine j_icmp_ge (tgt := 54) h dX12_never_20 (by decide) (fun c1 => ?_) (fun c1 => ?_)
    · refine j_iconst (v := (-1 : Int32)) h dX12_never_54 kiconst_m1 ?_
      exact j_iret h rfl dX12_never_55
    · refine j_aload_n h dX12_never_23 rfl ?_
      refine gM_55 h dX12_never_24 ?_
      refine j_bipush (v := (36 : Int32)) h dX12_never_27 kbipush_36 ?_
      refine aM_33 h dX12_never_29 (fun v2 hv2 => ?_)
      refine j_iload_n h dX12_never_30 rfl ?_
      refine j_iadd h dX12_never_31 ?_
      refine j_sipush (v := (365 : Int32)) h dX12_never_32 ksipush_365 ?_
      refine j_iremB h dX12_never_35 (by decide) ?_
      refine j_nm (fun v3 hv3 => ?_)
      refine j_istore_n h dX12_never_36 rfl rfl ?_
      refine j_aload_n h dX12_never_37 rfl ?_
      refine j_iload_n h dX12_never_38 rfl ?_
      refine j_iload_n h dX12_never_39 rfl ?_
      refine j_callVI (q0 := 0) (ci := 12) h [.int x1, .int v3] (kX12_canOn _ G h.2.2.2.2.2.2.2.2.2.2 m x1 v3) okX12_canOn inX12_canOn ml12_480 rfl rfl rfl rfl (by decide) (by decide) (Nat.le_of_ble_eq_true rfl) rfl dX12_never_40 (fun r4 m5 hr4 => ?_)
      refine j_if_ne (tgt := 48) h dX12_never_43 (by decide) (fun c6 => ?_) (fun c6 => ?_)
      · refine j_iinc (v := (x2 + (1 : Int32))) h dX12_never_48 rfl (by rw [kiconst_1]) rfl ?_
        refine j_goto (tgt := 16) h dX12_never_51 (by decide) ?_
        refine j_wk (ls' := [some (.ref (G.2.2 0)), some (.int x1), some (.int (x2 + (1 : Int32))), none]) (And.intro rfl (And.intro rfl (And.intro rfl trivial))) ?_
        exact ih x1 (x2 + (1 : Int32)) m5
      · refine j_iload_n h dX12_never_46 rfl ?_
        exact j_iret h rfl dX12_never_47
set_option maxHeartbeats 4000000 in
set_option maxRecDepth 100000 in
theorem kX12_never (l : Launch) (G : Gt) (hD : ∀ m, va_D (inA G nM) (wM G m)) (m : Mem) (x1 : Int32) : ∀ a, fX12_never m x1 = some a → Ct l G wM nM yX12_never cX12_never 4 (some .int) 7 [.ref (G.2.2 0), .int x1] m (cvI a) := by
  refine ct_of (own := RX12) (ls0 := [some (.ref (G.2.2 0)), some (.int x1), none, none]) (by decide) rfl rfl rfl (Nat.le_of_ble_eq_true rfl) hD (fun X h => ?_) l
  unfold fX12_never
  refine j_aload_n h dX12_never_0 rfl ?_
  refine j_iload_n h dX12_never_1 rfl ?_
  refine j_callVP (q0 := 0) (ci := 12) h [.int x1] (kX12_isMeet _ G h.2.2.2.2.2.2.2.2.2.2 m x1) okX12_isMeet inX12_isMeet ml12_459 rfl rfl rfl rfl (by decide) (by decide) (Nat.le_of_ble_eq_true rfl) rfl dX12_never_2 (fun r1 hr1 => ?_)
  refine j_if_ne (tgt := 10) h dX12_never_5 (by decide) (fun c3 => ?_) (fun c3 => ?_)
  · refine j_aload_n h dX12_never_10 rfl ?_
    refine j_callVV (q0 := 0) (ci := 12) h [] (kX12_load _ G h.2.2.2.2.2.2.2.2.2.2 m) okX12_load inX12_load ml12_426 rfl rfl rfl rfl (by decide) (by decide) (Nat.le_of_ble_eq_true rfl) rfl dX12_never_11 (fun m5 hm5 => ?_)
    refine j_iconst (v := (0 : Int32)) h dX12_never_14 kiconst_0 ?_
    refine j_istore_n h dX12_never_15 rfl rfl ?_
    refine j_wk (ls' := [some (.ref (G.2.2 0)), some (.int x1), some (.int (0 : Int32)), none]) (And.intro rfl (And.intro rfl (And.intro rfl trivial))) ?_
    exact (wX12_never h 5000) x1 (0 : Int32) m5
  · refine j_iconst (v := (-1 : Int32)) h dX12_never_8 kiconst_m1 ?_
    exact j_iret h rfl dX12_never_9
theorem dX12_dates_0 : DD cX12_dates 0 (.aload_n 0) 1 1 := ⟨by decide +kernel, rfl⟩
theorem dX12_dates_1 : DD cX12_dates 1 (.iload_n 1) 1 2 := ⟨by decide +kernel, rfl⟩
theorem dX12_dates_2 : DD cX12_dates 2 (.invokevirtual 459) 3 5 := ⟨by decide +kernel, rfl⟩
theorem dX12_dates_5 : DD cX12_dates 5 (.ifCond .ne 5) 3 8 := ⟨by decide +kernel, rfl⟩
theorem dX12_dates_8 : DD cX12_dates 8 (.iconst (-1)) 1 9 := ⟨by decide +kernel, rfl⟩
theorem dX12_dates_9 : DD cX12_dates 9 (.ireturn) 1 10 := ⟨by decide +kernel, rfl⟩
theorem dX12_dates_10 : DD cX12_dates 10 (.aload_n 0) 1 11 := ⟨by decide +kernel, rfl⟩
theorem dX12_dates_11 : DD cX12_dates 11 (.invokevirtual 426) 3 14 := ⟨by decide +kernel, rfl⟩
theorem dX12_dates_14 : DD cX12_dates 14 (.iconst 0) 1 15 := ⟨by decide +kernel, rfl⟩
theorem dX12_dates_15 : DD cX12_dates 15 (.istore_n 2) 1 16 := ⟨by decide +kernel, rfl⟩
theorem dX12_dates_16 : DD cX12_dates 16 (.iconst 0) 1 17 := ⟨by decide +kernel, rfl⟩
theorem dX12_dates_17 : DD cX12_dates 17 (.istore_n 3) 1 18 := ⟨by decide +kernel, rfl⟩
theorem dX12_dates_18 : DD cX12_dates 18 (.iload_n 3) 1 19 := ⟨by decide +kernel, rfl⟩
theorem dX12_dates_19 : DD cX12_dates 19 (.sipush 365) 3 22 := ⟨by decide +kernel, rfl⟩
theorem dX12_dates_22 : DD cX12_dates 22 (.if_icmp .ge 21) 3 25 := ⟨by decide +kernel, rfl⟩
theorem dX12_dates_25 : DD cX12_dates 25 (.iload_n 2) 1 26 := ⟨by decide +kernel, rfl⟩
theorem dX12_dates_26 : DD cX12_dates 26 (.aload_n 0) 1 27 := ⟨by decide +kernel, rfl⟩
theorem dX12_dates_27 : DD cX12_dates 27 (.iload_n 1) 1 28 := ⟨by decide +kernel, rfl⟩
theorem dX12_dates_28 : DD cX12_dates 28 (.iload_n 3) 1 29 := ⟨by decide +kernel, rfl⟩
theorem dX12_dates_29 : DD cX12_dates 29 (.invokevirtual 480) 3 32 := ⟨by decide +kernel, rfl⟩
theorem dX12_dates_32 : DD cX12_dates 32 (.invokestatic 322) 3 35 := ⟨by decide +kernel, rfl⟩
theorem dX12_dates_35 : DD cX12_dates 35 (.iadd) 1 36 := ⟨by decide +kernel, rfl⟩
theorem dX12_dates_36 : DD cX12_dates 36 (.istore_n 2) 1 37 := ⟨by decide +kernel, rfl⟩
theorem dX12_dates_37 : DD cX12_dates 37 (.iinc 3 1) 3 40 := ⟨by decide +kernel, rfl⟩
theorem dX12_dates_40 : DD cX12_dates 40 (.goto (-22)) 3 43 := ⟨by decide +kernel, rfl⟩
theorem dX12_dates_43 : DD cX12_dates 43 (.iload_n 2) 1 44 := ⟨by decide +kernel, rfl⟩
theorem dX12_dates_44 : DD cX12_dates 44 (.ireturn) 1 45 := ⟨by decide +kernel, rfl⟩
def gX12_dates : Nat → Int32 → Int32 → Int32 → Mem → Option (Int32 × Mem)
  | 0, _, _, _, _ => none
  | f + 1, x1, x2, x3, m => (if (365 : Int32) ≤ x3 then (some (x2, m)) else (cI (fX12_canOn m x1 x3) fun r2 m3 => (cP (fX12_truth r2) fun r4 => (nm (x2 + r4) fun v6 => (gX12_dates f x1 v6 (x3 + (1 : Int32)) m3)))))
def fX12_dates (m : Mem) (x1 : Int32) : Option (Int32 × Mem) := (cP (fX12_isMeet m x1) fun r1 => (if r1 = 0 then (some ((-1 : Int32), m)) else (cV (fX12_load m) fun m5 => (gX12_dates 5000 x1 (0 : Int32) (0 : Int32) m5))))
set_option maxHeartbeats 4000000 in
set_option maxRecDepth 100000 in
theorem wX12_dates {X : Cx} {G : Gt} (h : OkX (X, G, wM, nM) cX12_dates RX12 4 (some .int) 7) : ∀ f : Nat, (∀ (x1 : Int32) (x2 : Int32) (x3 : Int32) (m : Mem), JR (X, G, wM, nM) cvI m 18 [some (.ref (G.2.2 0)), some (.int x1), some (.int x2), some (.int x3)] [] (gX12_dates f x1 x2 x3 m)) := by
  intro f
  induction f with
  | zero => exact (fun _ _ _ _ => j_none)
  | succ f ih =>
    intro x1 x2 x3 m
    rw [gX12_dates]
    refine j_iload_n h dX12_dates_18 rfl ?_
    refine j_sipush (v := (365 : Int32)) h dX12_dates_19 ksipush_365 ?_
    refine j_icmp_ge (tgt := 43) h dX12_dates_22 (by decide) (fun c1 => ?_) (fun c1 => ?_)
    · refine j_iload_n h dX12_dates_43 rfl ?_
      exact j_iret h rfl dX12_dates_44
    · refine j_iload_n h dX12_dates_25 rfl ?_
      refine j_aload_n h dX12_dates_26 rfl ?_
      refine j_iload_n h dX12_dates_27 rfl ?_
      refine j_iload_n h dX12_dates_28 rfl ?_
      refine j_callVI (q0 := 0) (ci := 12) h [.int x1, .int x3] (kX12_canOn _ G h.2.2.2.2.2.2.2.2.2.2 m x1 x3) okX12_canOn inX12_canOn ml12_480 rfl rfl rfl rfl (by decide) (by decide) (Nat.le_of_ble_eq_true rfl) rfl dX12_dates_29 (fun r2 m3 hr2 => ?_)
      refine j_callSP h [.int r2] (kX12_truth _ G h.2.2.2.2.2.2.2.2.2.2 m3 r2) okX12_truth stX12_truth ml12_322 rfl rfl (by decide) (by decide) (Nat.le_of_ble_eq_true rfl) rfl dX12_dates_32 (fun r4 hr4 => ?_)
      refine j_iadd h dX12_dates_35 ?_
      refine j_nm (fun v6 hv6 => ?_)
      refine j_istore_n h dX12_dates_36 rfl rfl ?_
      refine j_iinc (v := (x3 + (1 : Int32))) h dX12_dates_37 rfl (by rw [kiconst_1]) rfl ?_
      refine j_goto (tgt := 18) h dX12_dates_40 (by decide) ?_
      refine j_wk (ls' := [some (.ref (G.2.2 0)), some (.int x1), some (.int v6), some (.int (x3 + (1 : Int32)))]) (And.intro rfl (And.intro rfl (And.intro rfl (And.intro rfl trivial)))) ?_
      exact ih x1 v6 (x3 + (1 : Int32)) m3
set_option maxHeartbeats 4000000 in
set_option maxRecDepth 100000 in
theorem kX12_dates (l : Launch) (G : Gt) (hD : ∀ m, va_D (inA G nM) (wM G m)) (m : Mem) (x1 : Int32) : ∀ a, fX12_dates m x1 = some a → Ct l G wM nM yX12_dates cX12_dates 4 (some .int) 7 [.ref (G.2.2 0), .int x1] m (cvI a) := by
  refine ct_of (own := RX12) (ls0 := [some (.ref (G.2.2 0)), some (.int x1), none, none]) (by decide) rfl rfl rfl (Nat.le_of_ble_eq_true rfl) hD (fun X h => ?_) l
  unfold fX12_dates
  refine j_aload_n h dX12_dates_0 rfl ?_
  refine j_iload_n h dX12_dates_1 rfl ?_
  refine j_callVP (q0 := 0) (ci := 12) h [.int x1] (kX12_isMeet _ G h.2.2.2.2.2.2.2.2.2.2 m x1) okX12_isMeet inX12_isMeet ml12_459 rfl rfl rfl rfl (by decide) (by decide) (Nat.le_of_ble_eq_true rfl) rfl dX12_dates_2 (fun r1 hr1 => ?_)
  refine j_if_ne (tgt := 10) h dX12_dates_5 (by decide) (fun c3 => ?_) (fun c3 => ?_)
  · refine j_aload_n h dX12_dates_10 rfl ?_
    refine j_callVV (q0 := 0) (ci := 12) h [] (kX12_load _ G h.2.2.2.2.2.2.2.2.2.2 m) okX12_load inX12_load ml12_426 rfl rfl rfl rfl (by decide) (by decide) (Nat.le_of_ble_eq_true rfl) rfl dX12_dates_11 (fun m5 hm5 => ?_)
    refine j_iconst (v := (0 : Int32)) h dX12_dates_14 kiconst_0 ?_
    refine j_istore_n h dX12_dates_15 rfl rfl ?_
    refine j_iconst (v := (0 : Int32)) h dX12_dates_16 kiconst_0 ?_
    refine j_istore_n h dX12_dates_17 rfl rfl ?_
    refine j_wk (ls' := [some (.ref (G.2.2 0)), some (.int x1), some (.int (0 : Int32)), some (.int (0 : Int32))]) (And.intro rfl (And.intro rfl (And.intro rfl (And.intro rfl trivial)))) ?_
    exact (wX12_dates h 5000) x1 (0 : Int32) (0 : Int32) m5
  · refine j_iconst (v := (-1 : Int32)) h dX12_dates_8 kiconst_m1 ?_
    exact j_iret h rfl dX12_dates_9
theorem dX12_harmed_0 : DD cX12_harmed 0 (.aload_n 0) 1 1 := ⟨by decide +kernel, rfl⟩
theorem dX12_harmed_1 : DD cX12_harmed 1 (.iload_n 1) 1 2 := ⟨by decide +kernel, rfl⟩
theorem dX12_harmed_2 : DD cX12_harmed 2 (.invokevirtual 450) 3 5 := ⟨by decide +kernel, rfl⟩
theorem dX12_harmed_5 : DD cX12_harmed 5 (.ifCond .eq 10) 3 8 := ⟨by decide +kernel, rfl⟩
theorem dX12_harmed_8 : DD cX12_harmed 8 (.iload_n 2) 1 9 := ⟨by decide +kernel, rfl⟩
theorem dX12_harmed_9 : DD cX12_harmed 9 (.invokestatic 462) 3 12 := ⟨by decide +kernel, rfl⟩
theorem dX12_harmed_12 : DD cX12_harmed 12 (.ifCond .ne 5) 3 15 := ⟨by decide +kernel, rfl⟩
theorem dX12_harmed_15 : DD cX12_harmed 15 (.iconst (-1)) 1 16 := ⟨by decide +kernel, rfl⟩
theorem dX12_harmed_16 : DD cX12_harmed 16 (.ireturn) 1 17 := ⟨by decide +kernel, rfl⟩
theorem dX12_harmed_17 : DD cX12_harmed 17 (.aload_n 0) 1 18 := ⟨by decide +kernel, rfl⟩
theorem dX12_harmed_18 : DD cX12_harmed 18 (.iload_n 2) 1 19 := ⟨by decide +kernel, rfl⟩
theorem dX12_harmed_19 : DD cX12_harmed 19 (.invokevirtual 453) 3 22 := ⟨by decide +kernel, rfl⟩
theorem dX12_harmed_22 : DD cX12_harmed 22 (.aload_n 0) 1 23 := ⟨by decide +kernel, rfl⟩
theorem dX12_harmed_23 : DD cX12_harmed 23 (.iload_n 1) 1 24 := ⟨by decide +kernel, rfl⟩
theorem dX12_harmed_24 : DD cX12_harmed 24 (.invokevirtual 438) 3 27 := ⟨by decide +kernel, rfl⟩
theorem dX12_harmed_27 : DD cX12_harmed 27 (.ireturn) 1 28 := ⟨by decide +kernel, rfl⟩
def fX12_harmed (m : Mem) (x1 : Int32) (x2 : Int32) : Option (Int32 × Mem) := (cP (fX12_isPerson m x1) fun r1 => (if r1 = 0 then (some ((-1 : Int32), m)) else (cP (fX12_isDate x2) fun r4 => (if r4 = 0 then (some ((-1 : Int32), m)) else (cV (fX12_loadDate m x2) fun m8 => (cP (fX12_harmOf m8 x1) fun r9 => (some (r9, m8))))))))
set_option maxHeartbeats 4000000 in
set_option maxRecDepth 100000 in
theorem kX12_harmed (l : Launch) (G : Gt) (hD : ∀ m, va_D (inA G nM) (wM G m)) (m : Mem) (x1 : Int32) (x2 : Int32) : ∀ a, fX12_harmed m x1 x2 = some a → Ct l G wM nM yX12_harmed cX12_harmed 3 (some .int) 7 [.ref (G.2.2 0), .int x1, .int x2] m (cvI a) := by
  refine ct_of (own := RX12) (ls0 := [some (.ref (G.2.2 0)), some (.int x1), some (.int x2)]) (by decide) rfl rfl rfl (Nat.le_of_ble_eq_true rfl) hD (fun X h => ?_) l
  unfold fX12_harmed
  refine j_aload_n h dX12_harmed_0 rfl ?_
  refine j_iload_n h dX12_harmed_1 rfl ?_
  refine j_callVP (q0 := 0) (ci := 12) h [.int x1] (kX12_isPerson _ G h.2.2.2.2.2.2.2.2.2.2 m x1) okX12_isPerson inX12_isPerson ml12_450 rfl rfl rfl rfl (by decide) (by decide) (Nat.le_of_ble_eq_true rfl) rfl dX12_harmed_2 (fun r1 hr1 => ?_)
  refine j_if_eq (tgt := 15) h dX12_harmed_5 (by decide) (fun c3 => ?_) (fun c3 => ?_)
  · refine j_iconst (v := (-1 : Int32)) h dX12_harmed_15 kiconst_m1 ?_
    exact j_iret h rfl dX12_harmed_16
  · refine j_iload_n h dX12_harmed_8 rfl ?_
    refine j_callSP h [.int x2] (kX12_isDate _ G h.2.2.2.2.2.2.2.2.2.2 m x2) okX12_isDate stX12_isDate ml12_462 rfl rfl (by decide) (by decide) (Nat.le_of_ble_eq_true rfl) rfl dX12_harmed_9 (fun r4 hr4 => ?_)
    refine j_if_ne (tgt := 17) h dX12_harmed_12 (by decide) (fun c6 => ?_) (fun c6 => ?_)
    · refine j_aload_n h dX12_harmed_17 rfl ?_
      refine j_iload_n h dX12_harmed_18 rfl ?_
      refine j_callVV (q0 := 0) (ci := 12) h [.int x2] (kX12_loadDate _ G h.2.2.2.2.2.2.2.2.2.2 m x2) okX12_loadDate inX12_loadDate ml12_453 rfl rfl rfl rfl (by decide) (by decide) (Nat.le_of_ble_eq_true rfl) rfl dX12_harmed_19 (fun m8 hm8 => ?_)
      refine j_aload_n h dX12_harmed_22 rfl ?_
      refine j_iload_n h dX12_harmed_23 rfl ?_
      refine j_callVP (q0 := 0) (ci := 12) h [.int x1] (kX12_harmOf _ G h.2.2.2.2.2.2.2.2.2.2 m8 x1) okX12_harmOf inX12_harmOf ml12_438 rfl rfl rfl rfl (by decide) (by decide) (Nat.le_of_ble_eq_true rfl) rfl dX12_harmed_24 (fun r9 hr9 => ?_)
      exact j_iret h rfl dX12_harmed_27
    · refine j_iconst (v := (-1 : Int32)) h dX12_harmed_15 kiconst_m1 ?_
      exact j_iret h rfl dX12_harmed_16
theorem dX12_blissHere_0 : DD cX12_blissHere 0 (.aload_n 0) 1 1 := ⟨by decide +kernel, rfl⟩
theorem dX12_blissHere_1 : DD cX12_blissHere 1 (.invokevirtual 483) 3 4 := ⟨by decide +kernel, rfl⟩
theorem dX12_blissHere_4 : DD cX12_blissHere 4 (.ineg) 1 5 := ⟨by decide +kernel, rfl⟩
theorem dX12_blissHere_5 : DD cX12_blissHere 5 (.istore_n 1) 1 6 := ⟨by decide +kernel, rfl⟩
theorem dX12_blissHere_6 : DD cX12_blissHere 6 (.iconst 0) 1 7 := ⟨by decide +kernel, rfl⟩
theorem dX12_blissHere_7 : DD cX12_blissHere 7 (.istore_n 2) 1 8 := ⟨by decide +kernel, rfl⟩
theorem dX12_blissHere_8 : DD cX12_blissHere 8 (.iload_n 2) 1 9 := ⟨by decide +kernel, rfl⟩
theorem dX12_blissHere_9 : DD cX12_blissHere 9 (.aload_n 0) 1 10 := ⟨by decide +kernel, rfl⟩
theorem dX12_blissHere_10 : DD cX12_blissHere 10 (.getfield 381) 3 13 := ⟨by decide +kernel, rfl⟩
theorem dX12_blissHere_13 : DD cX12_blissHere 13 (.if_icmp .ge 30) 3 16 := ⟨by decide +kernel, rfl⟩
theorem dX12_blissHere_16 : DD cX12_blissHere 16 (.iload_n 1) 1 17 := ⟨by decide +kernel, rfl⟩
theorem dX12_blissHere_17 : DD cX12_blissHere 17 (.aload_n 0) 1 18 := ⟨by decide +kernel, rfl⟩
theorem dX12_blissHere_18 : DD cX12_blissHere 18 (.iload_n 2) 1 19 := ⟨by decide +kernel, rfl⟩
theorem dX12_blissHere_19 : DD cX12_blissHere 19 (.invokevirtual 447) 3 22 := ⟨by decide +kernel, rfl⟩
theorem dX12_blissHere_22 : DD cX12_blissHere 22 (.ifCond .eq 12) 3 25 := ⟨by decide +kernel, rfl⟩
theorem dX12_blissHere_25 : DD cX12_blissHere 25 (.aload_n 0) 1 26 := ⟨by decide +kernel, rfl⟩
theorem dX12_blissHere_26 : DD cX12_blissHere 26 (.getfield 91) 3 29 := ⟨by decide +kernel, rfl⟩
theorem dX12_blissHere_29 : DD cX12_blissHere 29 (.iload_n 2) 1 30 := ⟨by decide +kernel, rfl⟩
theorem dX12_blissHere_30 : DD cX12_blissHere 30 (.iaload) 1 31 := ⟨by decide +kernel, rfl⟩
theorem dX12_blissHere_31 : DD cX12_blissHere 31 (.goto 4) 3 34 := ⟨by decide +kernel, rfl⟩
theorem dX12_blissHere_34 : DD cX12_blissHere 34 (.iconst 0) 1 35 := ⟨by decide +kernel, rfl⟩
theorem dX12_blissHere_35 : DD cX12_blissHere 35 (.iadd) 1 36 := ⟨by decide +kernel, rfl⟩
theorem dX12_blissHere_36 : DD cX12_blissHere 36 (.istore_n 1) 1 37 := ⟨by decide +kernel, rfl⟩
theorem dX12_blissHere_37 : DD cX12_blissHere 37 (.iinc 2 1) 3 40 := ⟨by decide +kernel, rfl⟩
theorem dX12_blissHere_40 : DD cX12_blissHere 40 (.goto (-32)) 3 43 := ⟨by decide +kernel, rfl⟩
theorem dX12_blissHere_43 : DD cX12_blissHere 43 (.iload_n 1) 1 44 := ⟨by decide +kernel, rfl⟩
theorem dX12_blissHere_44 : DD cX12_blissHere 44 (.ireturn) 1 45 := ⟨by decide +kernel, rfl⟩
def gX12_blissHere (m : Mem) : Nat → Int32 → Int32 → Option Int32
  | 0, _, _ => none
  | f + 1, x1, x2 => (if (m.1 0 52) ≤ x2 then (some x1) else (cP (fX12_canMeet m x2) fun r2 => (if r2 = 0 then (nm (x1 + (0 : Int32)) fun v5 => (gX12_blissHere m f v5 (x2 + (1 : Int32)))) else (rd (m.1 26) 10 x2 fun v6 => (nm (x1 + v6) fun v7 => (gX12_blissHere m f v7 (x2 + (1 : Int32))))))))
def fX12_blissHere (m : Mem) : Option Int32 := (cP (fX12_allHarm m) fun r1 => (gX12_blissHere m 5000 (-r1) (0 : Int32)))
set_option maxHeartbeats 4000000 in
set_option maxRecDepth 100000 in
theorem wX12_blissHere {X : Cx} {G : Gt} (h : OkX (X, G, wM, nM) cX12_blissHere RX12 3 (some .int) 5) (m : Mem) : ∀ f : Nat, (∀ (x1 : Int32) (x2 : Int32), JR (X, G, wM, nM) (cvP m) m 8 [some (.ref (G.2.2 0)), some (.int x1), some (.int x2)] [] (gX12_blissHere m f x1 x2)) := by
  intro f
  induction f with
  | zero => exact (fun _ _ => j_none)
  | succ f ih =>
    intro x1 x2
    rw [gX12_blissHere]
    refine j_iload_n h dX12_blissHere_8 rfl ?_
    refine j_aload_n h dX12_blissHere_9 rfl ?_
    refine gM_52 h dX12_blissHere_10 ?_
    refine j_icmp_ge (tgt := 43) h dX12_blissHere_13 (by decide) (fun c1 => ?_) (fun c1 => ?_)
    · refine j_iload_n h dX12_blissHere_43 rfl ?_
      exact j_iret h rfl dX12_blissHere_44
    · refine j_iload_n h dX12_blissHere_16 rfl ?_
      refine j_aload_n h dX12_blissHere_17 rfl ?_
      refine j_iload_n h dX12_blissHere_18 rfl ?_
      refine j_callVP (q0 := 0) (ci := 12) h [.int x2] (kX12_canMeet _ G h.2.2.2.2.2.2.2.2.2.2 m x2) okX12_canMeet inX12_canMeet ml12_447 rfl rfl rfl rfl (by decide) (by decide) (Nat.le_of_ble_eq_true rfl) rfl dX12_blissHere_19 (fun r2 hr2 => ?_)
      refine j_if_eq (tgt := 34) h dX12_blissHere_22 (by decide) (fun c4 => ?_) (fun c4 => ?_)
      · refine j_iconst (v := (0 : Int32)) h dX12_blissHere_34 kiconst_0 ?_
        refine j_iadd h dX12_blissHere_35 ?_
        refine j_nm (fun v5 hv5 => ?_)
        refine j_istore_n h dX12_blissHere_36 rfl rfl ?_
        refine j_iinc (v := (x2 + (1 : Int32))) h dX12_blissHere_37 rfl (by rw [kiconst_1]) rfl ?_
        refine j_goto (tgt := 8) h dX12_blissHere_40 (by decide) ?_
        refine j_wk (ls' := [some (.ref (G.2.2 0)), some (.int v5), some (.int (x2 + (1 : Int32)))]) (And.intro rfl (And.intro rfl (And.intro rfl trivial))) ?_
        exact ih v5 (x2 + (1 : Int32))
      · refine j_aload_n h dX12_blissHere_25 rfl ?_
        refine gM_40 h dX12_blissHere_26 ?_
        refine j_iload_n h dX12_blissHere_29 rfl ?_
        refine aM_26 h dX12_blissHere_30 (fun v6 hv6 => ?_)
        refine j_goto (tgt := 35) h dX12_blissHere_31 (by decide) ?_
        refine j_iadd h dX12_blissHere_35 ?_
        refine j_nm (fun v7 hv7 => ?_)
        refine j_istore_n h dX12_blissHere_36 rfl rfl ?_
        refine j_iinc (v := (x2 + (1 : Int32))) h dX12_blissHere_37 rfl (by rw [kiconst_1]) rfl ?_
        refine j_goto (tgt := 8) h dX12_blissHere_40 (by decide) ?_
        refine j_wk (ls' := [some (.ref (G.2.2 0)), some (.int v7), some (.int (x2 + (1 : Int32)))]) (And.intro rfl (And.intro rfl (And.intro rfl trivial))) ?_
        exact ih v7 (x2 + (1 : Int32))
set_option maxHeartbeats 4000000 in
set_option maxRecDepth 100000 in
theorem kX12_blissHere (l : Launch) (G : Gt) (hD : ∀ m, va_D (inA G nM) (wM G m)) (m : Mem) : ∀ a, fX12_blissHere m = some a → Ct l G wM nM yX12_blissHere cX12_blissHere 3 (some .int) 5 [.ref (G.2.2 0)] m ((cvP m) a) := by
  refine ct_of (own := RX12) (ls0 := [some (.ref (G.2.2 0)), none, none]) (by decide) rfl rfl rfl (Nat.le_of_ble_eq_true rfl) hD (fun X h => ?_) l
  unfold fX12_blissHere
  refine j_aload_n h dX12_blissHere_0 rfl ?_
  refine j_callVP (q0 := 0) (ci := 12) h [] (kX12_allHarm _ G h.2.2.2.2.2.2.2.2.2.2 m) okX12_allHarm inX12_allHarm ml12_483 rfl rfl rfl rfl (by decide) (by decide) (Nat.le_of_ble_eq_true rfl) rfl dX12_blissHere_1 (fun r1 hr1 => ?_)
  refine j_ineg h dX12_blissHere_4 ?_
  refine j_istore_n h dX12_blissHere_5 rfl rfl ?_
  refine j_iconst (v := (0 : Int32)) h dX12_blissHere_6 kiconst_0 ?_
  refine j_istore_n h dX12_blissHere_7 rfl rfl ?_
  refine j_wk (ls' := [some (.ref (G.2.2 0)), some (.int (-r1)), some (.int (0 : Int32))]) (And.intro rfl (And.intro rfl (And.intro rfl trivial))) ?_
  exact (wX12_blissHere h m 5000) (-r1) (0 : Int32)
