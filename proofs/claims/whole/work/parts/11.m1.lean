theorem dX12_add_0 : DD cX12_add 0 (.aload_n 0) 1 1 := ⟨by decide +kernel, rfl⟩
theorem dX12_add_1 : DD cX12_add 1 (.getfield 21) 3 4 := ⟨by decide +kernel, rfl⟩
theorem dX12_add_4 : DD cX12_add 4 (.sipush 320) 3 7 := ⟨by decide +kernel, rfl⟩
theorem dX12_add_7 : DD cX12_add 7 (.aload_n 0) 1 8 := ⟨by decide +kernel, rfl⟩
theorem dX12_add_8 : DD cX12_add 8 (.getfield 270) 3 11 := ⟨by decide +kernel, rfl⟩
theorem dX12_add_11 : DD cX12_add 11 (.imul) 1 12 := ⟨by decide +kernel, rfl⟩
theorem dX12_add_12 : DD cX12_add 12 (.aload_n 0) 1 13 := ⟨by decide +kernel, rfl⟩
theorem dX12_add_13 : DD cX12_add 13 (.getfield 27) 3 16 := ⟨by decide +kernel, rfl⟩
theorem dX12_add_16 : DD cX12_add 16 (.aload_n 0) 1 17 := ⟨by decide +kernel, rfl⟩
theorem dX12_add_17 : DD cX12_add 17 (.getfield 270) 3 20 := ⟨by decide +kernel, rfl⟩
theorem dX12_add_20 : DD cX12_add 20 (.iaload) 1 21 := ⟨by decide +kernel, rfl⟩
theorem dX12_add_21 : DD cX12_add 21 (.iadd) 1 22 := ⟨by decide +kernel, rfl⟩
theorem dX12_add_22 : DD cX12_add 22 (.iload_n 1) 1 23 := ⟨by decide +kernel, rfl⟩
theorem dX12_add_23 : DD cX12_add 23 (.iastore) 1 24 := ⟨by decide +kernel, rfl⟩
theorem dX12_add_24 : DD cX12_add 24 (.aload_n 0) 1 25 := ⟨by decide +kernel, rfl⟩
theorem dX12_add_25 : DD cX12_add 25 (.getfield 24) 3 28 := ⟨by decide +kernel, rfl⟩
theorem dX12_add_28 : DD cX12_add 28 (.sipush 320) 3 31 := ⟨by decide +kernel, rfl⟩
theorem dX12_add_31 : DD cX12_add 31 (.aload_n 0) 1 32 := ⟨by decide +kernel, rfl⟩
theorem dX12_add_32 : DD cX12_add 32 (.getfield 270) 3 35 := ⟨by decide +kernel, rfl⟩
theorem dX12_add_35 : DD cX12_add 35 (.imul) 1 36 := ⟨by decide +kernel, rfl⟩
theorem dX12_add_36 : DD cX12_add 36 (.aload_n 0) 1 37 := ⟨by decide +kernel, rfl⟩
theorem dX12_add_37 : DD cX12_add 37 (.getfield 27) 3 40 := ⟨by decide +kernel, rfl⟩
theorem dX12_add_40 : DD cX12_add 40 (.aload_n 0) 1 41 := ⟨by decide +kernel, rfl⟩
theorem dX12_add_41 : DD cX12_add 41 (.getfield 270) 3 44 := ⟨by decide +kernel, rfl⟩
theorem dX12_add_44 : DD cX12_add 44 (.iaload) 1 45 := ⟨by decide +kernel, rfl⟩
theorem dX12_add_45 : DD cX12_add 45 (.iadd) 1 46 := ⟨by decide +kernel, rfl⟩
theorem dX12_add_46 : DD cX12_add 46 (.iload_n 2) 1 47 := ⟨by decide +kernel, rfl⟩
theorem dX12_add_47 : DD cX12_add 47 (.iastore) 1 48 := ⟨by decide +kernel, rfl⟩
theorem dX12_add_48 : DD cX12_add 48 (.aload_n 0) 1 49 := ⟨by decide +kernel, rfl⟩
theorem dX12_add_49 : DD cX12_add 49 (.getfield 27) 3 52 := ⟨by decide +kernel, rfl⟩
theorem dX12_add_52 : DD cX12_add 52 (.aload_n 0) 1 53 := ⟨by decide +kernel, rfl⟩
theorem dX12_add_53 : DD cX12_add 53 (.getfield 270) 3 56 := ⟨by decide +kernel, rfl⟩
theorem dX12_add_56 : DD cX12_add 56 (.dup2) 1 57 := ⟨by decide +kernel, rfl⟩
theorem dX12_add_57 : DD cX12_add 57 (.iaload) 1 58 := ⟨by decide +kernel, rfl⟩
theorem dX12_add_58 : DD cX12_add 58 (.iconst 1) 1 59 := ⟨by decide +kernel, rfl⟩
theorem dX12_add_59 : DD cX12_add 59 (.iadd) 1 60 := ⟨by decide +kernel, rfl⟩
theorem dX12_add_60 : DD cX12_add 60 (.iastore) 1 61 := ⟨by decide +kernel, rfl⟩
theorem dX12_add_61 : DD cX12_add 61 (.return_) 1 62 := ⟨by decide +kernel, rfl⟩
def fX12_add (m : Mem) (x1 : Int32) (x2 : Int32) : Option Mem := (rd (m.1 5) 3 (m.1 0 21) fun v1 => (wr m 3 960 (((320 : Int32) * (m.1 0 21)) + v1) x1 fun m2 => (rd (m2.1 5) 3 (m2.1 0 21) fun v3 => (wr m2 4 960 (((320 : Int32) * (m2.1 0 21)) + v3) x2 fun m4 => (nm (m4.1 0 21) fun v5 => (rd (m4.1 5) 3 v5 fun v6 => (wr m4 5 3 v5 (v6 + (1 : Int32)) fun m7 => (some m7))))))))
set_option maxHeartbeats 4000000 in
set_option maxRecDepth 100000 in
theorem kX12_add (l : Launch) (G : Gt) (hD : ∀ m, va_D (inA G nM) (wM G m)) (m : Mem) (x1 : Int32) (x2 : Int32) : ∀ a, fX12_add m x1 x2 = some a → Ct l G wM nM yX12_add cX12_add 3 none 1 [.ref (G.2.2 0), .int x1, .int x2] m (cvV a) := by
  refine ct_of (own := RX12) (ls0 := [some (.ref (G.2.2 0)), some (.int x1), some (.int x2)]) (by decide) rfl rfl rfl (Nat.le_of_ble_eq_true rfl) hD (fun X h => ?_) l
  unfold fX12_add
  refine j_aload_n h dX12_add_0 rfl ?_
  refine gM_11 h dX12_add_1 ?_
  refine j_sipush (v := (320 : Int32)) h dX12_add_4 ksipush_320 ?_
  refine j_aload_n h dX12_add_7 rfl ?_
  refine gM_21 h dX12_add_8 ?_
  refine j_imul h dX12_add_11 ?_
  refine j_aload_n h dX12_add_12 rfl ?_
  refine gM_13 h dX12_add_13 ?_
  refine j_aload_n h dX12_add_16 rfl ?_
  refine gM_21 h dX12_add_17 ?_
  refine aM_5 h dX12_add_20 (fun v1 hv1 => ?_)
  refine j_iadd h dX12_add_21 ?_
  refine j_iload_n h dX12_add_22 rfl ?_
  refine bM_3 h dX12_add_23 (fun m2 hm2 => ?_)
  refine j_aload_n h dX12_add_24 rfl ?_
  refine gM_12 h dX12_add_25 ?_
  refine j_sipush (v := (320 : Int32)) h dX12_add_28 ksipush_320 ?_
  refine j_aload_n h dX12_add_31 rfl ?_
  refine gM_21 h dX12_add_32 ?_
  refine j_imul h dX12_add_35 ?_
  refine j_aload_n h dX12_add_36 rfl ?_
  refine gM_13 h dX12_add_37 ?_
  refine j_aload_n h dX12_add_40 rfl ?_
  refine gM_21 h dX12_add_41 ?_
  refine aM_5 h dX12_add_44 (fun v3 hv3 => ?_)
  refine j_iadd h dX12_add_45 ?_
  refine j_iload_n h dX12_add_46 rfl ?_
  refine bM_4 h dX12_add_47 (fun m4 hm4 => ?_)
  refine j_aload_n h dX12_add_48 rfl ?_
  refine gM_13 h dX12_add_49 ?_
  refine j_aload_n h dX12_add_52 rfl ?_
  refine gM_21 h dX12_add_53 ?_
  refine j_nm (fun v5 hv5 => ?_)
  refine j_dup2 h dX12_add_56 rfl rfl ?_
  refine aM_5 h dX12_add_57 (fun v6 hv6 => ?_)
  refine j_iconst (v := (1 : Int32)) h dX12_add_58 kiconst_1 ?_
  refine j_iadd h dX12_add_59 ?_
  refine bM_5 h dX12_add_60 (fun m7 hm7 => ?_)
  exact j_vret h rfl dX12_add_61
theorem dX12_tight_0 : DD cX12_tight 0 (.iload_n 0) 1 1 := ⟨by decide +kernel, rfl⟩
theorem dX12_tight_1 : DD cX12_tight 1 (.lookupswitch 85 #[(21, 79), (38, 77), (43, 83), (45, 83), (60, 81), (61, 81), (62, 81), (124, 75)]) 75 76 := ⟨by decide +kernel, rfl⟩
theorem dX12_tight_76 : DD cX12_tight 76 (.iconst 1) 1 77 := ⟨by decide +kernel, rfl⟩
theorem dX12_tight_77 : DD cX12_tight 77 (.ireturn) 1 78 := ⟨by decide +kernel, rfl⟩
theorem dX12_tight_78 : DD cX12_tight 78 (.iconst 2) 1 79 := ⟨by decide +kernel, rfl⟩
theorem dX12_tight_79 : DD cX12_tight 79 (.ireturn) 1 80 := ⟨by decide +kernel, rfl⟩
theorem dX12_tight_80 : DD cX12_tight 80 (.iconst 3) 1 81 := ⟨by decide +kernel, rfl⟩
theorem dX12_tight_81 : DD cX12_tight 81 (.ireturn) 1 82 := ⟨by decide +kernel, rfl⟩
theorem dX12_tight_82 : DD cX12_tight 82 (.iconst 4) 1 83 := ⟨by decide +kernel, rfl⟩
theorem dX12_tight_83 : DD cX12_tight 83 (.ireturn) 1 84 := ⟨by decide +kernel, rfl⟩
theorem dX12_tight_84 : DD cX12_tight 84 (.iconst 5) 1 85 := ⟨by decide +kernel, rfl⟩
theorem dX12_tight_85 : DD cX12_tight 85 (.ireturn) 1 86 := ⟨by decide +kernel, rfl⟩
theorem dX12_tight_86 : DD cX12_tight 86 (.bipush 6) 2 88 := ⟨by decide +kernel, rfl⟩
theorem dX12_tight_88 : DD cX12_tight 88 (.ireturn) 1 89 := ⟨by decide +kernel, rfl⟩
def fX12_tight (x0 : Int32) : Option Int32 := (if x0 = (21 : Int32) then (some (3 : Int32)) else (if x0 = (38 : Int32) then (some (2 : Int32)) else (if x0 = (43 : Int32) then (some (5 : Int32)) else (if x0 = (45 : Int32) then (some (5 : Int32)) else (if x0 = (60 : Int32) then (some (4 : Int32)) else (if x0 = (61 : Int32) then (some (4 : Int32)) else (if x0 = (62 : Int32) then (some (4 : Int32)) else (if x0 = (124 : Int32) then (some (1 : Int32)) else (some (6 : Int32))))))))))
set_option maxHeartbeats 4000000 in
set_option maxRecDepth 100000 in
theorem kX12_tight (l : Launch) (G : Gt) (hD : ∀ m, va_D (inA G nM) (wM G m)) (m : Mem) (x0 : Int32) : ∀ a, fX12_tight x0 = some a → Ct l G wM nM yX12_tight cX12_tight 1 (some .int) 1 [.int x0] m ((cvP m) a) := by
  refine ct_of (own := RX12) (ls0 := [some (.int x0)]) (by decide) rfl rfl rfl (Nat.le_of_ble_eq_true rfl) hD (fun X h => ?_) l
  unfold fX12_tight
  refine j_iload_n h dX12_tight_0 rfl ?_
  by_cases c1 : x0 = (21 : Int32)
  · rw [if_pos c1]
    refine j_lookup (off := 79) (tgt := 80) h dX12_tight_1 (by decide) (by rw [c1]; decide) (by decide) ?_
    refine j_iconst (v := (3 : Int32)) h dX12_tight_80 kiconst_3 ?_
    exact j_iret h rfl dX12_tight_81
  · rw [if_neg c1]
    by_cases c2 : x0 = (38 : Int32)
    · rw [if_pos c2]
      refine j_lookup (off := 77) (tgt := 78) h dX12_tight_1 (by decide) (by rw [c2]; decide) (by decide) ?_
      refine j_iconst (v := (2 : Int32)) h dX12_tight_78 kiconst_2 ?_
      exact j_iret h rfl dX12_tight_79
    · rw [if_neg c2]
      by_cases c3 : x0 = (43 : Int32)
      · rw [if_pos c3]
        refine j_lookup (off := 83) (tgt := 84) h dX12_tight_1 (by decide) (by rw [c3]; decide) (by decide) ?_
        refine j_iconst (v := (5 : Int32)) h dX12_tight_84 kiconst_5 ?_
        exact j_iret h rfl dX12_tight_85
      · rw [if_neg c3]
        by_cases c4 : x0 = (45 : Int32)
        · rw [if_pos c4]
          refine j_lookup (off := 83) (tgt := 84) h dX12_tight_1 (by decide) (by rw [c4]; decide) (by decide) ?_
          refine j_iconst (v := (5 : Int32)) h dX12_tight_84 kiconst_5 ?_
          exact j_iret h rfl dX12_tight_85
        · rw [if_neg c4]
          by_cases c5 : x0 = (60 : Int32)
          · rw [if_pos c5]
            refine j_lookup (off := 81) (tgt := 82) h dX12_tight_1 (by decide) (by rw [c5]; decide) (by decide) ?_
            refine j_iconst (v := (4 : Int32)) h dX12_tight_82 kiconst_4 ?_
            exact j_iret h rfl dX12_tight_83
          · rw [if_neg c5]
            by_cases c6 : x0 = (61 : Int32)
            · rw [if_pos c6]
              refine j_lookup (off := 81) (tgt := 82) h dX12_tight_1 (by decide) (by rw [c6]; decide) (by decide) ?_
              refine j_iconst (v := (4 : Int32)) h dX12_tight_82 kiconst_4 ?_
              exact j_iret h rfl dX12_tight_83
            · rw [if_neg c6]
              by_cases c7 : x0 = (62 : Int32)
              · rw [if_pos c7]
                refine j_lookup (off := 81) (tgt := 82) h dX12_tight_1 (by decide) (by rw [c7]; decide) (by decide) ?_
                refine j_iconst (v := (4 : Int32)) h dX12_tight_82 kiconst_4 ?_
                exact j_iret h rfl dX12_tight_83
              · rw [if_neg c7]
                by_cases c8 : x0 = (124 : Int32)
                · rw [if_pos c8]
                  refine j_lookup (off := 75) (tgt := 76) h dX12_tight_1 (by decide) (by rw [c8]; decide) (by decide) ?_
                  refine j_iconst (v := (1 : Int32)) h dX12_tight_76 kiconst_1 ?_
                  exact j_iret h rfl dX12_tight_77
                · rw [if_neg c8]
                  refine j_lookup (off := 85) (tgt := 86) h dX12_tight_1 (by decide) (by simp only []; rw [lv_osw (a := 21) c1 rfl, lv_osw (a := 38) c2 rfl, lv_osw (a := 43) c3 rfl, lv_osw (a := 45) c4 rfl, lv_osw (a := 60) c5 rfl, lv_osw (a := 61) c6 rfl, lv_osw (a := 62) c7 rfl, lv_osw (a := 124) c8 rfl]; rfl) (by decide) ?_
                  refine j_bipush (v := (6 : Int32)) h dX12_tight_86 kbipush_6 ?_
                  exact j_iret h rfl dX12_tight_88
theorem dX12_close_0 : DD cX12_close 0 (.aload_n 0) 1 1 := ⟨by decide +kernel, rfl⟩
theorem dX12_close_1 : DD cX12_close 1 (.getfield 273) 3 4 := ⟨by decide +kernel, rfl⟩
theorem dX12_close_4 : DD cX12_close 4 (.ifCond .le 97) 3 7 := ⟨by decide +kernel, rfl⟩
theorem dX12_close_7 : DD cX12_close 7 (.aload_n 0) 1 8 := ⟨by decide +kernel, rfl⟩
theorem dX12_close_8 : DD cX12_close 8 (.getfield 39) 3 11 := ⟨by decide +kernel, rfl⟩
theorem dX12_close_11 : DD cX12_close 11 (.aload_n 0) 1 12 := ⟨by decide +kernel, rfl⟩
theorem dX12_close_12 : DD cX12_close 12 (.getfield 273) 3 15 := ⟨by decide +kernel, rfl⟩
theorem dX12_close_15 : DD cX12_close 15 (.iconst 1) 1 16 := ⟨by decide +kernel, rfl⟩
theorem dX12_close_16 : DD cX12_close 16 (.isub) 1 17 := ⟨by decide +kernel, rfl⟩
theorem dX12_close_17 : DD cX12_close 17 (.iaload) 1 18 := ⟨by decide +kernel, rfl⟩
theorem dX12_close_18 : DD cX12_close 18 (.bipush 20) 2 20 := ⟨by decide +kernel, rfl⟩
theorem dX12_close_20 : DD cX12_close 20 (.if_icmp .eq 81) 3 23 := ⟨by decide +kernel, rfl⟩
theorem dX12_close_23 : DD cX12_close 23 (.aload_n 0) 1 24 := ⟨by decide +kernel, rfl⟩
theorem dX12_close_24 : DD cX12_close 24 (.getfield 39) 3 27 := ⟨by decide +kernel, rfl⟩
theorem dX12_close_27 : DD cX12_close 27 (.aload_n 0) 1 28 := ⟨by decide +kernel, rfl⟩
theorem dX12_close_28 : DD cX12_close 28 (.getfield 273) 3 31 := ⟨by decide +kernel, rfl⟩
theorem dX12_close_31 : DD cX12_close 31 (.iconst 1) 1 32 := ⟨by decide +kernel, rfl⟩
theorem dX12_close_32 : DD cX12_close 32 (.isub) 1 33 := ⟨by decide +kernel, rfl⟩
theorem dX12_close_33 : DD cX12_close 33 (.iaload) 1 34 := ⟨by decide +kernel, rfl⟩
theorem dX12_close_34 : DD cX12_close 34 (.invokestatic 276) 3 37 := ⟨by decide +kernel, rfl⟩
theorem dX12_close_37 : DD cX12_close 37 (.iload_n 1) 1 38 := ⟨by decide +kernel, rfl⟩
theorem dX12_close_38 : DD cX12_close 38 (.if_icmp .lt 63) 3 41 := ⟨by decide +kernel, rfl⟩
theorem dX12_close_41 : DD cX12_close 41 (.aload_n 0) 1 42 := ⟨by decide +kernel, rfl⟩
theorem dX12_close_42 : DD cX12_close 42 (.dup) 1 43 := ⟨by decide +kernel, rfl⟩
theorem dX12_close_43 : DD cX12_close 43 (.getfield 273) 3 46 := ⟨by decide +kernel, rfl⟩
theorem dX12_close_46 : DD cX12_close 46 (.iconst 1) 1 47 := ⟨by decide +kernel, rfl⟩
theorem dX12_close_47 : DD cX12_close 47 (.isub) 1 48 := ⟨by decide +kernel, rfl⟩
theorem dX12_close_48 : DD cX12_close 48 (.putfield 273) 3 51 := ⟨by decide +kernel, rfl⟩
theorem dX12_close_51 : DD cX12_close 51 (.aload_n 0) 1 52 := ⟨by decide +kernel, rfl⟩
theorem dX12_close_52 : DD cX12_close 52 (.getfield 39) 3 55 := ⟨by decide +kernel, rfl⟩
theorem dX12_close_55 : DD cX12_close 55 (.aload_n 0) 1 56 := ⟨by decide +kernel, rfl⟩
theorem dX12_close_56 : DD cX12_close 56 (.getfield 273) 3 59 := ⟨by decide +kernel, rfl⟩
theorem dX12_close_59 : DD cX12_close 59 (.iaload) 1 60 := ⟨by decide +kernel, rfl⟩
theorem dX12_close_60 : DD cX12_close 60 (.bipush 21) 2 62 := ⟨by decide +kernel, rfl⟩
theorem dX12_close_62 : DD cX12_close 62 (.if_icmp .ne 22) 3 65 := ⟨by decide +kernel, rfl⟩
theorem dX12_close_65 : DD cX12_close 65 (.aload_n 0) 1 66 := ⟨by decide +kernel, rfl⟩
theorem dX12_close_66 : DD cX12_close 66 (.iconst 2) 1 67 := ⟨by decide +kernel, rfl⟩
theorem dX12_close_67 : DD cX12_close 67 (.iconst 0) 1 68 := ⟨by decide +kernel, rfl⟩
theorem dX12_close_68 : DD cX12_close 68 (.invokevirtual 279) 3 71 := ⟨by decide +kernel, rfl⟩
theorem dX12_close_71 : DD cX12_close 71 (.aload_n 0) 1 72 := ⟨by decide +kernel, rfl⟩
theorem dX12_close_72 : DD cX12_close 72 (.dup) 1 73 := ⟨by decide +kernel, rfl⟩
theorem dX12_close_73 : DD cX12_close 73 (.getfield 283) 3 76 := ⟨by decide +kernel, rfl⟩
theorem dX12_close_76 : DD cX12_close 76 (.iconst 1) 1 77 := ⟨by decide +kernel, rfl⟩
theorem dX12_close_77 : DD cX12_close 77 (.isub) 1 78 := ⟨by decide +kernel, rfl⟩
theorem dX12_close_78 : DD cX12_close 78 (.putfield 283) 3 81 := ⟨by decide +kernel, rfl⟩
theorem dX12_close_81 : DD cX12_close 81 (.goto (-81)) 3 84 := ⟨by decide +kernel, rfl⟩
theorem dX12_close_84 : DD cX12_close 84 (.aload_n 0) 1 85 := ⟨by decide +kernel, rfl⟩
theorem dX12_close_85 : DD cX12_close 85 (.iconst 3) 1 86 := ⟨by decide +kernel, rfl⟩
theorem dX12_close_86 : DD cX12_close 86 (.aload_n 0) 1 87 := ⟨by decide +kernel, rfl⟩
theorem dX12_close_87 : DD cX12_close 87 (.getfield 39) 3 90 := ⟨by decide +kernel, rfl⟩
theorem dX12_close_90 : DD cX12_close 90 (.aload_n 0) 1 91 := ⟨by decide +kernel, rfl⟩
theorem dX12_close_91 : DD cX12_close 91 (.getfield 273) 3 94 := ⟨by decide +kernel, rfl⟩
theorem dX12_close_94 : DD cX12_close 94 (.iaload) 1 95 := ⟨by decide +kernel, rfl⟩
theorem dX12_close_95 : DD cX12_close 95 (.invokevirtual 279) 3 98 := ⟨by decide +kernel, rfl⟩
theorem dX12_close_98 : DD cX12_close 98 (.goto (-98)) 3 101 := ⟨by decide +kernel, rfl⟩
theorem dX12_close_101 : DD cX12_close 101 (.return_) 1 102 := ⟨by decide +kernel, rfl⟩
def gX12_close : Nat → Int32 → Mem → Option Mem
  | 0, _, _ => none
  | f + 1, x1, m => (if (m.1 0 22) ≤ 0 then (some m) else (rd (m.1 9) 160 ((m.1 0 22) - (1 : Int32)) fun v2 => (if v2 = (20 : Int32) then (some m) else (rd (m.1 9) 160 ((m.1 0 22) - (1 : Int32)) fun v4 => (cP (fX12_tight v4) fun r5 => (if r5 < x1 then (some m) else (pt (sI m 0 22 ((m.1 0 22) - (1 : Int32))) fun m8 => (rd (m8.1 9) 160 (m8.1 0 22) fun v9 => (if v9 = (21 : Int32) then (cV (fX12_add m8 (2 : Int32) (0 : Int32)) fun m15 => (pt (sI m15 0 26 ((m15.1 0 26) - (1 : Int32))) fun m16 => (gX12_close f x1 m16))) else (rd (m8.1 9) 160 (m8.1 0 22) fun v11 => (cV (fX12_add m8 (3 : Int32) v11) fun m13 => (gX12_close f x1 m13))))))))))))
def fX12_close (m : Mem) (x1 : Int32) : Option Mem := (gX12_close 5000 x1 m)
set_option maxHeartbeats 4000000 in
set_option maxRecDepth 100000 in
theorem wX12_close {X : Cx} {G : Gt} (h : OkX (X, G, wM, nM) cX12_close RX12 2 none 2) : ∀ f : Nat, (∀ (x1 : Int32) (m : Mem), JR (X, G, wM, nM) cvV m 0 [some (.ref (G.2.2 0)), some (.int x1)] [] (gX12_close f x1 m)) := by
  intro f
  induction f with
  | zero => exact (fun _ _ => j_none)
  | succ f ih =>
    intro x1 m
    rw [gX12_close]
    refine j_aload_n h dX12_close_0 rfl ?_
    refine gM_22 h dX12_close_1 ?_
    refine j_if_le (tgt := 101) h dX12_close_4 (by decide) (fun c1 => ?_) (fun c1 => ?_)
    · exact j_vret h rfl dX12_close_101
    · refine j_aload_n h dX12_close_7 rfl ?_
      refine gM_17 h dX12_close_8 ?_
      refine j_aload_n h dX12_close_11 rfl ?_
      refine gM_22 h dX12_close_12 ?_
      refine j_iconst (v := (1 : Int32)) h dX12_close_15 kiconst_1 ?_
      refine j_isub h dX12_close_16 ?_
      refine aM_9 h dX12_close_17 (fun v2 hv2 => ?_)
      refine j_bipush (v := (20 : Int32)) h dX12_close_18 kbipush_20 ?_
      refine j_icmp_eq (tgt := 101) h dX12_close_20 (by decide) (fun c3 => ?_) (fun c3 => ?_)
      · exact j_vret h rfl dX12_close_101
      · refine j_aload_n h dX12_close_23 rfl ?_
        refine gM_17 h dX12_close_24 ?_
        refine j_aload_n h dX12_close_27 rfl ?_
        refine gM_22 h dX12_close_28 ?_
        refine j_iconst (v := (1 : Int32)) h dX12_close_31 kiconst_1 ?_
        refine j_isub h dX12_close_32 ?_
        refine aM_9 h dX12_close_33 (fun v4 hv4 => ?_)
        refine j_callSP h [.int v4] (kX12_tight _ G h.2.2.2.2.2.2.2.2.2.2 m v4) okX12_tight stX12_tight ml12_276 rfl rfl (by decide) (by decide) (Nat.le_of_ble_eq_true rfl) rfl dX12_close_34 (fun r5 hr5 => ?_)
        refine j_iload_n h dX12_close_37 rfl ?_
        refine j_icmp_lt (tgt := 101) h dX12_close_38 (by decide) (fun c7 => ?_) (fun c7 => ?_)
        · exact j_vret h rfl dX12_close_101
        · refine j_aload_n h dX12_close_41 rfl ?_
          refine j_dup h dX12_close_42 rfl ?_
          refine gM_22 h dX12_close_43 ?_
          refine j_iconst (v := (1 : Int32)) h dX12_close_46 kiconst_1 ?_
          refine j_isub h dX12_close_47 ?_
          refine pM_22 h dX12_close_48 (fun m8 hm8 => ?_)
          refine j_aload_n h dX12_close_51 rfl ?_
          refine gM_17 h dX12_close_52 ?_
          refine j_aload_n h dX12_close_55 rfl ?_
          refine gM_22 h dX12_close_56 ?_
          refine aM_9 h dX12_close_59 (fun v9 hv9 => ?_)
          refine j_bipush (v := (21 : Int32)) h dX12_close_60 kbipush_21 ?_
          refine j_icmp_ne (tgt := 84) h dX12_close_62 (by decide) (fun c10 => ?_) (fun c10 => ?_)
          · refine j_aload_n h dX12_close_84 rfl ?_
            refine j_iconst (v := (3 : Int32)) h dX12_close_85 kiconst_3 ?_
            refine j_aload_n h dX12_close_86 rfl ?_
            refine gM_17 h dX12_close_87 ?_
            refine j_aload_n h dX12_close_90 rfl ?_
            refine gM_22 h dX12_close_91 ?_
            refine aM_9 h dX12_close_94 (fun v11 hv11 => ?_)
            refine j_callVV (q0 := 0) (ci := 12) h [.int (3 : Int32), .int v11] (kX12_add _ G h.2.2.2.2.2.2.2.2.2.2 m8 (3 : Int32) v11) okX12_add inX12_add ml12_279 rfl rfl rfl rfl (by decide) (by decide) (Nat.le_of_ble_eq_true rfl) rfl dX12_close_95 (fun m13 hm13 => ?_)
            refine j_goto (tgt := 0) h dX12_close_98 (by decide) ?_
            refine j_wk (ls' := [some (.ref (G.2.2 0)), some (.int x1)]) (And.intro rfl (And.intro rfl trivial)) ?_
            exact ih x1 m13
          · refine j_aload_n h dX12_close_65 rfl ?_
            refine j_iconst (v := (2 : Int32)) h dX12_close_66 kiconst_2 ?_
            refine j_iconst (v := (0 : Int32)) h dX12_close_67 kiconst_0 ?_
            refine j_callVV (q0 := 0) (ci := 12) h [.int (2 : Int32), .int (0 : Int32)] (kX12_add _ G h.2.2.2.2.2.2.2.2.2.2 m8 (2 : Int32) (0 : Int32)) okX12_add inX12_add ml12_279 rfl rfl rfl rfl (by decide) (by decide) (Nat.le_of_ble_eq_true rfl) rfl dX12_close_68 (fun m15 hm15 => ?_)
            refine j_aload_n h dX12_close_71 rfl ?_
            refine j_dup h dX12_close_72 rfl ?_
            refine gM_26 h dX12_close_73 ?_
            refine j_iconst (v := (1 : Int32)) h dX12_close_76 kiconst_1 ?_
            refine j_isub h dX12_close_77 ?_
            refine pM_26 h dX12_close_78 (fun m16 hm16 => ?_)
            refine j_goto (tgt := 0) h dX12_close_81 (by decide) ?_
            refine j_wk (ls' := [some (.ref (G.2.2 0)), some (.int x1)]) (And.intro rfl (And.intro rfl trivial)) ?_
            exact ih x1 m16
set_option maxHeartbeats 4000000 in
set_option maxRecDepth 100000 in
theorem kX12_close (l : Launch) (G : Gt) (hD : ∀ m, va_D (inA G nM) (wM G m)) (m : Mem) (x1 : Int32) : ∀ a, fX12_close m x1 = some a → Ct l G wM nM yX12_close cX12_close 2 none 2 [.ref (G.2.2 0), .int x1] m (cvV a) := by
  refine ct_of (own := RX12) (ls0 := [some (.ref (G.2.2 0)), some (.int x1)]) (by decide) rfl rfl rfl (Nat.le_of_ble_eq_true rfl) hD (fun X h => ?_) l
  unfold fX12_close
  refine j_wk (ls' := [some (.ref (G.2.2 0)), some (.int x1)]) (And.intro rfl (And.intro rfl trivial)) ?_
  exact (wX12_close h 5000) x1 m
theorem dX12_hasRelation_0 : DD cX12_hasRelation 0 (.aload_n 0) 1 1 := ⟨by decide +kernel, rfl⟩
theorem dX12_hasRelation_1 : DD cX12_hasRelation 1 (.getfield 273) 3 4 := ⟨by decide +kernel, rfl⟩
theorem dX12_hasRelation_4 : DD cX12_hasRelation 4 (.iconst 1) 1 5 := ⟨by decide +kernel, rfl⟩
theorem dX12_hasRelation_5 : DD cX12_hasRelation 5 (.isub) 1 6 := ⟨by decide +kernel, rfl⟩
theorem dX12_hasRelation_6 : DD cX12_hasRelation 6 (.istore_n 1) 1 7 := ⟨by decide +kernel, rfl⟩
theorem dX12_hasRelation_7 : DD cX12_hasRelation 7 (.iload_n 1) 1 8 := ⟨by decide +kernel, rfl⟩
theorem dX12_hasRelation_8 : DD cX12_hasRelation 8 (.ifCond .lt 33) 3 11 := ⟨by decide +kernel, rfl⟩
theorem dX12_hasRelation_11 : DD cX12_hasRelation 11 (.aload_n 0) 1 12 := ⟨by decide +kernel, rfl⟩
theorem dX12_hasRelation_12 : DD cX12_hasRelation 12 (.getfield 39) 3 15 := ⟨by decide +kernel, rfl⟩
theorem dX12_hasRelation_15 : DD cX12_hasRelation 15 (.iload_n 1) 1 16 := ⟨by decide +kernel, rfl⟩
theorem dX12_hasRelation_16 : DD cX12_hasRelation 16 (.iaload) 1 17 := ⟨by decide +kernel, rfl⟩
theorem dX12_hasRelation_17 : DD cX12_hasRelation 17 (.bipush 20) 2 19 := ⟨by decide +kernel, rfl⟩
theorem dX12_hasRelation_19 : DD cX12_hasRelation 19 (.if_icmp .eq 22) 3 22 := ⟨by decide +kernel, rfl⟩
theorem dX12_hasRelation_22 : DD cX12_hasRelation 22 (.aload_n 0) 1 23 := ⟨by decide +kernel, rfl⟩
theorem dX12_hasRelation_23 : DD cX12_hasRelation 23 (.getfield 39) 3 26 := ⟨by decide +kernel, rfl⟩
theorem dX12_hasRelation_26 : DD cX12_hasRelation 26 (.iload_n 1) 1 27 := ⟨by decide +kernel, rfl⟩
theorem dX12_hasRelation_27 : DD cX12_hasRelation 27 (.iaload) 1 28 := ⟨by decide +kernel, rfl⟩
theorem dX12_hasRelation_28 : DD cX12_hasRelation 28 (.invokestatic 276) 3 31 := ⟨by decide +kernel, rfl⟩
theorem dX12_hasRelation_31 : DD cX12_hasRelation 31 (.iconst 4) 1 32 := ⟨by decide +kernel, rfl⟩
theorem dX12_hasRelation_32 : DD cX12_hasRelation 32 (.if_icmp .le 9) 3 35 := ⟨by decide +kernel, rfl⟩
theorem dX12_hasRelation_35 : DD cX12_hasRelation 35 (.iinc 1 (-1)) 3 38 := ⟨by decide +kernel, rfl⟩
theorem dX12_hasRelation_38 : DD cX12_hasRelation 38 (.goto (-31)) 3 41 := ⟨by decide +kernel, rfl⟩
theorem dX12_hasRelation_41 : DD cX12_hasRelation 41 (.iload_n 1) 1 42 := ⟨by decide +kernel, rfl⟩
theorem dX12_hasRelation_42 : DD cX12_hasRelation 42 (.ifCond .lt 31) 3 45 := ⟨by decide +kernel, rfl⟩
theorem dX12_hasRelation_45 : DD cX12_hasRelation 45 (.aload_n 0) 1 46 := ⟨by decide +kernel, rfl⟩
theorem dX12_hasRelation_46 : DD cX12_hasRelation 46 (.getfield 39) 3 49 := ⟨by decide +kernel, rfl⟩
theorem dX12_hasRelation_49 : DD cX12_hasRelation 49 (.iload_n 1) 1 50 := ⟨by decide +kernel, rfl⟩
theorem dX12_hasRelation_50 : DD cX12_hasRelation 50 (.iaload) 1 51 := ⟨by decide +kernel, rfl⟩
theorem dX12_hasRelation_51 : DD cX12_hasRelation 51 (.bipush 20) 2 53 := ⟨by decide +kernel, rfl⟩
theorem dX12_hasRelation_53 : DD cX12_hasRelation 53 (.if_icmp .eq 20) 3 56 := ⟨by decide +kernel, rfl⟩
theorem dX12_hasRelation_56 : DD cX12_hasRelation 56 (.aload_n 0) 1 57 := ⟨by decide +kernel, rfl⟩
theorem dX12_hasRelation_57 : DD cX12_hasRelation 57 (.getfield 39) 3 60 := ⟨by decide +kernel, rfl⟩
theorem dX12_hasRelation_60 : DD cX12_hasRelation 60 (.iload_n 1) 1 61 := ⟨by decide +kernel, rfl⟩
theorem dX12_hasRelation_61 : DD cX12_hasRelation 61 (.iaload) 1 62 := ⟨by decide +kernel, rfl⟩
theorem dX12_hasRelation_62 : DD cX12_hasRelation 62 (.invokestatic 276) 3 65 := ⟨by decide +kernel, rfl⟩
theorem dX12_hasRelation_65 : DD cX12_hasRelation 65 (.iconst 4) 1 66 := ⟨by decide +kernel, rfl⟩
theorem dX12_hasRelation_66 : DD cX12_hasRelation 66 (.if_icmp .ne 7) 3 69 := ⟨by decide +kernel, rfl⟩
theorem dX12_hasRelation_69 : DD cX12_hasRelation 69 (.iconst 1) 1 70 := ⟨by decide +kernel, rfl⟩
theorem dX12_hasRelation_70 : DD cX12_hasRelation 70 (.goto 4) 3 73 := ⟨by decide +kernel, rfl⟩
theorem dX12_hasRelation_73 : DD cX12_hasRelation 73 (.iconst 0) 1 74 := ⟨by decide +kernel, rfl⟩
theorem dX12_hasRelation_74 : DD cX12_hasRelation 74 (.ireturn) 1 75 := ⟨by decide +kernel, rfl⟩
def gX12_hasRelation (m : Mem) : Nat → Int32 → Option Int32
  | 0, _ => none
  | f + 1, x1 => (if x1 < 0 then (if x1 < 0 then (some (0 : Int32)) else (rd (m.1 9) 160 x1 fun v3 => (if v3 = (20 : Int32) then (some (0 : Int32)) else (rd (m.1 9) 160 x1 fun v5 => (cP (fX12_tight v5) fun r6 => (if r6 = (4 : Int32) then (some (1 : Int32)) else (some (0 : Int32)))))))) else (rd (m.1 9) 160 x1 fun v9 => (if v9 = (20 : Int32) then (if x1 < 0 then (some (0 : Int32)) else (rd (m.1 9) 160 x1 fun v12 => (if v12 = (20 : Int32) then (some (0 : Int32)) else (rd (m.1 9) 160 x1 fun v14 => (cP (fX12_tight v14) fun r15 => (if r15 = (4 : Int32) then (some (1 : Int32)) else (some (0 : Int32)))))))) else (rd (m.1 9) 160 x1 fun v18 => (cP (fX12_tight v18) fun r19 => (if r19 ≤ (4 : Int32) then (if x1 < 0 then (some (0 : Int32)) else (rd (m.1 9) 160 x1 fun v23 => (if v23 = (20 : Int32) then (some (0 : Int32)) else (rd (m.1 9) 160 x1 fun v25 => (cP (fX12_tight v25) fun r26 => (if r26 = (4 : Int32) then (some (1 : Int32)) else (some (0 : Int32)))))))) else (gX12_hasRelation m f (x1 + (-1 : Int32)))))))))
def fX12_hasRelation (m : Mem) : Option Int32 := (nm ((m.1 0 22) - (1 : Int32)) fun v1 => (gX12_hasRelation m 5000 v1))
set_option maxHeartbeats 4000000 in
set_option maxRecDepth 100000 in
theorem wX12_hasRelation {X : Cx} {G : Gt} (h : OkX (X, G, wM, nM) cX12_hasRelation RX12 2 (some .boolean) 2) (m : Mem) : ∀ f : Nat, (∀ (x1 : Int32), JR (X, G, wM, nM) (cvP m) m 7 [some (.ref (G.2.2 0)), some (.int x1)] [] (gX12_hasRelation m f x1)) := by
  intro f
  induction f with
  | zero => exact (fun _ => j_none)
  | succ f ih =>
    intro x1
    rw [gX12_hasRelation]
    refine j_iload_n h dX12_hasRelation_7 rfl ?_
    refine j_if_lt (tgt := 41) h dX12_hasRelation_8 (by decide) (fun c1 => ?_) (fun c1 => ?_)
    · refine j_iload_n h dX12_hasRelation_41 rfl ?_
      refine j_if_lt (tgt := 73) h dX12_hasRelation_42 (by decide) (fun c2 => ?_) (fun c2 => ?_)
      · refine j_iconst (v := (0 : Int32)) h dX12_hasRelation_73 kiconst_0 ?_
        exact j_zretB h rfl rfl dX12_hasRelation_74
      · refine j_aload_n h dX12_hasRelation_45 rfl ?_
        refine gM_17 h dX12_hasRelation_46 ?_
        refine j_iload_n h dX12_hasRelation_49 rfl ?_
        refine aM_9 h dX12_hasRelation_50 (fun v3 hv3 => ?_)
        refine j_bipush (v := (20 : Int32)) h dX12_hasRelation_51 kbipush_20 ?_
        refine j_icmp_eq (tgt := 73) h dX12_hasRelation_53 (by decide) (fun c4 => ?_) (fun c4 => ?_)
        · refine j_iconst (v := (0 : Int32)) h dX12_hasRelation_73 kiconst_0 ?_
          exact j_zretB h rfl rfl dX12_hasRelation_74
        · refine j_aload_n h dX12_hasRelation_56 rfl ?_
          refine gM_17 h dX12_hasRelation_57 ?_
          refine j_iload_n h dX12_hasRelation_60 rfl ?_
          refine aM_9 h dX12_hasRelation_61 (fun v5 hv5 => ?_)
          refine j_callSP h [.int v5] (kX12_tight _ G h.2.2.2.2.2.2.2.2.2.2 m v5) okX12_tight stX12_tight ml12_276 rfl rfl (by decide) (by decide) (Nat.le_of_ble_eq_true rfl) rfl dX12_hasRelation_62 (fun r6 hr6 => ?_)
          refine j_iconst (v := (4 : Int32)) h dX12_hasRelation_65 kiconst_4 ?_
          refine j_icmp_ne (tgt := 73) h dX12_hasRelation_66 (by decide) (fun c8 => ?_) (fun c8 => ?_)
          · refine j_iconst (v := (0 : Int32)) h dX12_hasRelation_73 kiconst_0 ?_
            exact j_zretB h rfl rfl dX12_hasRelation_74
          · refine j_iconst (v := (1 : Int32)) h dX12_hasRelation_69 kiconst_1 ?_
            refine j_goto (tgt := 74) h dX12_hasRelation_70 (by decide) ?_
            exact j_zretB h rfl rfl dX12_hasRelation_74
    · refine j_aload_n h dX12_hasRelation_11 rfl ?_
      refine gM_17 h dX12_hasRelation_12 ?_
      refine j_iload_n h dX12_hasRelation_15 rfl ?_
      refine aM_9 h dX12_hasRelation_16 (fun v9 hv9 => ?_)
      refine j_bipush (v := (20 : Int32)) h dX12_hasRelation_17 kbipush_20 ?_
      refine j_icmp_eq (tgt := 41) h dX12_hasRelation_19 (by decide) (fun c10 => ?_) (fun c10 => ?_)
      · refine j_iload_n h dX12_hasRelation_41 rfl ?_
        refine j_if_lt (tgt := 73) h dX12_hasRelation_42 (by decide) (fun c11 => ?_) (fun c11 => ?_)
        · refine j_iconst (v := (0 : Int32)) h dX12_hasRelation_73 kiconst_0 ?_
          exact j_zretB h rfl rfl dX12_hasRelation_74
        · refine j_aload_n h dX12_hasRelation_45 rfl ?_
          refine gM_17 h dX12_hasRelation_46 ?_
          refine j_iload_n h dX12_hasRelation_49 rfl ?_
          refine aM_9 h dX12_hasRelation_50 (fun v12 hv12 => ?_)
          refine j_bipush (v := (20 : Int32)) h dX12_hasRelation_51 kbipush_20 ?_
          refine j_icmp_eq (tgt := 73) h dX12_hasRelation_53 (by decide) (fun c13 => ?_) (fun c13 => ?_)
          · refine j_iconst (v := (0 : Int32)) h dX12_hasRelation_73 kiconst_0 ?_
            exact j_zretB h rfl rfl dX12_hasRelation_74
          · refine j_aload_n h dX12_hasRelation_56 rfl ?_
            refine gM_17 h dX12_hasRelation_57 ?_
            refine j_iload_n h dX12_hasRelation_60 rfl ?_
            refine aM_9 h dX12_hasRelation_61 (fun v14 hv14 => ?_)
            refine j_callSP h [.int v14] (kX12_tight _ G h.2.2.2.2.2.2.2.2.2.2 m v14) okX12_tight stX12_tight ml12_276 rfl rfl (by decide) (by decide) (Nat.le_of_ble_eq_true rfl) rfl dX12_hasRelation_62 (fun r15 hr15 => ?_)
            refine j_iconst (v := (4 : Int32)) h dX12_hasRelation_65 kiconst_4 ?_
            refine j_icmp_ne (tgt := 73) h dX12_hasRelation_66 (by decide) (fun c17 => ?_) (fun c17 => ?_)
            · refine j_iconst (v := (0 : Int32)) h dX12_hasRelation_73 kiconst_0 ?_
              exact j_zretB h rfl rfl dX12_hasRelation_74
            · refine j_iconst (v := (1 : Int32)) h dX12_hasRelation_69 kiconst_1 ?_
              refine j_goto (tgt := 74) h dX12_hasRelation_70 (by decide) ?_
              exact j_zretB h rfl rfl dX12_hasRelation_74
      · refine j_aload_n h dX12_hasRelation_22 rfl ?_
        refine gM_17 h dX12_hasRelation_23 ?_
        refine j_iload_n h dX12_hasRelation_26 rfl ?_
        refine aM_9 h dX12_hasRelation_27 (fun v18 hv18 => ?_)
        refine j_callSP h [.int v18] (kX12_tight _ G h.2.2.2.2.2.2.2.2.2.2 m v18) okX12_tight stX12_tight ml12_276 rfl rfl (by decide) (by decide) (Nat.le_of_ble_eq_true rfl) rfl dX12_hasRelation_28 (fun r19 hr19 => ?_)
        refine j_iconst (v := (4 : Int32)) h dX12_hasRelation_31 kiconst_4 ?_
        refine j_icmp_le (tgt := 41) h dX12_hasRelation_32 (by decide) (fun c21 => ?_) (fun c21 => ?_)
        · refine j_iload_n h dX12_hasRelation_41 rfl ?_
          refine j_if_lt (tgt := 73) h dX12_hasRelation_42 (by decide) (fun c22 => ?_) (fun c22 => ?_)
          · refine j_iconst (v := (0 : Int32)) h dX12_hasRelation_73 kiconst_0 ?_
            exact j_zretB h rfl rfl dX12_hasRelation_74
          · refine j_aload_n h dX12_hasRelation_45 rfl ?_
            refine gM_17 h dX12_hasRelation_46 ?_
            refine j_iload_n h dX12_hasRelation_49 rfl ?_
            refine aM_9 h dX12_hasRelation_50 (fun v23 hv23 => ?_)
            refine j_bipush (v := (20 : Int32)) h dX12_hasRelation_51 kbipush_20 ?_
            refine j_icmp_eq (tgt := 73) h dX12_hasRelation_53 (by decide) (fun c24 => ?_) (fun c24 => ?_)
            · refine j_iconst (v := (0 : Int32)) h dX12_hasRelation_73 kiconst_0 ?_
              exact j_zretB h rfl rfl dX12_hasRelation_74
            · refine j_aload_n h dX12_hasRelation_56 rfl ?_
              refine gM_17 h dX12_hasRelation_57 ?_
              refine j_iload_n h dX12_hasRelation_60 rfl ?_
              refine aM_9 h dX12_hasRelation_61 (fun v25 hv25 => ?_)
              refine j_callSP h [.int v25] (kX12_tight _ G h.2.2.2.2.2.2.2.2.2.2 m v25) okX12_tight stX12_tight ml12_276 rfl rfl (by decide) (by decide) (Nat.le_of_ble_eq_true rfl) rfl dX12_hasRelation_62 (fun r26 hr26 => ?_)
              refine j_iconst (v := (4 : Int32)) h dX12_hasRelation_65 kiconst_4 ?_
              refine j_icmp_ne (tgt := 73) h dX12_hasRelation_66 (by decide) (fun c28 => ?_) (fun c28 => ?_)
              · refine j_iconst (v := (0 : Int32)) h dX12_hasRelation_73 kiconst_0 ?_
                exact j_zretB h rfl rfl dX12_hasRelation_74
              · refine j_iconst (v := (1 : Int32)) h dX12_hasRelation_69 kiconst_1 ?_
                refine j_goto (tgt := 74) h dX12_hasRelation_70 (by decide) ?_
                exact j_zretB h rfl rfl dX12_hasRelation_74
        · refine j_iinc (v := (x1 + (-1 : Int32))) h dX12_hasRelation_35 rfl (by rw [kiconst_m1]) rfl ?_
          refine j_goto (tgt := 7) h dX12_hasRelation_38 (by decide) ?_
          refine j_wk (ls' := [some (.ref (G.2.2 0)), some (.int (x1 + (-1 : Int32)))]) (And.intro rfl (And.intro rfl trivial)) ?_
          exact ih (x1 + (-1 : Int32))
set_option maxHeartbeats 4000000 in
set_option maxRecDepth 100000 in
theorem kX12_hasRelation (l : Launch) (G : Gt) (hD : ∀ m, va_D (inA G nM) (wM G m)) (m : Mem) : ∀ a, fX12_hasRelation m = some a → Ct l G wM nM yX12_hasRelation cX12_hasRelation 2 (some .boolean) 2 [.ref (G.2.2 0)] m ((cvP m) a) := by
  refine ct_of (own := RX12) (ls0 := [some (.ref (G.2.2 0)), none]) (by decide) rfl rfl rfl (Nat.le_of_ble_eq_true rfl) hD (fun X h => ?_) l
  unfold fX12_hasRelation
  refine j_aload_n h dX12_hasRelation_0 rfl ?_
  refine gM_22 h dX12_hasRelation_1 ?_
  refine j_iconst (v := (1 : Int32)) h dX12_hasRelation_4 kiconst_1 ?_
  refine j_isub h dX12_hasRelation_5 ?_
  refine j_nm (fun v1 hv1 => ?_)
  refine j_istore_n h dX12_hasRelation_6 rfl rfl ?_
  refine j_wk (ls' := [some (.ref (G.2.2 0)), some (.int v1)]) (And.intro rfl (And.intro rfl trivial)) ?_
  exact (wX12_hasRelation h m 5000) v1
theorem dX12_mayNot_0 : DD cX12_mayNot 0 (.aload_n 0) 1 1 := ⟨by decide +kernel, rfl⟩
theorem dX12_mayNot_1 : DD cX12_mayNot 1 (.getfield 273) 3 4 := ⟨by decide +kernel, rfl⟩
theorem dX12_mayNot_4 : DD cX12_mayNot 4 (.ifCond .eq 37) 3 7 := ⟨by decide +kernel, rfl⟩
theorem dX12_mayNot_7 : DD cX12_mayNot 7 (.aload_n 0) 1 8 := ⟨by decide +kernel, rfl⟩
theorem dX12_mayNot_8 : DD cX12_mayNot 8 (.getfield 39) 3 11 := ⟨by decide +kernel, rfl⟩
theorem dX12_mayNot_11 : DD cX12_mayNot 11 (.aload_n 0) 1 12 := ⟨by decide +kernel, rfl⟩
theorem dX12_mayNot_12 : DD cX12_mayNot 12 (.getfield 273) 3 15 := ⟨by decide +kernel, rfl⟩
theorem dX12_mayNot_15 : DD cX12_mayNot 15 (.iconst 1) 1 16 := ⟨by decide +kernel, rfl⟩
theorem dX12_mayNot_16 : DD cX12_mayNot 16 (.isub) 1 17 := ⟨by decide +kernel, rfl⟩
theorem dX12_mayNot_17 : DD cX12_mayNot 17 (.iaload) 1 18 := ⟨by decide +kernel, rfl⟩
theorem dX12_mayNot_18 : DD cX12_mayNot 18 (.bipush 20) 2 20 := ⟨by decide +kernel, rfl⟩
theorem dX12_mayNot_20 : DD cX12_mayNot 20 (.if_icmp .eq 21) 3 23 := ⟨by decide +kernel, rfl⟩
theorem dX12_mayNot_23 : DD cX12_mayNot 23 (.aload_n 0) 1 24 := ⟨by decide +kernel, rfl⟩
theorem dX12_mayNot_24 : DD cX12_mayNot 24 (.getfield 39) 3 27 := ⟨by decide +kernel, rfl⟩
theorem dX12_mayNot_27 : DD cX12_mayNot 27 (.aload_n 0) 1 28 := ⟨by decide +kernel, rfl⟩
theorem dX12_mayNot_28 : DD cX12_mayNot 28 (.getfield 273) 3 31 := ⟨by decide +kernel, rfl⟩
theorem dX12_mayNot_31 : DD cX12_mayNot 31 (.iconst 1) 1 32 := ⟨by decide +kernel, rfl⟩
theorem dX12_mayNot_32 : DD cX12_mayNot 32 (.isub) 1 33 := ⟨by decide +kernel, rfl⟩
theorem dX12_mayNot_33 : DD cX12_mayNot 33 (.iaload) 1 34 := ⟨by decide +kernel, rfl⟩
theorem dX12_mayNot_34 : DD cX12_mayNot 34 (.invokestatic 276) 3 37 := ⟨by decide +kernel, rfl⟩
theorem dX12_mayNot_37 : DD cX12_mayNot 37 (.iconst 4) 1 38 := ⟨by decide +kernel, rfl⟩
theorem dX12_mayNot_38 : DD cX12_mayNot 38 (.if_icmp .ge 7) 3 41 := ⟨by decide +kernel, rfl⟩
theorem dX12_mayNot_41 : DD cX12_mayNot 41 (.iconst 1) 1 42 := ⟨by decide +kernel, rfl⟩
theorem dX12_mayNot_42 : DD cX12_mayNot 42 (.goto 4) 3 45 := ⟨by decide +kernel, rfl⟩
theorem dX12_mayNot_45 : DD cX12_mayNot 45 (.iconst 0) 1 46 := ⟨by decide +kernel, rfl⟩
theorem dX12_mayNot_46 : DD cX12_mayNot 46 (.ireturn) 1 47 := ⟨by decide +kernel, rfl⟩
def fX12_mayNot (m : Mem) : Option Int32 := (if (m.1 0 22) = 0 then (some (1 : Int32)) else (rd (m.1 9) 160 ((m.1 0 22) - (1 : Int32)) fun v2 => (if v2 = (20 : Int32) then (some (1 : Int32)) else (rd (m.1 9) 160 ((m.1 0 22) - (1 : Int32)) fun v4 => (cP (fX12_tight v4) fun r5 => (if (4 : Int32) ≤ r5 then (some (0 : Int32)) else (some (1 : Int32))))))))
set_option maxHeartbeats 4000000 in
set_option maxRecDepth 100000 in
theorem kX12_mayNot (l : Launch) (G : Gt) (hD : ∀ m, va_D (inA G nM) (wM G m)) (m : Mem) : ∀ a, fX12_mayNot m = some a → Ct l G wM nM yX12_mayNot cX12_mayNot 1 (some .boolean) 2 [.ref (G.2.2 0)] m ((cvP m) a) := by
  refine ct_of (own := RX12) (ls0 := [some (.ref (G.2.2 0))]) (by decide) rfl rfl rfl (Nat.le_of_ble_eq_true rfl) hD (fun X h => ?_) l
  unfold fX12_mayNot
  refine j_aload_n h dX12_mayNot_0 rfl ?_
  refine gM_22 h dX12_mayNot_1 ?_
  refine j_if_eq (tgt := 41) h dX12_mayNot_4 (by decide) (fun c1 => ?_) (fun c1 => ?_)
  · refine j_iconst (v := (1 : Int32)) h dX12_mayNot_41 kiconst_1 ?_
    refine j_goto (tgt := 46) h dX12_mayNot_42 (by decide) ?_
    exact j_zretB h rfl rfl dX12_mayNot_46
  · refine j_aload_n h dX12_mayNot_7 rfl ?_
    refine gM_17 h dX12_mayNot_8 ?_
    refine j_aload_n h dX12_mayNot_11 rfl ?_
    refine gM_22 h dX12_mayNot_12 ?_
    refine j_iconst (v := (1 : Int32)) h dX12_mayNot_15 kiconst_1 ?_
    refine j_isub h dX12_mayNot_16 ?_
    refine aM_9 h dX12_mayNot_17 (fun v2 hv2 => ?_)
    refine j_bipush (v := (20 : Int32)) h dX12_mayNot_18 kbipush_20 ?_
    refine j_icmp_eq (tgt := 41) h dX12_mayNot_20 (by decide) (fun c3 => ?_) (fun c3 => ?_)
    · refine j_iconst (v := (1 : Int32)) h dX12_mayNot_41 kiconst_1 ?_
      refine j_goto (tgt := 46) h dX12_mayNot_42 (by decide) ?_
      exact j_zretB h rfl rfl dX12_mayNot_46
    · refine j_aload_n h dX12_mayNot_23 rfl ?_
      refine gM_17 h dX12_mayNot_24 ?_
      refine j_aload_n h dX12_mayNot_27 rfl ?_
      refine gM_22 h dX12_mayNot_28 ?_
      refine j_iconst (v := (1 : Int32)) h dX12_mayNot_31 kiconst_1 ?_
      refine j_isub h dX12_mayNot_32 ?_
      refine aM_9 h dX12_mayNot_33 (fun v4 hv4 => ?_)
      refine j_callSP h [.int v4] (kX12_tight _ G h.2.2.2.2.2.2.2.2.2.2 m v4) okX12_tight stX12_tight ml12_276 rfl rfl (by decide) (by decide) (Nat.le_of_ble_eq_true rfl) rfl dX12_mayNot_34 (fun r5 hr5 => ?_)
      refine j_iconst (v := (4 : Int32)) h dX12_mayNot_37 kiconst_4 ?_
      refine j_icmp_ge (tgt := 45) h dX12_mayNot_38 (by decide) (fun c7 => ?_) (fun c7 => ?_)
      · refine j_iconst (v := (0 : Int32)) h dX12_mayNot_45 kiconst_0 ?_
        exact j_zretB h rfl rfl dX12_mayNot_46
      · refine j_iconst (v := (1 : Int32)) h dX12_mayNot_41 kiconst_1 ?_
        refine j_goto (tgt := 46) h dX12_mayNot_42 (by decide) ?_
        exact j_zretB h rfl rfl dX12_mayNot_46
theorem dX12_asked_0 : DD cX12_asked 0 (.aload_n 0) 1 1 := ⟨by decide +kernel, rfl⟩
theorem dX12_asked_1 : DD cX12_asked 1 (.getfield 184) 3 4 := ⟨by decide +kernel, rfl⟩
theorem dX12_asked_4 : DD cX12_asked 4 (.iconst 1) 1 5 := ⟨by decide +kernel, rfl⟩
theorem dX12_asked_5 : DD cX12_asked 5 (.if_icmp .eq 5) 3 8 := ⟨by decide +kernel, rfl⟩
theorem dX12_asked_8 : DD cX12_asked 8 (.iconst (-1)) 1 9 := ⟨by decide +kernel, rfl⟩
theorem dX12_asked_9 : DD cX12_asked 9 (.ireturn) 1 10 := ⟨by decide +kernel, rfl⟩
theorem dX12_asked_10 : DD cX12_asked 10 (.aload_n 0) 1 11 := ⟨by decide +kernel, rfl⟩
theorem dX12_asked_11 : DD cX12_asked 11 (.getfield 177) 3 14 := ⟨by decide +kernel, rfl⟩
theorem dX12_asked_14 : DD cX12_asked 14 (.ldc2_w 226) 3 17 := ⟨by decide +kernel, rfl⟩
theorem dX12_asked_17 : DD cX12_asked 17 (.lcmp) 1 18 := ⟨by decide +kernel, rfl⟩
theorem dX12_asked_18 : DD cX12_asked 18 (.ifCond .ne 5) 3 21 := ⟨by decide +kernel, rfl⟩
theorem dX12_asked_21 : DD cX12_asked 21 (.iconst 0) 1 22 := ⟨by decide +kernel, rfl⟩
theorem dX12_asked_22 : DD cX12_asked 22 (.ireturn) 1 23 := ⟨by decide +kernel, rfl⟩
theorem dX12_asked_23 : DD cX12_asked 23 (.aload_n 0) 1 24 := ⟨by decide +kernel, rfl⟩
theorem dX12_asked_24 : DD cX12_asked 24 (.getfield 177) 3 27 := ⟨by decide +kernel, rfl⟩
theorem dX12_asked_27 : DD cX12_asked 27 (.ldc2_w 228) 3 30 := ⟨by decide +kernel, rfl⟩
theorem dX12_asked_30 : DD cX12_asked 30 (.lcmp) 1 31 := ⟨by decide +kernel, rfl⟩
theorem dX12_asked_31 : DD cX12_asked 31 (.ifCond .ne 5) 3 34 := ⟨by decide +kernel, rfl⟩
theorem dX12_asked_34 : DD cX12_asked 34 (.iconst 1) 1 35 := ⟨by decide +kernel, rfl⟩
theorem dX12_asked_35 : DD cX12_asked 35 (.ireturn) 1 36 := ⟨by decide +kernel, rfl⟩
theorem dX12_asked_36 : DD cX12_asked 36 (.aload_n 0) 1 37 := ⟨by decide +kernel, rfl⟩
theorem dX12_asked_37 : DD cX12_asked 37 (.getfield 177) 3 40 := ⟨by decide +kernel, rfl⟩
theorem dX12_asked_40 : DD cX12_asked 40 (.ldc2_w 216) 3 43 := ⟨by decide +kernel, rfl⟩
theorem dX12_asked_43 : DD cX12_asked 43 (.lcmp) 1 44 := ⟨by decide +kernel, rfl⟩
theorem dX12_asked_44 : DD cX12_asked 44 (.ifCond .ne 5) 3 47 := ⟨by decide +kernel, rfl⟩
theorem dX12_asked_47 : DD cX12_asked 47 (.iconst 2) 1 48 := ⟨by decide +kernel, rfl⟩
theorem dX12_asked_48 : DD cX12_asked 48 (.ireturn) 1 49 := ⟨by decide +kernel, rfl⟩
theorem dX12_asked_49 : DD cX12_asked 49 (.aload_n 0) 1 50 := ⟨by decide +kernel, rfl⟩
theorem dX12_asked_50 : DD cX12_asked 50 (.getfield 177) 3 53 := ⟨by decide +kernel, rfl⟩
theorem dX12_asked_53 : DD cX12_asked 53 (.ldc2_w 230) 3 56 := ⟨by decide +kernel, rfl⟩
theorem dX12_asked_56 : DD cX12_asked 56 (.lcmp) 1 57 := ⟨by decide +kernel, rfl⟩
theorem dX12_asked_57 : DD cX12_asked 57 (.ifCond .ne 7) 3 60 := ⟨by decide +kernel, rfl⟩
theorem dX12_asked_60 : DD cX12_asked 60 (.iconst 3) 1 61 := ⟨by decide +kernel, rfl⟩
theorem dX12_asked_61 : DD cX12_asked 61 (.goto 4) 3 64 := ⟨by decide +kernel, rfl⟩
theorem dX12_asked_64 : DD cX12_asked 64 (.iconst (-1)) 1 65 := ⟨by decide +kernel, rfl⟩
theorem dX12_asked_65 : DD cX12_asked 65 (.ireturn) 1 66 := ⟨by decide +kernel, rfl⟩
def fX12_asked (m : Mem) : Option Int32 := (if (m.1 0 6) = (1 : Int32) then (if (lg_cmp (m.2.1 0 9) (1684108389 : Int64)) = 0 then (some (0 : Int32)) else (if (lg_cmp (m.2.1 0 9) (1752135026 : Int64)) = 0 then (some (1 : Int32)) else (if (lg_cmp (m.2.1 0 9) (1819243876 : Int64)) = 0 then (some (2 : Int32)) else (if (lg_cmp (m.2.1 0 9) (6709618 : Int64)) = 0 then (some (3 : Int32)) else (some (-1 : Int32)))))) else (some (-1 : Int32)))
set_option maxHeartbeats 4000000 in
set_option maxRecDepth 100000 in
theorem kX12_asked (l : Launch) (G : Gt) (hD : ∀ m, va_D (inA G nM) (wM G m)) (m : Mem) : ∀ a, fX12_asked m = some a → Ct l G wM nM yX12_asked cX12_asked 1 (some .int) 1 [.ref (G.2.2 0)] m ((cvP m) a) := by
  refine ct_of (own := RX12) (ls0 := [some (.ref (G.2.2 0))]) (by decide) rfl rfl rfl (Nat.le_of_ble_eq_true rfl) hD (fun X h => ?_) l
  unfold fX12_asked
  refine j_aload_n h dX12_asked_0 rfl ?_
  refine gM_6 h dX12_asked_1 ?_
  refine j_iconst (v := (1 : Int32)) h dX12_asked_4 kiconst_1 ?_
  refine j_icmp_eq (tgt := 10) h dX12_asked_5 (by decide) (fun c1 => ?_) (fun c1 => ?_)
  · refine j_aload_n h dX12_asked_10 rfl ?_
    refine gM_9 h dX12_asked_11 ?_
    refine j_ldc2 (v := (1684108389 : Int64)) h dX12_asked_14 cl12_226 ?_
    refine j_lcmp h dX12_asked_17 ?_
    refine j_if_ne (tgt := 23) h dX12_asked_18 (by decide) (fun c2 => ?_) (fun c2 => ?_)
    · refine j_aload_n h dX12_asked_23 rfl ?_
      refine gM_9 h dX12_asked_24 ?_
      refine j_ldc2 (v := (1752135026 : Int64)) h dX12_asked_27 cl12_228 ?_
      refine j_lcmp h dX12_asked_30 ?_
      refine j_if_ne (tgt := 36) h dX12_asked_31 (by decide) (fun c3 => ?_) (fun c3 => ?_)
      · refine j_aload_n h dX12_asked_36 rfl ?_
        refine gM_9 h dX12_asked_37 ?_
        refine j_ldc2 (v := (1819243876 : Int64)) h dX12_asked_40 cl12_216 ?_
        refine j_lcmp h dX12_asked_43 ?_
        refine j_if_ne (tgt := 49) h dX12_asked_44 (by decide) (fun c4 => ?_) (fun c4 => ?_)
        · refine j_aload_n h dX12_asked_49 rfl ?_
          refine gM_9 h dX12_asked_50 ?_
          refine j_ldc2 (v := (6709618 : Int64)) h dX12_asked_53 cl12_230 ?_
          refine j_lcmp h dX12_asked_56 ?_
          refine j_if_ne (tgt := 64) h dX12_asked_57 (by decide) (fun c5 => ?_) (fun c5 => ?_)
          · refine j_iconst (v := (-1 : Int32)) h dX12_asked_64 kiconst_m1 ?_
            exact j_iret h rfl dX12_asked_65
          · refine j_iconst (v := (3 : Int32)) h dX12_asked_60 kiconst_3 ?_
            refine j_goto (tgt := 65) h dX12_asked_61 (by decide) ?_
            exact j_iret h rfl dX12_asked_65
        · refine j_iconst (v := (2 : Int32)) h dX12_asked_47 kiconst_2 ?_
          exact j_iret h rfl dX12_asked_48
      · refine j_iconst (v := (1 : Int32)) h dX12_asked_34 kiconst_1 ?_
        exact j_iret h rfl dX12_asked_35
    · refine j_iconst (v := (0 : Int32)) h dX12_asked_21 kiconst_0 ?_
      exact j_iret h rfl dX12_asked_22
  · refine j_iconst (v := (-1 : Int32)) h dX12_asked_8 kiconst_m1 ?_
    exact j_iret h rfl dX12_asked_9
theorem dX12_isFull_0 : DD cX12_isFull 0 (.aload_n 0) 1 1 := ⟨by decide +kernel, rfl⟩
theorem dX12_isFull_1 : DD cX12_isFull 1 (.getfield 286) 3 4 := ⟨by decide +kernel, rfl⟩
theorem dX12_isFull_4 : DD cX12_isFull 4 (.bipush 60) 2 6 := ⟨by decide +kernel, rfl⟩
theorem dX12_isFull_6 : DD cX12_isFull 6 (.if_icmp .eq 12) 3 9 := ⟨by decide +kernel, rfl⟩
theorem dX12_isFull_9 : DD cX12_isFull 9 (.aload_n 0) 1 10 := ⟨by decide +kernel, rfl⟩
theorem dX12_isFull_10 : DD cX12_isFull 10 (.getfield 289) 3 13 := ⟨by decide +kernel, rfl⟩
theorem dX12_isFull_13 : DD cX12_isFull 13 (.bipush 30) 2 15 := ⟨by decide +kernel, rfl⟩
theorem dX12_isFull_15 : DD cX12_isFull 15 (.if_icmp .ne 7) 3 18 := ⟨by decide +kernel, rfl⟩
theorem dX12_isFull_18 : DD cX12_isFull 18 (.iconst 1) 1 19 := ⟨by decide +kernel, rfl⟩
theorem dX12_isFull_19 : DD cX12_isFull 19 (.goto 4) 3 22 := ⟨by decide +kernel, rfl⟩
theorem dX12_isFull_22 : DD cX12_isFull 22 (.iconst 0) 1 23 := ⟨by decide +kernel, rfl⟩
theorem dX12_isFull_23 : DD cX12_isFull 23 (.ireturn) 1 24 := ⟨by decide +kernel, rfl⟩
def fX12_isFull (m : Mem) : Option Int32 := (if (m.1 0 23) = (60 : Int32) then (some (1 : Int32)) else (if (m.1 0 25) = (30 : Int32) then (some (1 : Int32)) else (some (0 : Int32))))
set_option maxHeartbeats 4000000 in
set_option maxRecDepth 100000 in
theorem kX12_isFull (l : Launch) (G : Gt) (hD : ∀ m, va_D (inA G nM) (wM G m)) (m : Mem) : ∀ a, fX12_isFull m = some a → Ct l G wM nM yX12_isFull cX12_isFull 1 (some .boolean) 1 [.ref (G.2.2 0)] m ((cvP m) a) := by
  refine ct_of (own := RX12) (ls0 := [some (.ref (G.2.2 0))]) (by decide) rfl rfl rfl (Nat.le_of_ble_eq_true rfl) hD (fun X h => ?_) l
  unfold fX12_isFull
  refine j_aload_n h dX12_isFull_0 rfl ?_
  refine gM_23 h dX12_isFull_1 ?_
  refine j_bipush (v := (60 : Int32)) h dX12_isFull_4 kbipush_60 ?_
  refine j_icmp_eq (tgt := 18) h dX12_isFull_6 (by decide) (fun c1 => ?_) (fun c1 => ?_)
  · refine j_iconst (v := (1 : Int32)) h dX12_isFull_18 kiconst_1 ?_
    refine j_goto (tgt := 23) h dX12_isFull_19 (by decide) ?_
    exact j_zretB h rfl rfl dX12_isFull_23
  · refine j_aload_n h dX12_isFull_9 rfl ?_
    refine gM_25 h dX12_isFull_10 ?_
    refine j_bipush (v := (30 : Int32)) h dX12_isFull_13 kbipush_30 ?_
    refine j_icmp_ne (tgt := 22) h dX12_isFull_15 (by decide) (fun c2 => ?_) (fun c2 => ?_)
    · refine j_iconst (v := (0 : Int32)) h dX12_isFull_22 kiconst_0 ?_
      exact j_zretB h rfl rfl dX12_isFull_23
    · refine j_iconst (v := (1 : Int32)) h dX12_isFull_18 kiconst_1 ?_
      refine j_goto (tgt := 23) h dX12_isFull_19 (by decide) ?_
      exact j_zretB h rfl rfl dX12_isFull_23
theorem dX12_countUnit_0 : DD cX12_countUnit 0 (.aload_n 0) 1 1 := ⟨by decide +kernel, rfl⟩
theorem dX12_countUnit_1 : DD cX12_countUnit 1 (.dup) 1 2 := ⟨by decide +kernel, rfl⟩
theorem dX12_countUnit_2 : DD cX12_countUnit 2 (.getfield 286) 3 5 := ⟨by decide +kernel, rfl⟩
theorem dX12_countUnit_5 : DD cX12_countUnit 5 (.iconst 1) 1 6 := ⟨by decide +kernel, rfl⟩
theorem dX12_countUnit_6 : DD cX12_countUnit 6 (.iadd) 1 7 := ⟨by decide +kernel, rfl⟩
theorem dX12_countUnit_7 : DD cX12_countUnit 7 (.putfield 286) 3 10 := ⟨by decide +kernel, rfl⟩
theorem dX12_countUnit_10 : DD cX12_countUnit 10 (.aload_n 0) 1 11 := ⟨by decide +kernel, rfl⟩
theorem dX12_countUnit_11 : DD cX12_countUnit 11 (.dup) 1 12 := ⟨by decide +kernel, rfl⟩
theorem dX12_countUnit_12 : DD cX12_countUnit 12 (.getfield 289) 3 15 := ⟨by decide +kernel, rfl⟩
theorem dX12_countUnit_15 : DD cX12_countUnit 15 (.iconst 1) 1 16 := ⟨by decide +kernel, rfl⟩
theorem dX12_countUnit_16 : DD cX12_countUnit 16 (.iadd) 1 17 := ⟨by decide +kernel, rfl⟩
theorem dX12_countUnit_17 : DD cX12_countUnit 17 (.putfield 289) 3 20 := ⟨by decide +kernel, rfl⟩
theorem dX12_countUnit_20 : DD cX12_countUnit 20 (.return_) 1 21 := ⟨by decide +kernel, rfl⟩
def fX12_countUnit (m : Mem) : Option Mem := (pt (sI m 0 23 ((m.1 0 23) + (1 : Int32))) fun m1 => (pt (sI m1 0 25 ((m1.1 0 25) + (1 : Int32))) fun m2 => (some m2)))
set_option maxHeartbeats 4000000 in
set_option maxRecDepth 100000 in
theorem kX12_countUnit (l : Launch) (G : Gt) (hD : ∀ m, va_D (inA G nM) (wM G m)) (m : Mem) : ∀ a, fX12_countUnit m = some a → Ct l G wM nM yX12_countUnit cX12_countUnit 1 none 1 [.ref (G.2.2 0)] m (cvV a) := by
  refine ct_of (own := RX12) (ls0 := [some (.ref (G.2.2 0))]) (by decide) rfl rfl rfl (Nat.le_of_ble_eq_true rfl) hD (fun X h => ?_) l
  unfold fX12_countUnit
  refine j_aload_n h dX12_countUnit_0 rfl ?_
  refine j_dup h dX12_countUnit_1 rfl ?_
  refine gM_23 h dX12_countUnit_2 ?_
  refine j_iconst (v := (1 : Int32)) h dX12_countUnit_5 kiconst_1 ?_
  refine j_iadd h dX12_countUnit_6 ?_
  refine pM_23 h dX12_countUnit_7 (fun m1 hm1 => ?_)
  refine j_aload_n h dX12_countUnit_10 rfl ?_
  refine j_dup h dX12_countUnit_11 rfl ?_
  refine gM_25 h dX12_countUnit_12 ?_
  refine j_iconst (v := (1 : Int32)) h dX12_countUnit_15 kiconst_1 ?_
  refine j_iadd h dX12_countUnit_16 ?_
  refine pM_25 h dX12_countUnit_17 (fun m2 hm2 => ?_)
  exact j_vret h rfl dX12_countUnit_20
theorem dX12_openUp_0 : DD cX12_openUp 0 (.aload_n 0) 1 1 := ⟨by decide +kernel, rfl⟩
theorem dX12_openUp_1 : DD cX12_openUp 1 (.getfield 39) 3 4 := ⟨by decide +kernel, rfl⟩
theorem dX12_openUp_4 : DD cX12_openUp 4 (.aload_n 0) 1 5 := ⟨by decide +kernel, rfl⟩
theorem dX12_openUp_5 : DD cX12_openUp 5 (.getfield 273) 3 8 := ⟨by decide +kernel, rfl⟩
theorem dX12_openUp_8 : DD cX12_openUp 8 (.iload_n 1) 1 9 := ⟨by decide +kernel, rfl⟩
theorem dX12_openUp_9 : DD cX12_openUp 9 (.iastore) 1 10 := ⟨by decide +kernel, rfl⟩
theorem dX12_openUp_10 : DD cX12_openUp 10 (.aload_n 0) 1 11 := ⟨by decide +kernel, rfl⟩
theorem dX12_openUp_11 : DD cX12_openUp 11 (.dup) 1 12 := ⟨by decide +kernel, rfl⟩
theorem dX12_openUp_12 : DD cX12_openUp 12 (.getfield 273) 3 15 := ⟨by decide +kernel, rfl⟩
theorem dX12_openUp_15 : DD cX12_openUp 15 (.iconst 1) 1 16 := ⟨by decide +kernel, rfl⟩
theorem dX12_openUp_16 : DD cX12_openUp 16 (.iadd) 1 17 := ⟨by decide +kernel, rfl⟩
theorem dX12_openUp_17 : DD cX12_openUp 17 (.putfield 273) 3 20 := ⟨by decide +kernel, rfl⟩
theorem dX12_openUp_20 : DD cX12_openUp 20 (.aload_n 0) 1 21 := ⟨by decide +kernel, rfl⟩
theorem dX12_openUp_21 : DD cX12_openUp 21 (.dup) 1 22 := ⟨by decide +kernel, rfl⟩
theorem dX12_openUp_22 : DD cX12_openUp 22 (.getfield 283) 3 25 := ⟨by decide +kernel, rfl⟩
theorem dX12_openUp_25 : DD cX12_openUp 25 (.iconst 1) 1 26 := ⟨by decide +kernel, rfl⟩
theorem dX12_openUp_26 : DD cX12_openUp 26 (.iadd) 1 27 := ⟨by decide +kernel, rfl⟩
theorem dX12_openUp_27 : DD cX12_openUp 27 (.putfield 283) 3 30 := ⟨by decide +kernel, rfl⟩
theorem dX12_openUp_30 : DD cX12_openUp 30 (.aload_n 0) 1 31 := ⟨by decide +kernel, rfl⟩
theorem dX12_openUp_31 : DD cX12_openUp 31 (.getfield 197) 3 34 := ⟨by decide +kernel, rfl⟩
theorem dX12_openUp_34 : DD cX12_openUp 34 (.ifCond .ne 7) 3 37 := ⟨by decide +kernel, rfl⟩
theorem dX12_openUp_37 : DD cX12_openUp 37 (.aload_n 0) 1 38 := ⟨by decide +kernel, rfl⟩
theorem dX12_openUp_38 : DD cX12_openUp 38 (.invokevirtual 249) 3 41 := ⟨by decide +kernel, rfl⟩
theorem dX12_openUp_41 : DD cX12_openUp 41 (.return_) 1 42 := ⟨by decide +kernel, rfl⟩
def fX12_openUp (m : Mem) (x1 : Int32) : Option Mem := (wr m 9 160 (m.1 0 22) x1 fun m1 => (pt (sI m1 0 22 ((m1.1 0 22) + (1 : Int32))) fun m2 => (pt (sI m2 0 26 ((m2.1 0 26) + (1 : Int32))) fun m3 => (if (m3.1 0 2) = 0 then (cV (fX12_token m3) fun m6 => (some m6)) else (some m3)))))
set_option maxHeartbeats 4000000 in
set_option maxRecDepth 100000 in
theorem kX12_openUp (l : Launch) (G : Gt) (hD : ∀ m, va_D (inA G nM) (wM G m)) (m : Mem) (x1 : Int32) : ∀ a, fX12_openUp m x1 = some a → Ct l G wM nM yX12_openUp cX12_openUp 2 none 3 [.ref (G.2.2 0), .int x1] m (cvV a) := by
  refine ct_of (own := RX12) (ls0 := [some (.ref (G.2.2 0)), some (.int x1)]) (by decide) rfl rfl rfl (Nat.le_of_ble_eq_true rfl) hD (fun X h => ?_) l
  unfold fX12_openUp
  refine j_aload_n h dX12_openUp_0 rfl ?_
  refine gM_17 h dX12_openUp_1 ?_
  refine j_aload_n h dX12_openUp_4 rfl ?_
  refine gM_22 h dX12_openUp_5 ?_
  refine j_iload_n h dX12_openUp_8 rfl ?_
  refine bM_9 h dX12_openUp_9 (fun m1 hm1 => ?_)
  refine j_aload_n h dX12_openUp_10 rfl ?_
  refine j_dup h dX12_openUp_11 rfl ?_
  refine gM_22 h dX12_openUp_12 ?_
  refine j_iconst (v := (1 : Int32)) h dX12_openUp_15 kiconst_1 ?_
  refine j_iadd h dX12_openUp_16 ?_
  refine pM_22 h dX12_openUp_17 (fun m2 hm2 => ?_)
  refine j_aload_n h dX12_openUp_20 rfl ?_
  refine j_dup h dX12_openUp_21 rfl ?_
  refine gM_26 h dX12_openUp_22 ?_
  refine j_iconst (v := (1 : Int32)) h dX12_openUp_25 kiconst_1 ?_
  refine j_iadd h dX12_openUp_26 ?_
  refine pM_26 h dX12_openUp_27 (fun m3 hm3 => ?_)
  refine j_aload_n h dX12_openUp_30 rfl ?_
  refine gM_2 h dX12_openUp_31 ?_
  refine j_if_ne (tgt := 41) h dX12_openUp_34 (by decide) (fun c4 => ?_) (fun c4 => ?_)
  · exact j_vret h rfl dX12_openUp_41
  · refine j_aload_n h dX12_openUp_37 rfl ?_
    refine j_callVV (q0 := 0) (ci := 12) h [] (kX12_token _ G h.2.2.2.2.2.2.2.2.2.2 m3) okX12_token inX12_token ml12_249 rfl rfl rfl rfl (by decide) (by decide) (Nat.le_of_ble_eq_true rfl) rfl dX12_openUp_38 (fun m6 hm6 => ?_)
    exact j_vret h rfl dX12_openUp_41
theorem dX12_unit_0 : DD cX12_unit 0 (.iconst 1) 1 1 := ⟨by decide +kernel, rfl⟩
theorem dX12_unit_1 : DD cX12_unit 1 (.istore_n 1) 1 2 := ⟨by decide +kernel, rfl⟩
theorem dX12_unit_2 : DD cX12_unit 2 (.iload_n 1) 1 3 := ⟨by decide +kernel, rfl⟩
theorem dX12_unit_3 : DD cX12_unit 3 (.ifCond .eq 98) 3 6 := ⟨by decide +kernel, rfl⟩
theorem dX12_unit_6 : DD cX12_unit 6 (.aload_n 0) 1 7 := ⟨by decide +kernel, rfl⟩
theorem dX12_unit_7 : DD cX12_unit 7 (.getfield 197) 3 10 := ⟨by decide +kernel, rfl⟩
theorem dX12_unit_10 : DD cX12_unit 10 (.ifCond .ne 91) 3 13 := ⟨by decide +kernel, rfl⟩
theorem dX12_unit_13 : DD cX12_unit 13 (.aload_n 0) 1 14 := ⟨by decide +kernel, rfl⟩
theorem dX12_unit_14 : DD cX12_unit 14 (.ldc2_w 236) 3 17 := ⟨by decide +kernel, rfl⟩
theorem dX12_unit_17 : DD cX12_unit 17 (.invokevirtual 242) 3 20 := ⟨by decide +kernel, rfl⟩
theorem dX12_unit_20 : DD cX12_unit 20 (.ifCond .eq 33) 3 23 := ⟨by decide +kernel, rfl⟩
theorem dX12_unit_23 : DD cX12_unit 23 (.aload_n 0) 1 24 := ⟨by decide +kernel, rfl⟩
theorem dX12_unit_24 : DD cX12_unit 24 (.invokevirtual 292) 3 27 := ⟨by decide +kernel, rfl⟩
theorem dX12_unit_27 : DD cX12_unit 27 (.ifCond .eq 26) 3 30 := ⟨by decide +kernel, rfl⟩
theorem dX12_unit_30 : DD cX12_unit 30 (.aload_n 0) 1 31 := ⟨by decide +kernel, rfl⟩
theorem dX12_unit_31 : DD cX12_unit 31 (.getfield 283) 3 34 := ⟨by decide +kernel, rfl⟩
theorem dX12_unit_34 : DD cX12_unit 34 (.bipush 6) 2 36 := ⟨by decide +kernel, rfl⟩
theorem dX12_unit_36 : DD cX12_unit 36 (.if_icmp .le 8) 3 39 := ⟨by decide +kernel, rfl⟩
theorem dX12_unit_39 : DD cX12_unit 39 (.aload_n 0) 1 40 := ⟨by decide +kernel, rfl⟩
theorem dX12_unit_40 : DD cX12_unit 40 (.iconst 2) 1 41 := ⟨by decide +kernel, rfl⟩
theorem dX12_unit_41 : DD cX12_unit 41 (.invokevirtual 246) 3 44 := ⟨by decide +kernel, rfl⟩
theorem dX12_unit_44 : DD cX12_unit 44 (.aload_n 0) 1 45 := ⟨by decide +kernel, rfl⟩
theorem dX12_unit_45 : DD cX12_unit 45 (.bipush 21) 2 47 := ⟨by decide +kernel, rfl⟩
theorem dX12_unit_47 : DD cX12_unit 47 (.invokevirtual 295) 3 50 := ⟨by decide +kernel, rfl⟩
theorem dX12_unit_50 : DD cX12_unit 50 (.goto (-48)) 3 53 := ⟨by decide +kernel, rfl⟩
theorem dX12_unit_53 : DD cX12_unit 53 (.aload_n 0) 1 54 := ⟨by decide +kernel, rfl⟩
theorem dX12_unit_54 : DD cX12_unit 54 (.getfield 184) 3 57 := ⟨by decide +kernel, rfl⟩
theorem dX12_unit_57 : DD cX12_unit 57 (.bipush 40) 2 59 := ⟨by decide +kernel, rfl⟩
theorem dX12_unit_59 : DD cX12_unit 59 (.if_icmp .ne 37) 3 62 := ⟨by decide +kernel, rfl⟩
theorem dX12_unit_62 : DD cX12_unit 62 (.aload_n 0) 1 63 := ⟨by decide +kernel, rfl⟩
theorem dX12_unit_63 : DD cX12_unit 63 (.invokevirtual 298) 3 66 := ⟨by decide +kernel, rfl⟩
theorem dX12_unit_66 : DD cX12_unit 66 (.ifCond .ne 12) 3 69 := ⟨by decide +kernel, rfl⟩
theorem dX12_unit_69 : DD cX12_unit 69 (.aload_n 0) 1 70 := ⟨by decide +kernel, rfl⟩
theorem dX12_unit_70 : DD cX12_unit 70 (.getfield 283) 3 73 := ⟨by decide +kernel, rfl⟩
theorem dX12_unit_73 : DD cX12_unit 73 (.bipush 6) 2 75 := ⟨by decide +kernel, rfl⟩
theorem dX12_unit_75 : DD cX12_unit 75 (.if_icmp .le 8) 3 78 := ⟨by decide +kernel, rfl⟩
theorem dX12_unit_78 : DD cX12_unit 78 (.aload_n 0) 1 79 := ⟨by decide +kernel, rfl⟩
theorem dX12_unit_79 : DD cX12_unit 79 (.iconst 2) 1 80 := ⟨by decide +kernel, rfl⟩
theorem dX12_unit_80 : DD cX12_unit 80 (.invokevirtual 246) 3 83 := ⟨by decide +kernel, rfl⟩
theorem dX12_unit_83 : DD cX12_unit 83 (.aload_n 0) 1 84 := ⟨by decide +kernel, rfl⟩
theorem dX12_unit_84 : DD cX12_unit 84 (.invokevirtual 301) 3 87 := ⟨by decide +kernel, rfl⟩
theorem dX12_unit_87 : DD cX12_unit 87 (.aload_n 0) 1 88 := ⟨by decide +kernel, rfl⟩
theorem dX12_unit_88 : DD cX12_unit 88 (.bipush 20) 2 90 := ⟨by decide +kernel, rfl⟩
theorem dX12_unit_90 : DD cX12_unit 90 (.invokevirtual 295) 3 93 := ⟨by decide +kernel, rfl⟩
theorem dX12_unit_93 : DD cX12_unit 93 (.goto (-91)) 3 96 := ⟨by decide +kernel, rfl⟩
theorem dX12_unit_96 : DD cX12_unit 96 (.iconst 0) 1 97 := ⟨by decide +kernel, rfl⟩
theorem dX12_unit_97 : DD cX12_unit 97 (.istore_n 1) 1 98 := ⟨by decide +kernel, rfl⟩
theorem dX12_unit_98 : DD cX12_unit 98 (.goto (-96)) 3 101 := ⟨by decide +kernel, rfl⟩
theorem dX12_unit_101 : DD cX12_unit 101 (.aload_n 0) 1 102 := ⟨by decide +kernel, rfl⟩
theorem dX12_unit_102 : DD cX12_unit 102 (.getfield 197) 3 105 := ⟨by decide +kernel, rfl⟩
theorem dX12_unit_105 : DD cX12_unit 105 (.ifCond .le 4) 3 108 := ⟨by decide +kernel, rfl⟩
theorem dX12_unit_108 : DD cX12_unit 108 (.return_) 1 109 := ⟨by decide +kernel, rfl⟩
theorem dX12_unit_109 : DD cX12_unit 109 (.aload_n 0) 1 110 := ⟨by decide +kernel, rfl⟩
theorem dX12_unit_110 : DD cX12_unit 110 (.invokevirtual 304) 3 113 := ⟨by decide +kernel, rfl⟩
theorem dX12_unit_113 : DD cX12_unit 113 (.istore_n 2) 1 114 := ⟨by decide +kernel, rfl⟩
theorem dX12_unit_114 : DD cX12_unit 114 (.aload_n 0) 1 115 := ⟨by decide +kernel, rfl⟩
theorem dX12_unit_115 : DD cX12_unit 115 (.getfield 184) 3 118 := ⟨by decide +kernel, rfl⟩
theorem dX12_unit_118 : DD cX12_unit 118 (.iconst 2) 1 119 := ⟨by decide +kernel, rfl⟩
theorem dX12_unit_119 : DD cX12_unit 119 (.if_icmp .eq 7) 3 122 := ⟨by decide +kernel, rfl⟩
theorem dX12_unit_122 : DD cX12_unit 122 (.iload_n 2) 1 123 := ⟨by decide +kernel, rfl⟩
theorem dX12_unit_123 : DD cX12_unit 123 (.ifCond .lt 10) 3 126 := ⟨by decide +kernel, rfl⟩
theorem dX12_unit_126 : DD cX12_unit 126 (.aload_n 0) 1 127 := ⟨by decide +kernel, rfl⟩
theorem dX12_unit_127 : DD cX12_unit 127 (.invokevirtual 298) 3 130 := ⟨by decide +kernel, rfl⟩
theorem dX12_unit_130 : DD cX12_unit 130 (.ifCond .eq 8) 3 133 := ⟨by decide +kernel, rfl⟩
theorem dX12_unit_133 : DD cX12_unit 133 (.aload_n 0) 1 134 := ⟨by decide +kernel, rfl⟩
theorem dX12_unit_134 : DD cX12_unit 134 (.iconst 2) 1 135 := ⟨by decide +kernel, rfl⟩
theorem dX12_unit_135 : DD cX12_unit 135 (.invokevirtual 246) 3 138 := ⟨by decide +kernel, rfl⟩
theorem dX12_unit_138 : DD cX12_unit 138 (.aload_n 0) 1 139 := ⟨by decide +kernel, rfl⟩
theorem dX12_unit_139 : DD cX12_unit 139 (.getfield 197) 3 142 := ⟨by decide +kernel, rfl⟩
theorem dX12_unit_142 : DD cX12_unit 142 (.ifCond .le 4) 3 145 := ⟨by decide +kernel, rfl⟩
theorem dX12_unit_145 : DD cX12_unit 145 (.return_) 1 146 := ⟨by decide +kernel, rfl⟩
theorem dX12_unit_146 : DD cX12_unit 146 (.aload_n 0) 1 147 := ⟨by decide +kernel, rfl⟩
theorem dX12_unit_147 : DD cX12_unit 147 (.invokevirtual 301) 3 150 := ⟨by decide +kernel, rfl⟩
theorem dX12_unit_150 : DD cX12_unit 150 (.aload_n 0) 1 151 := ⟨by decide +kernel, rfl⟩
theorem dX12_unit_151 : DD cX12_unit 151 (.iload_n 2) 1 152 := ⟨by decide +kernel, rfl⟩
theorem dX12_unit_152 : DD cX12_unit 152 (.ifCond .ge 7) 3 155 := ⟨by decide +kernel, rfl⟩
theorem dX12_unit_155 : DD cX12_unit 155 (.iconst 0) 1 156 := ⟨by decide +kernel, rfl⟩
theorem dX12_unit_156 : DD cX12_unit 156 (.goto 4) 3 159 := ⟨by decide +kernel, rfl⟩
theorem dX12_unit_159 : DD cX12_unit 159 (.iconst 1) 1 160 := ⟨by decide +kernel, rfl⟩
theorem dX12_unit_160 : DD cX12_unit 160 (.iload_n 2) 1 161 := ⟨by decide +kernel, rfl⟩
theorem dX12_unit_161 : DD cX12_unit 161 (.ifCond .ge 10) 3 164 := ⟨by decide +kernel, rfl⟩
theorem dX12_unit_164 : DD cX12_unit 164 (.aload_n 0) 1 165 := ⟨by decide +kernel, rfl⟩
theorem dX12_unit_165 : DD cX12_unit 165 (.getfield 181) 3 168 := ⟨by decide +kernel, rfl⟩
theorem dX12_unit_168 : DD cX12_unit 168 (.goto 4) 3 171 := ⟨by decide +kernel, rfl⟩
theorem dX12_unit_171 : DD cX12_unit 171 (.iload_n 2) 1 172 := ⟨by decide +kernel, rfl⟩
theorem dX12_unit_172 : DD cX12_unit 172 (.invokevirtual 279) 3 175 := ⟨by decide +kernel, rfl⟩
theorem dX12_unit_175 : DD cX12_unit 175 (.aload_n 0) 1 176 := ⟨by decide +kernel, rfl⟩
theorem dX12_unit_176 : DD cX12_unit 176 (.invokevirtual 249) 3 179 := ⟨by decide +kernel, rfl⟩
theorem dX12_unit_179 : DD cX12_unit 179 (.return_) 1 180 := ⟨by decide +kernel, rfl⟩
def gX12_unit : Nat → Nat → Int32 → Int32 → Mem → Option Mem
  | 0, _, _, _, _ => none
  | f + 1, 0, x1, x2, m => (if x1 = 0 then (if (m.1 0 2) ≤ 0 then (cP (fX12_asked m) fun r3 => (if (m.1 0 6) = (2 : Int32) then (cP (fX12_isFull m) fun r6 => (if r6 = 0 then (gX12_unit f 1 0 r3 m) else (cV (fX12_wrong m (2 : Int32)) fun m10 => (gX12_unit f 1 0 r3 m10)))) else (if r3 < 0 then (cV (fX12_wrong m (2 : Int32)) fun m13 => (gX12_unit f 1 0 r3 m13)) else (cP (fX12_isFull m) fun r14 => (if r14 = 0 then (gX12_unit f 1 0 r3 m) else (cV (fX12_wrong m (2 : Int32)) fun m18 => (gX12_unit f 1 0 r3 m18))))))) else (some m)) else (if (m.1 0 2) = 0 then (cP (fX12_isWord m (7237492 : Int64)) fun r37 => (if r37 = 0 then (if (m.1 0 6) = (40 : Int32) then (cP (fX12_isFull m) fun r41 => (if r41 = 0 then (if (m.1 0 26) ≤ (6 : Int32) then (cV (fX12_countUnit m) fun m52 => (cV (fX12_openUp m52 (20 : Int32)) fun m54 => (gX12_unit f 0 x1 0 m54))) else (cV (fX12_wrong m (2 : Int32)) fun m56 => (cV (fX12_countUnit m56) fun m58 => (cV (fX12_openUp m58 (20 : Int32)) fun m60 => (gX12_unit f 0 x1 0 m60))))) else (cV (fX12_wrong m (2 : Int32)) fun m45 => (cV (fX12_countUnit m45) fun m47 => (cV (fX12_openUp m47 (20 : Int32)) fun m49 => (gX12_unit f 0 x1 0 m49)))))) else (gX12_unit f 0 (0 : Int32) 0 m)) else (cP (fX12_mayNot m) fun r61 => (if r61 = 0 then (if (m.1 0 6) = (40 : Int32) then (cP (fX12_isFull m) fun r65 => (if r65 = 0 then (if (m.1 0 26) ≤ (6 : Int32) then (cV (fX12_countUnit m) fun m76 => (cV (fX12_openUp m76 (20 : Int32)) fun m78 => (gX12_unit f 0 x1 0 m78))) else (cV (fX12_wrong m (2 : Int32)) fun m80 => (cV (fX12_countUnit m80) fun m82 => (cV (fX12_openUp m82 (20 : Int32)) fun m84 => (gX12_unit f 0 x1 0 m84))))) else (cV (fX12_wrong m (2 : Int32)) fun m69 => (cV (fX12_countUnit m69) fun m71 => (cV (fX12_openUp m71 (20 : Int32)) fun m73 => (gX12_unit f 0 x1 0 m73)))))) else (gX12_unit f 0 (0 : Int32) 0 m)) else (if (m.1 0 26) ≤ (6 : Int32) then (cV (fX12_openUp m (21 : Int32)) fun m87 => (gX12_unit f 0 x1 0 m87)) else (cV (fX12_wrong m (2 : Int32)) fun m89 => (cV (fX12_openUp m89 (21 : Int32)) fun m91 => (gX12_unit f 0 x1 0 m91)))))))) else (if (m.1 0 2) ≤ 0 then (cP (fX12_asked m) fun r21 => (if (m.1 0 6) = (2 : Int32) then (cP (fX12_isFull m) fun r24 => (if r24 = 0 then (gX12_unit f 1 0 r21 m) else (cV (fX12_wrong m (2 : Int32)) fun m28 => (gX12_unit f 1 0 r21 m28)))) else (if r21 < 0 then (cV (fX12_wrong m (2 : Int32)) fun m31 => (gX12_unit f 1 0 r21 m31)) else (cP (fX12_isFull m) fun r32 => (if r32 = 0 then (gX12_unit f 1 0 r21 m) else (cV (fX12_wrong m (2 : Int32)) fun m36 => (gX12_unit f 1 0 r21 m36))))))) else (some m))))
  | f + 1, 1, x1, x2, m => (if (m.1 0 2) ≤ 0 then (cV (fX12_countUnit m) fun m3 => (if 0 ≤ x2 then (if 0 ≤ x2 then (cV (fX12_add m3 (1 : Int32) x2) fun m7 => (cV (fX12_token m7) fun m9 => (some m9))) else (cV (fX12_add m3 (1 : Int32) (m3.1 0 8)) fun m11 => (cV (fX12_token m11) fun m13 => (some m13)))) else (if 0 ≤ x2 then (cV (fX12_add m3 (0 : Int32) x2) fun m16 => (cV (fX12_token m16) fun m18 => (some m18))) else (cV (fX12_add m3 (0 : Int32) (m3.1 0 8)) fun m20 => (cV (fX12_token m20) fun m22 => (some m22)))))) else (some m))
  | _ + 1, _ + 2, _, _, _ => none
def fX12_unit (m : Mem) : Option Mem := (gX12_unit 5000 0 (1 : Int32) 0 m)
set_option maxHeartbeats 4000000 in
set_option maxRecDepth 100000 in
theorem wX12_unit {X : Cx} {G : Gt} (h : OkX (X, G, wM, nM) cX12_unit RX12 3 none 4) : ∀ f : Nat, (∀ (x1 : Int32) (x2 : Int32) (m : Mem), JR (X, G, wM, nM) cvV m 2 [some (.ref (G.2.2 0)), some (.int x1), none] [] (gX12_unit f 0 x1 x2 m)) ∧ (∀ (x1 : Int32) (x2 : Int32) (m : Mem), JR (X, G, wM, nM) cvV m 138 [some (.ref (G.2.2 0)), none, some (.int x2)] [] (gX12_unit f 1 x1 x2 m)) := by
  intro f
  induction f with
  | zero => exact ⟨(fun _ _ _ => j_none), (fun _ _ _ => j_none)⟩
  | succ f ih =>
    refine ⟨?_, ?_⟩
    · intro x1 x2 m
      rw [gX12_unit]
      refine j_iload_n h dX12_unit_2 rfl ?_
      refine j_if_eq (tgt := 101) h dX12_unit_3 (by decide) (fun c1 => ?_) (fun c1 => ?_)
      · refine j_aload_n h dX12_unit_101 rfl ?_
        refine gM_2 h dX12_unit_102 ?_
        refine j_if_le (tgt := 109) h dX12_unit_105 (by decide) (fun c2 => ?_) (fun c2 => ?_)
        · refine j_aload_n h dX12_unit_109 rfl ?_
          refine j_callVP (q0 := 0) (ci := 12) h [] (kX12_asked _ G h.2.2.2.2.2.2.2.2.2.2 m) okX12_asked inX12_asked ml12_304 rfl rfl rfl rfl (by decide) (by decide) (Nat.le_of_ble_eq_true rfl) rfl dX12_unit_110 (fun r3 hr3 => ?_)
          refine j_istore_n h dX12_unit_113 rfl rfl ?_
          refine j_aload_n h dX12_unit_114 rfl ?_
          refine gM_6 h dX12_unit_115 ?_
          refine j_iconst (v := (2 : Int32)) h dX12_unit_118 kiconst_2 ?_
          refine j_icmp_eq (tgt := 126) h dX12_unit_119 (by decide) (fun c5 => ?_) (fun c5 => ?_)
          · refine j_aload_n h dX12_unit_126 rfl ?_
            refine j_callVP (q0 := 0) (ci := 12) h [] (kX12_isFull _ G h.2.2.2.2.2.2.2.2.2.2 m) okX12_isFull inX12_isFull ml12_298 rfl rfl rfl rfl (by decide) (by decide) (Nat.le_of_ble_eq_true rfl) rfl dX12_unit_127 (fun r6 hr6 => ?_)
            refine j_if_eq (tgt := 138) h dX12_unit_130 (by decide) (fun c8 => ?_) (fun c8 => ?_)
            · refine j_wk (ls' := [some (.ref (G.2.2 0)), none, some (.int r3)]) (And.intro rfl (And.intro rfl trivial)) ?_
              exact ih.2 0 r3 m
            · refine j_aload_n h dX12_unit_133 rfl ?_
              refine j_iconst (v := (2 : Int32)) h dX12_unit_134 kiconst_2 ?_
              refine j_callVV (q0 := 0) (ci := 12) h [.int (2 : Int32)] (kX12_wrong _ G h.2.2.2.2.2.2.2.2.2.2 m (2 : Int32)) okX12_wrong inX12_wrong ml12_246 rfl rfl rfl rfl (by decide) (by decide) (Nat.le_of_ble_eq_true rfl) rfl dX12_unit_135 (fun m10 hm10 => ?_)
              refine j_wk (ls' := [some (.ref (G.2.2 0)), none, some (.int r3)]) (And.intro rfl (And.intro rfl trivial)) ?_
              exact ih.2 0 r3 m10
          · refine j_iload_n h dX12_unit_122 rfl ?_
            refine j_if_lt (tgt := 133) h dX12_unit_123 (by decide) (fun c11 => ?_) (fun c11 => ?_)
            · refine j_aload_n h dX12_unit_133 rfl ?_
              refine j_iconst (v := (2 : Int32)) h dX12_unit_134 kiconst_2 ?_
              refine j_callVV (q0 := 0) (ci := 12) h [.int (2 : Int32)] (kX12_wrong _ G h.2.2.2.2.2.2.2.2.2.2 m (2 : Int32)) okX12_wrong inX12_wrong ml12_246 rfl rfl rfl rfl (by decide) (by decide) (Nat.le_of_ble_eq_true rfl) rfl dX12_unit_135 (fun m13 hm13 => ?_)
              refine j_wk (ls' := [some (.ref (G.2.2 0)), none, some (.int r3)]) (And.intro rfl (And.intro rfl trivial)) ?_
              exact ih.2 0 r3 m13
            · refine j_aload_n h dX12_unit_126 rfl ?_
              refine j_callVP (q0 := 0) (ci := 12) h [] (kX12_isFull _ G h.2.2.2.2.2.2.2.2.2.2 m) okX12_isFull inX12_isFull ml12_298 rfl rfl rfl rfl (by decide) (by decide) (Nat.le_of_ble_eq_true rfl) rfl dX12_unit_127 (fun r14 hr14 => ?_)
              refine j_if_eq (tgt := 138) h dX12_unit_130 (by decide) (fun c16 => ?_) (fun c16 => ?_)
              · refine j_wk (ls' := [some (.ref (G.2.2 0)), none, some (.int r3)]) (And.intro rfl (And.intro rfl trivial)) ?_
                exact ih.2 0 r3 m
              · refine j_aload_n h dX12_unit_133 rfl ?_
                refine j_iconst (v := (2 : Int32)) h dX12_unit_134 kiconst_2 ?_
                refine j_callVV (q0 := 0) (ci := 12) h [.int (2 : Int32)] (kX12_wrong _ G h.2.2.2.2.2.2.2.2.2.2 m (2 : Int32)) okX12_wrong inX12_wrong ml12_246 rfl rfl rfl rfl (by decide) (by decide) (Nat.le_of_ble_eq_true rfl) rfl dX12_unit_135 (fun m18 hm18 => ?_)
                refine j_wk (ls' := [some (.ref (G.2.2 0)), none, some (.int r3)]) (And.intro rfl (And.intro rfl trivial)) ?_
                exact ih.2 0 r3 m18
        · exact j_vret h rfl dX12_unit_108
      · refine j_aload_n h dX12_unit_6 rfl ?_
        refine gM_2 h dX12_unit_7 ?_
        refine j_if_ne (tgt := 101) h dX12_unit_10 (by decide) (fun c19 => ?_) (fun c19 => ?_)
        · refine j_aload_n h dX12_unit_101 rfl ?_
          refine gM_2 h dX12_unit_102 ?_
          refine j_if_le (tgt := 109) h dX12_unit_105 (by decide) (fun c20 => ?_) (fun c20 => ?_)
          · refine j_aload_n h dX12_unit_109 rfl ?_
            refine j_callVP (q0 := 0) (ci := 12) h [] (kX12_asked _ G h.2.2.2.2.2.2.2.2.2.2 m) okX12_asked inX12_asked ml12_304 rfl rfl rfl rfl (by decide) (by decide) (Nat.le_of_ble_eq_true rfl) rfl dX12_unit_110 (fun r21 hr21 => ?_)
            refine j_istore_n h dX12_unit_113 rfl rfl ?_
            refine j_aload_n h dX12_unit_114 rfl ?_
            refine gM_6 h dX12_unit_115 ?_
            refine j_iconst (v := (2 : Int32)) h dX12_unit_118 kiconst_2 ?_
            refine j_icmp_eq (tgt := 126) h dX12_unit_119 (by decide) (fun c23 => ?_) (fun c23 => ?_)
            · refine j_aload_n h dX12_unit_126 rfl ?_
              refine j_callVP (q0 := 0) (ci := 12) h [] (kX12_isFull _ G h.2.2.2.2.2.2.2.2.2.2 m) okX12_isFull inX12_isFull ml12_298 rfl rfl rfl rfl (by decide) (by decide) (Nat.le_of_ble_eq_true rfl) rfl dX12_unit_127 (fun r24 hr24 => ?_)
              refine j_if_eq (tgt := 138) h dX12_unit_130 (by decide) (fun c26 => ?_) (fun c26 => ?_)
              · refine j_wk (ls' := [some (.ref (G.2.2 0)), none, some (.int r21)]) (And.intro rfl (And.intro rfl trivial)) ?_
                exact ih.2 0 r21 m
              · refine j_aload_n h dX12_unit_133 rfl ?_
                refine j_iconst (v := (2 : Int32)) h dX12_unit_134 kiconst_2 ?_
                refine j_callVV (q0 := 0) (ci := 12) h [.int (2 : Int32)] (kX12_wrong _ G h.2.2.2.2.2.2.2.2.2.2 m (2 : Int32)) okX12_wrong inX12_wrong ml12_246 rfl rfl rfl rfl (by decide) (by decide) (Nat.le_of_ble_eq_true rfl) rfl dX12_unit_135 (fun m28 hm28 => ?_)
                refine j_wk (ls' := [some (.ref (G.2.2 0)), none, some (.int r21)]) (And.intro rfl (And.intro rfl trivial)) ?_
                exact ih.2 0 r21 m28
            · refine j_iload_n h dX12_unit_122 rfl ?_
              refine j_if_lt (tgt := 133) h dX12_unit_123 (by decide) (fun c29 => ?_) (fun c29 => ?_)
              · refine j_aload_n h dX12_unit_133 rfl ?_
                refine j_iconst (v := (2 : Int32)) h dX12_unit_134 kiconst_2 ?_
                refine j_callVV (q0 := 0) (ci := 12) h [.int (2 : Int32)] (kX12_wrong _ G h.2.2.2.2.2.2.2.2.2.2 m (2 : Int32)) okX12_wrong inX12_wrong ml12_246 rfl rfl rfl rfl (by decide) (by decide) (Nat.le_of_ble_eq_true rfl) rfl dX12_unit_135 (fun m31 hm31 => ?_)
                refine j_wk (ls' := [some (.ref (G.2.2 0)), none, some (.int r21)]) (And.intro rfl (And.intro rfl trivial)) ?_
                exact ih.2 0 r21 m31
              · refine j_aload_n h dX12_unit_126 rfl ?_
                refine j_callVP (q0 := 0) (ci := 12) h [] (kX12_isFull _ G h.2.2.2.2.2.2.2.2.2.2 m) okX12_isFull inX12_isFull ml12_298 rfl rfl rfl rfl (by decide) (by decide) (Nat.le_of_ble_eq_true rfl) rfl dX12_unit_127 (fun r32 hr32 => ?_)
                refine j_if_eq (tgt := 138) h dX12_unit_130 (by decide) (fun c34 => ?_) (fun c34 => ?_)
                · refine j_wk (ls' := [some (.ref (G.2.2 0)), none, some (.int r21)]) (And.intro rfl (And.intro rfl trivial)) ?_
                  exact ih.2 0 r21 m
                · refine j_aload_n h dX12_unit_133 rfl ?_
                  refine j_iconst (v := (2 : Int32)) h dX12_unit_134 kiconst_2 ?_
                  refine j_callVV (q0 := 0) (ci := 12) h [.int (2 : Int32)] (kX12_wrong _ G h.2.2.2.2.2.2.2.2.2.2 m (2 : Int32)) okX12_wrong inX12_wrong ml12_246 rfl rfl rfl rfl (by decide) (by decide) (Nat.le_of_ble_eq_true rfl) rfl dX12_unit_135 (fun m36 hm36 => ?_)
                  refine j_wk (ls' := [some (.ref (G.2.2 0)), none, some (.int r21)]) (And.intro rfl (And.intro rfl trivial)) ?_
                  exact ih.2 0 r21 m36
          · exact j_vret h rfl dX12_unit_108
        · refine j_aload_n h dX12_unit_13 rfl ?_
          refine j_ldc2 (v := (7237492 : Int64)) h dX12_unit_14 cl12_236 ?_
          refine j_callVP (q0 := 0) (ci := 12) h [.long (7237492 : Int64)] (kX12_isWord _ G h.2.2.2.2.2.2.2.2.2.2 m (7237492 : Int64)) okX12_isWord inX12_isWord ml12_242 rfl rfl rfl rfl (by decide) (by decide) (Nat.le_of_ble_eq_true rfl) rfl dX12_unit_17 (fun r37 hr37 => ?_)
          refine j_if_eq (tgt := 53) h dX12_unit_20 (by decide) (fun c39 => ?_) (fun c39 => ?_)
          · refine j_aload_n h dX12_unit_53 rfl ?_
            refine gM_6 h dX12_unit_54 ?_
            refine j_bipush (v := (40 : Int32)) h dX12_unit_57 kbipush_40 ?_
            refine j_icmp_ne (tgt := 96) h dX12_unit_59 (by decide) (fun c40 => ?_) (fun c40 => ?_)
            · refine j_iconst (v := (0 : Int32)) h dX12_unit_96 kiconst_0 ?_
              refine j_istore_n h dX12_unit_97 rfl rfl ?_
              refine j_goto (tgt := 2) h dX12_unit_98 (by decide) ?_
              refine j_wk (ls' := [some (.ref (G.2.2 0)), some (.int (0 : Int32)), none]) (And.intro rfl (And.intro rfl trivial)) ?_
              exact ih.1 (0 : Int32) 0 m
            · refine j_aload_n h dX12_unit_62 rfl ?_
              refine j_callVP (q0 := 0) (ci := 12) h [] (kX12_isFull _ G h.2.2.2.2.2.2.2.2.2.2 m) okX12_isFull inX12_isFull ml12_298 rfl rfl rfl rfl (by decide) (by decide) (Nat.le_of_ble_eq_true rfl) rfl dX12_unit_63 (fun r41 hr41 => ?_)
              refine j_if_ne (tgt := 78) h dX12_unit_66 (by decide) (fun c43 => ?_) (fun c43 => ?_)
              · refine j_aload_n h dX12_unit_78 rfl ?_
                refine j_iconst (v := (2 : Int32)) h dX12_unit_79 kiconst_2 ?_
                refine j_callVV (q0 := 0) (ci := 12) h [.int (2 : Int32)] (kX12_wrong _ G h.2.2.2.2.2.2.2.2.2.2 m (2 : Int32)) okX12_wrong inX12_wrong ml12_246 rfl rfl rfl rfl (by decide) (by decide) (Nat.le_of_ble_eq_true rfl) rfl dX12_unit_80 (fun m45 hm45 => ?_)
                refine j_aload_n h dX12_unit_83 rfl ?_
                refine j_callVV (q0 := 0) (ci := 12) h [] (kX12_countUnit _ G h.2.2.2.2.2.2.2.2.2.2 m45) okX12_countUnit inX12_countUnit ml12_301 rfl rfl rfl rfl (by decide) (by decide) (Nat.le_of_ble_eq_true rfl) rfl dX12_unit_84 (fun m47 hm47 => ?_)
                refine j_aload_n h dX12_unit_87 rfl ?_
                refine j_bipush (v := (20 : Int32)) h dX12_unit_88 kbipush_20 ?_
                refine j_callVV (q0 := 0) (ci := 12) h [.int (20 : Int32)] (kX12_openUp _ G h.2.2.2.2.2.2.2.2.2.2 m47 (20 : Int32)) okX12_openUp inX12_openUp ml12_295 rfl rfl rfl rfl (by decide) (by decide) (Nat.le_of_ble_eq_true rfl) rfl dX12_unit_90 (fun m49 hm49 => ?_)
                refine j_goto (tgt := 2) h dX12_unit_93 (by decide) ?_
                refine j_wk (ls' := [some (.ref (G.2.2 0)), some (.int x1), none]) (And.intro rfl (And.intro rfl trivial)) ?_
                exact ih.1 x1 0 m49
              · refine j_aload_n h dX12_unit_69 rfl ?_
                refine gM_26 h dX12_unit_70 ?_
                refine j_bipush (v := (6 : Int32)) h dX12_unit_73 kbipush_6 ?_
                refine j_icmp_le (tgt := 83) h dX12_unit_75 (by decide) (fun c50 => ?_) (fun c50 => ?_)
                · refine j_aload_n h dX12_unit_83 rfl ?_
                  refine j_callVV (q0 := 0) (ci := 12) h [] (kX12_countUnit _ G h.2.2.2.2.2.2.2.2.2.2 m) okX12_countUnit inX12_countUnit ml12_301 rfl rfl rfl rfl (by decide) (by decide) (Nat.le_of_ble_eq_true rfl) rfl dX12_unit_84 (fun m52 hm52 => ?_)
                  refine j_aload_n h dX12_unit_87 rfl ?_
                  refine j_bipush (v := (20 : Int32)) h dX12_unit_88 kbipush_20 ?_
                  refine j_callVV (q0 := 0) (ci := 12) h [.int (20 : Int32)] (kX12_openUp _ G h.2.2.2.2.2.2.2.2.2.2 m52 (20 : Int32)) okX12_openUp inX12_openUp ml12_295 rfl rfl rfl rfl (by decide) (by decide) (Nat.le_of_ble_eq_true rfl) rfl dX12_unit_90 (fun m54 hm54 => ?_)
                  refine j_goto (tgt := 2) h dX12_unit_93 (by decide) ?_
                  refine j_wk (ls' := [some (.ref (G.2.2 0)), some (.int x1), none]) (And.intro rfl (And.intro rfl trivial)) ?_
                  exact ih.1 x1 0 m54
                · refine j_aload_n h dX12_unit_78 rfl ?_
                  refine j_iconst (v := (2 : Int32)) h dX12_unit_79 kiconst_2 ?_
                  refine j_callVV (q0 := 0) (ci := 12) h [.int (2 : Int32)] (kX12_wrong _ G h.2.2.2.2.2.2.2.2.2.2 m (2 : Int32)) okX12_wrong inX12_wrong ml12_246 rfl rfl rfl rfl (by decide) (by decide) (Nat.le_of_ble_eq_true rfl) rfl dX12_unit_80 (fun m56 hm56 => ?_)
                  refine j_aload_n h dX12_unit_83 rfl ?_
                  refine j_callVV (q0 := 0) (ci := 12) h [] (kX12_countUnit _ G h.2.2.2.2.2.2.2.2.2.2 m56) okX12_countUnit inX12_countUnit ml12_301 rfl rfl rfl rfl (by decide) (by decide) (Nat.le_of_ble_eq_true rfl) rfl dX12_unit_84 (fun m58 hm58 => ?_)
                  refine j_aload_n h dX12_unit_87 rfl ?_
                  refine j_bipush (v := (20 : Int32)) h dX12_unit_88 kbipush_20 ?_
                  refine j_callVV (q0 := 0) (ci := 12) h [.int (20 : Int32)] (kX12_openUp _ G h.2.2.2.2.2.2.2.2.2.2 m58 (20 : Int32)) okX12_openUp inX12_openUp ml12_295 rfl rfl rfl rfl (by decide) (by decide) (Nat.le_of_ble_eq_true rfl) rfl dX12_unit_90 (fun m60 hm60 => ?_)
                  refine j_goto (tgt := 2) h dX12_unit_93 (by decide) ?_
                  refine j_wk (ls' := [some (.ref (G.2.2 0)), some (.int x1), none]) (And.intro rfl (And.intro rfl trivial)) ?_
                  exact ih.1 x1 0 m60
          · refine j_aload_n h dX12_unit_23 rfl ?_
            refine j_callVP (q0 := 0) (ci := 12) h [] (kX12_mayNot _ G h.2.2.2.2.2.2.2.2.2.2 m) okX12_mayNot inX12_mayNot ml12_292 rfl rfl rfl rfl (by decide) (by decide) (Nat.le_of_ble_eq_true rfl) rfl dX12_unit_24 (fun r61 hr61 => ?_)
            refine j_if_eq (tgt := 53) h dX12_unit_27 (by decide) (fun c63 => ?_) (fun c63 => ?_)
            · refine j_aload_n h dX12_unit_53 rfl ?_
              refine gM_6 h dX12_unit_54 ?_
              refine j_bipush (v := (40 : Int32)) h dX12_unit_57 kbipush_40 ?_
              refine j_icmp_ne (tgt := 96) h dX12_unit_59 (by decide) (fun c64 => ?_) (fun c64 => ?_)
              · refine j_iconst (v := (0 : Int32)) h dX12_unit_96 kiconst_0 ?_
                refine j_istore_n h dX12_unit_97 rfl rfl ?_
                refine j_goto (tgt := 2) h dX12_unit_98 (by decide) ?_
                refine j_wk (ls' := [some (.ref (G.2.2 0)), some (.int (0 : Int32)), none]) (And.intro rfl (And.intro rfl trivial)) ?_
                exact ih.1 (0 : Int32) 0 m
              · refine j_aload_n h dX12_unit_62 rfl ?_
                refine j_callVP (q0 := 0) (ci := 12) h [] (kX12_isFull _ G h.2.2.2.2.2.2.2.2.2.2 m) okX12_isFull inX12_isFull ml12_298 rfl rfl rfl rfl (by decide) (by decide) (Nat.le_of_ble_eq_true rfl) rfl dX12_unit_63 (fun r65 hr65 => ?_)
                refine j_if_ne (tgt := 78) h dX12_unit_66 (by decide) (fun c67 => ?_) (fun c67 => ?_)
                · refine j_aload_n h dX12_unit_78 rfl ?_
                  refine j_iconst (v := (2 : Int32)) h dX12_unit_79 kiconst_2 ?_
                  refine j_callVV (q0 := 0) (ci := 12) h [.int (2 : Int32)] (kX12_wrong _ G h.2.2.2.2.2.2.2.2.2.2 m (2 : Int32)) okX12_wrong inX12_wrong ml12_246 rfl rfl rfl rfl (by decide) (by decide) (Nat.le_of_ble_eq_true rfl) rfl dX12_unit_80 (fun m69 hm69 => ?_)
                  refine j_aload_n h dX12_unit_83 rfl ?_
                  refine j_callVV (q0 := 0) (ci := 12) h [] (kX12_countUnit _ G h.2.2.2.2.2.2.2.2.2.2 m69) okX12_countUnit inX12_countUnit ml12_301 rfl rfl rfl rfl (by decide) (by decide) (Nat.le_of_ble_eq_true rfl) rfl dX12_unit_84 (fun m71 hm71 => ?_)
                  refine j_aload_n h dX12_unit_87 rfl ?_
                  refine j_bipush (v := (20 : Int32)) h dX12_unit_88 kbipush_20 ?_
                  refine j_callVV (q0 := 0) (ci := 12) h [.int (20 : Int32)] (kX12_openUp _ G h.2.2.2.2.2.2.2.2.2.2 m71 (20 : Int32)) okX12_openUp inX12_openUp ml12_295 rfl rfl rfl rfl (by decide) (by decide) (Nat.le_of_ble_eq_true rfl) rfl dX12_unit_90 (fun m73 hm73 => ?_)
                  refine j_goto (tgt := 2) h dX12_unit_93 (by decide) ?_
                  refine j_wk (ls' := [some (.ref (G.2.2 0)), some (.int x1), none]) (And.intro rfl (And.intro rfl trivial)) ?_
                  exact ih.1 x1 0 m73
                · refine j_aload_n h dX12_unit_69 rfl ?_
                  refine gM_26 h dX12_unit_70 ?_
                  refine j_bipush (v := (6 : Int32)) h dX12_unit_73 kbipush_6 ?_
                  refine j_icmp_le (tgt := 83) h dX12_unit_75 (by decide) (fun c74 => ?_) (fun c74 => ?_)
                  · refine j_aload_n h dX12_unit_83 rfl ?_
                    refine j_callVV (q0 := 0) (ci := 12) h [] (kX12_countUnit _ G h.2.2.2.2.2.2.2.2.2.2 m) okX12_countUnit inX12_countUnit ml12_301 rfl rfl rfl rfl (by decide) (by decide) (Nat.le_of_ble_eq_true rfl) rfl dX12_unit_84 (fun m76 hm76 => ?_)
                    refine j_aload_n h dX12_unit_87 rfl ?_
                    refine j_bipush (v := (20 : Int32)) h dX12_unit_88 kbipush_20 ?_
                    refine j_callVV (q0 := 0) (ci := 12) h [.int (20 : Int32)] (kX12_openUp _ G h.2.2.2.2.2.2.2.2.2.2 m76 (20 : Int32)) okX12_openUp inX12_openUp ml12_295 rfl rfl rfl rfl (by decide) (by decide) (Nat.le_of_ble_eq_true rfl) rfl dX12_unit_90 (fun m78 hm78 => ?_)
                    refine j_goto (tgt := 2) h dX12_unit_93 (by decide) ?_
                    refine j_wk (ls' := [some (.ref (G.2.2 0)), some (.int x1), none]) (And.intro rfl (And.intro rfl trivial)) ?_
                    exact ih.1 x1 0 m78
                  · refine j_aload_n h dX12_unit_78 rfl ?_
                    refine j_iconst (v := (2 : Int32)) h dX12_unit_79 kiconst_2 ?_
                    refine j_callVV (q0 := 0) (ci := 12) h [.int (2 : Int32)] (kX12_wrong _ G h.2.2.2.2.2.2.2.2.2.2 m (2 : Int32)) okX12_wrong inX12_wrong ml12_246 rfl rfl rfl rfl (by decide) (by decide) (Nat.le_of_ble_eq_true rfl) rfl dX12_unit_80 (fun m80 hm80 => ?_)
                    refine j_aload_n h dX12_unit_83 rfl ?_
                    refine j_callVV (q0 := 0) (ci := 12) h [] (kX12_countUnit _ G h.2.2.2.2.2.2.2.2.2.2 m80) okX12_countUnit inX12_countUnit ml12_301 rfl rfl rfl rfl (by decide) (by decide) (Nat.le_of_ble_eq_true rfl) rfl dX12_unit_84 (fun m82 hm82 => ?_)
                    refine j_aload_n h dX12_unit_87 rfl ?_
                    refine j_bipush (v := (20 : Int32)) h dX12_unit_88 kbipush_20 ?_
                    refine j_callVV (q0 := 0) (ci := 12) h [.int (20 : Int32)] (kX12_openUp _ G h.2.2.2.2.2.2.2.2.2.2 m82 (20 : Int32)) okX12_openUp inX12_openUp ml12_295 rfl rfl rfl rfl (by decide) (by decide) (Nat.le_of_ble_eq_true rfl) rfl dX12_unit_90 (fun m84 hm84 => ?_)
                    refine j_goto (tgt := 2) h dX12_unit_93 (by decide) ?_
                    refine j_wk (ls' := [some (.ref (G.2.2 0)), some (.int x1), none]) (And.intro rfl (And.intro rfl trivial)) ?_
                    exact ih.1 x1 0 m84
            · refine j_aload_n h dX12_unit_30 rfl ?_
              refine gM_26 h dX12_unit_31 ?_
              refine j_bipush (v := (6 : Int32)) h dX12_unit_34 kbipush_6 ?_
              refine j_icmp_le (tgt := 44) h dX12_unit_36 (by decide) (fun c85 => ?_) (fun c85 => ?_)
              · refine j_aload_n h dX12_unit_44 rfl ?_
                refine j_bipush (v := (21 : Int32)) h dX12_unit_45 kbipush_21 ?_
                refine j_callVV (q0 := 0) (ci := 12) h [.int (21 : Int32)] (kX12_openUp _ G h.2.2.2.2.2.2.2.2.2.2 m (21 : Int32)) okX12_openUp inX12_openUp ml12_295 rfl rfl rfl rfl (by decide) (by decide) (Nat.le_of_ble_eq_true rfl) rfl dX12_unit_47 (fun m87 hm87 => ?_)
                refine j_goto (tgt := 2) h dX12_unit_50 (by decide) ?_
                refine j_wk (ls' := [some (.ref (G.2.2 0)), some (.int x1), none]) (And.intro rfl (And.intro rfl trivial)) ?_
                exact ih.1 x1 0 m87
              · refine j_aload_n h dX12_unit_39 rfl ?_
                refine j_iconst (v := (2 : Int32)) h dX12_unit_40 kiconst_2 ?_
                refine j_callVV (q0 := 0) (ci := 12) h [.int (2 : Int32)] (kX12_wrong _ G h.2.2.2.2.2.2.2.2.2.2 m (2 : Int32)) okX12_wrong inX12_wrong ml12_246 rfl rfl rfl rfl (by decide) (by decide) (Nat.le_of_ble_eq_true rfl) rfl dX12_unit_41 (fun m89 hm89 => ?_)
                refine j_aload_n h dX12_unit_44 rfl ?_
                refine j_bipush (v := (21 : Int32)) h dX12_unit_45 kbipush_21 ?_
                refine j_callVV (q0 := 0) (ci := 12) h [.int (21 : Int32)] (kX12_openUp _ G h.2.2.2.2.2.2.2.2.2.2 m89 (21 : Int32)) okX12_openUp inX12_openUp ml12_295 rfl rfl rfl rfl (by decide) (by decide) (Nat.le_of_ble_eq_true rfl) rfl dX12_unit_47 (fun m91 hm91 => ?_)
                refine j_goto (tgt := 2) h dX12_unit_50 (by decide) ?_
                refine j_wk (ls' := [some (.ref (G.2.2 0)), some (.int x1), none]) (And.intro rfl (And.intro rfl trivial)) ?_
                exact ih.1 x1 0 m91
    · intro x1 x2 m
      rw [gX12_unit]
      refine j_aload_n h dX12_unit_138 rfl ?_
      refine gM_2 h dX12_unit_139 ?_
      refine j_if_le (tgt := 146) h dX12_unit_142 (by decide) (fun c1 => ?_) (fun c1 => ?_)
      · refine j_aload_n h dX12_unit_146 rfl ?_
        refine j_callVV (q0 := 0) (ci := 12) h [] (kX12_countUnit _ G h.2.2.2.2.2.2.2.2.2.2 m) okX12_countUnit inX12_countUnit ml12_301 rfl rfl rfl rfl (by decide) (by decide) (Nat.le_of_ble_eq_true rfl) rfl dX12_unit_147 (fun m3 hm3 => ?_)
        refine j_aload_n h dX12_unit_150 rfl ?_
        refine j_iload_n h dX12_unit_151 rfl ?_
        refine j_if_ge (tgt := 159) h dX12_unit_152 (by decide) (fun c4 => ?_) (fun c4 => ?_)
        · refine j_iconst (v := (1 : Int32)) h dX12_unit_159 kiconst_1 ?_
          refine j_iload_n h dX12_unit_160 rfl ?_
          refine j_if_ge (tgt := 171) h dX12_unit_161 (by decide) (fun c5 => ?_) (fun c5 => ?_)
          · refine j_iload_n h dX12_unit_171 rfl ?_
            refine j_callVV (q0 := 0) (ci := 12) h [.int (1 : Int32), .int x2] (kX12_add _ G h.2.2.2.2.2.2.2.2.2.2 m3 (1 : Int32) x2) okX12_add inX12_add ml12_279 rfl rfl rfl rfl (by decide) (by decide) (Nat.le_of_ble_eq_true rfl) rfl dX12_unit_172 (fun m7 hm7 => ?_)
            refine j_aload_n h dX12_unit_175 rfl ?_
            refine j_callVV (q0 := 0) (ci := 12) h [] (kX12_token _ G h.2.2.2.2.2.2.2.2.2.2 m7) okX12_token inX12_token ml12_249 rfl rfl rfl rfl (by decide) (by decide) (Nat.le_of_ble_eq_true rfl) rfl dX12_unit_176 (fun m9 hm9 => ?_)
            exact j_vret h rfl dX12_unit_179
          · refine j_aload_n h dX12_unit_164 rfl ?_
            refine gM_8 h dX12_unit_165 ?_
            refine j_goto (tgt := 172) h dX12_unit_168 (by decide) ?_
            refine j_callVV (q0 := 0) (ci := 12) h [.int (1 : Int32), .int (m3.1 0 8)] (kX12_add _ G h.2.2.2.2.2.2.2.2.2.2 m3 (1 : Int32) (m3.1 0 8)) okX12_add inX12_add ml12_279 rfl rfl rfl rfl (by decide) (by decide) (Nat.le_of_ble_eq_true rfl) rfl dX12_unit_172 (fun m11 hm11 => ?_)
            refine j_aload_n h dX12_unit_175 rfl ?_
            refine j_callVV (q0 := 0) (ci := 12) h [] (kX12_token _ G h.2.2.2.2.2.2.2.2.2.2 m11) okX12_token inX12_token ml12_249 rfl rfl rfl rfl (by decide) (by decide) (Nat.le_of_ble_eq_true rfl) rfl dX12_unit_176 (fun m13 hm13 => ?_)
            exact j_vret h rfl dX12_unit_179
        · refine j_iconst (v := (0 : Int32)) h dX12_unit_155 kiconst_0 ?_
          refine j_goto (tgt := 160) h dX12_unit_156 (by decide) ?_
          refine j_iload_n h dX12_unit_160 rfl ?_
          refine j_if_ge (tgt := 171) h dX12_unit_161 (by decide) (fun c14 => ?_) (fun c14 => ?_)
          · refine j_iload_n h dX12_unit_171 rfl ?_
            refine j_callVV (q0 := 0) (ci := 12) h [.int (0 : Int32), .int x2] (kX12_add _ G h.2.2.2.2.2.2.2.2.2.2 m3 (0 : Int32) x2) okX12_add inX12_add ml12_279 rfl rfl rfl rfl (by decide) (by decide) (Nat.le_of_ble_eq_true rfl) rfl dX12_unit_172 (fun m16 hm16 => ?_)
            refine j_aload_n h dX12_unit_175 rfl ?_
            refine j_callVV (q0 := 0) (ci := 12) h [] (kX12_token _ G h.2.2.2.2.2.2.2.2.2.2 m16) okX12_token inX12_token ml12_249 rfl rfl rfl rfl (by decide) (by decide) (Nat.le_of_ble_eq_true rfl) rfl dX12_unit_176 (fun m18 hm18 => ?_)
            exact j_vret h rfl dX12_unit_179
          · refine j_aload_n h dX12_unit_164 rfl ?_
            refine gM_8 h dX12_unit_165 ?_
            refine j_goto (tgt := 172) h dX12_unit_168 (by decide) ?_
            refine j_callVV (q0 := 0) (ci := 12) h [.int (0 : Int32), .int (m3.1 0 8)] (kX12_add _ G h.2.2.2.2.2.2.2.2.2.2 m3 (0 : Int32) (m3.1 0 8)) okX12_add inX12_add ml12_279 rfl rfl rfl rfl (by decide) (by decide) (Nat.le_of_ble_eq_true rfl) rfl dX12_unit_172 (fun m20 hm20 => ?_)
            refine j_aload_n h dX12_unit_175 rfl ?_
            refine j_callVV (q0 := 0) (ci := 12) h [] (kX12_token _ G h.2.2.2.2.2.2.2.2.2.2 m20) okX12_token inX12_token ml12_249 rfl rfl rfl rfl (by decide) (by decide) (Nat.le_of_ble_eq_true rfl) rfl dX12_unit_176 (fun m22 hm22 => ?_)
            exact j_vret h rfl dX12_unit_179
      · exact j_vret h rfl dX12_unit_145
set_option maxHeartbeats 4000000 in
set_option maxRecDepth 100000 in
theorem kX12_unit (l : Launch) (G : Gt) (hD : ∀ m, va_D (inA G nM) (wM G m)) (m : Mem) : ∀ a, fX12_unit m = some a → Ct l G wM nM yX12_unit cX12_unit 3 none 4 [.ref (G.2.2 0)] m (cvV a) := by
  refine ct_of (own := RX12) (ls0 := [some (.ref (G.2.2 0)), none, none]) (by decide) rfl rfl rfl (Nat.le_of_ble_eq_true rfl) hD (fun X h => ?_) l
  unfold fX12_unit
  refine j_iconst (v := (1 : Int32)) h dX12_unit_0 kiconst_1 ?_
  refine j_istore_n h dX12_unit_1 rfl rfl ?_
  refine j_wk (ls' := [some (.ref (G.2.2 0)), some (.int (1 : Int32)), none]) (And.intro rfl (And.intro rfl trivial)) ?_
  exact (wX12_unit h 5000).1 (1 : Int32) 0 m
theorem dX12_sign_0 : DD cX12_sign 0 (.aload_n 0) 1 1 := ⟨by decide +kernel, rfl⟩
theorem dX12_sign_1 : DD cX12_sign 1 (.ldc2_w 232) 3 4 := ⟨by decide +kernel, rfl⟩
theorem dX12_sign_4 : DD cX12_sign 4 (.invokevirtual 242) 3 7 := ⟨by decide +kernel, rfl⟩
theorem dX12_sign_7 : DD cX12_sign 7 (.ifCond .eq 6) 3 10 := ⟨by decide +kernel, rfl⟩
theorem dX12_sign_10 : DD cX12_sign 10 (.bipush 38) 2 12 := ⟨by decide +kernel, rfl⟩
theorem dX12_sign_12 : DD cX12_sign 12 (.ireturn) 1 13 := ⟨by decide +kernel, rfl⟩
theorem dX12_sign_13 : DD cX12_sign 13 (.aload_n 0) 1 14 := ⟨by decide +kernel, rfl⟩
theorem dX12_sign_14 : DD cX12_sign 14 (.ldc2_w 234) 3 17 := ⟨by decide +kernel, rfl⟩
theorem dX12_sign_17 : DD cX12_sign 17 (.invokevirtual 242) 3 20 := ⟨by decide +kernel, rfl⟩
theorem dX12_sign_20 : DD cX12_sign 20 (.ifCond .eq 6) 3 23 := ⟨by decide +kernel, rfl⟩
theorem dX12_sign_23 : DD cX12_sign 23 (.bipush 124) 2 25 := ⟨by decide +kernel, rfl⟩
theorem dX12_sign_25 : DD cX12_sign 25 (.ireturn) 1 26 := ⟨by decide +kernel, rfl⟩
theorem dX12_sign_26 : DD cX12_sign 26 (.aload_n 0) 1 27 := ⟨by decide +kernel, rfl⟩
theorem dX12_sign_27 : DD cX12_sign 27 (.getfield 184) 3 30 := ⟨by decide +kernel, rfl⟩
theorem dX12_sign_30 : DD cX12_sign 30 (.bipush 60) 2 32 := ⟨by decide +kernel, rfl⟩
theorem dX12_sign_32 : DD cX12_sign 32 (.if_icmp .eq 66) 3 35 := ⟨by decide +kernel, rfl⟩
theorem dX12_sign_35 : DD cX12_sign 35 (.aload_n 0) 1 36 := ⟨by decide +kernel, rfl⟩
theorem dX12_sign_36 : DD cX12_sign 36 (.getfield 184) 3 39 := ⟨by decide +kernel, rfl⟩
theorem dX12_sign_39 : DD cX12_sign 39 (.bipush 62) 2 41 := ⟨by decide +kernel, rfl⟩
theorem dX12_sign_41 : DD cX12_sign 41 (.if_icmp .eq 57) 3 44 := ⟨by decide +kernel, rfl⟩
theorem dX12_sign_44 : DD cX12_sign 44 (.aload_n 0) 1 45 := ⟨by decide +kernel, rfl⟩
theorem dX12_sign_45 : DD cX12_sign 45 (.getfield 184) 3 48 := ⟨by decide +kernel, rfl⟩
theorem dX12_sign_48 : DD cX12_sign 48 (.bipush 61) 2 50 := ⟨by decide +kernel, rfl⟩
theorem dX12_sign_50 : DD cX12_sign 50 (.if_icmp .eq 48) 3 53 := ⟨by decide +kernel, rfl⟩
theorem dX12_sign_53 : DD cX12_sign 53 (.aload_n 0) 1 54 := ⟨by decide +kernel, rfl⟩
theorem dX12_sign_54 : DD cX12_sign 54 (.getfield 184) 3 57 := ⟨by decide +kernel, rfl⟩
theorem dX12_sign_57 : DD cX12_sign 57 (.bipush 43) 2 59 := ⟨by decide +kernel, rfl⟩
theorem dX12_sign_59 : DD cX12_sign 59 (.if_icmp .eq 39) 3 62 := ⟨by decide +kernel, rfl⟩
theorem dX12_sign_62 : DD cX12_sign 62 (.aload_n 0) 1 63 := ⟨by decide +kernel, rfl⟩
theorem dX12_sign_63 : DD cX12_sign 63 (.getfield 184) 3 66 := ⟨by decide +kernel, rfl⟩
theorem dX12_sign_66 : DD cX12_sign 66 (.bipush 45) 2 68 := ⟨by decide +kernel, rfl⟩
theorem dX12_sign_68 : DD cX12_sign 68 (.if_icmp .eq 30) 3 71 := ⟨by decide +kernel, rfl⟩
theorem dX12_sign_71 : DD cX12_sign 71 (.aload_n 0) 1 72 := ⟨by decide +kernel, rfl⟩
theorem dX12_sign_72 : DD cX12_sign 72 (.getfield 184) 3 75 := ⟨by decide +kernel, rfl⟩
theorem dX12_sign_75 : DD cX12_sign 75 (.bipush 42) 2 77 := ⟨by decide +kernel, rfl⟩
theorem dX12_sign_77 : DD cX12_sign 77 (.if_icmp .eq 21) 3 80 := ⟨by decide +kernel, rfl⟩
theorem dX12_sign_80 : DD cX12_sign 80 (.aload_n 0) 1 81 := ⟨by decide +kernel, rfl⟩
theorem dX12_sign_81 : DD cX12_sign 81 (.getfield 184) 3 84 := ⟨by decide +kernel, rfl⟩
theorem dX12_sign_84 : DD cX12_sign 84 (.bipush 47) 2 86 := ⟨by decide +kernel, rfl⟩
theorem dX12_sign_86 : DD cX12_sign 86 (.if_icmp .eq 12) 3 89 := ⟨by decide +kernel, rfl⟩
theorem dX12_sign_89 : DD cX12_sign 89 (.aload_n 0) 1 90 := ⟨by decide +kernel, rfl⟩
theorem dX12_sign_90 : DD cX12_sign 90 (.getfield 184) 3 93 := ⟨by decide +kernel, rfl⟩
theorem dX12_sign_93 : DD cX12_sign 93 (.bipush 37) 2 95 := ⟨by decide +kernel, rfl⟩
theorem dX12_sign_95 : DD cX12_sign 95 (.if_icmp .ne 10) 3 98 := ⟨by decide +kernel, rfl⟩
theorem dX12_sign_98 : DD cX12_sign 98 (.aload_n 0) 1 99 := ⟨by decide +kernel, rfl⟩
theorem dX12_sign_99 : DD cX12_sign 99 (.getfield 184) 3 102 := ⟨by decide +kernel, rfl⟩
theorem dX12_sign_102 : DD cX12_sign 102 (.goto 4) 3 105 := ⟨by decide +kernel, rfl⟩
theorem dX12_sign_105 : DD cX12_sign 105 (.iconst 0) 1 106 := ⟨by decide +kernel, rfl⟩
theorem dX12_sign_106 : DD cX12_sign 106 (.ireturn) 1 107 := ⟨by decide +kernel, rfl⟩
def fX12_sign (m : Mem) : Option Int32 := (cP (fX12_isWord m (6385252 : Int64)) fun r1 => (if r1 = 0 then (cP (fX12_isWord m (28530 : Int64)) fun r4 => (if r4 = 0 then (if (m.1 0 6) = (60 : Int32) then (some (m.1 0 6)) else (if (m.1 0 6) = (62 : Int32) then (some (m.1 0 6)) else (if (m.1 0 6) = (61 : Int32) then (some (m.1 0 6)) else (if (m.1 0 6) = (43 : Int32) then (some (m.1 0 6)) else (if (m.1 0 6) = (45 : Int32) then (some (m.1 0 6)) else (if (m.1 0 6) = (42 : Int32) then (some (m.1 0 6)) else (if (m.1 0 6) = (47 : Int32) then (some (m.1 0 6)) else (if (m.1 0 6) = (37 : Int32) then (some (m.1 0 6)) else (some (0 : Int32)))))))))) else (some (124 : Int32)))) else (some (38 : Int32))))
set_option maxHeartbeats 4000000 in
set_option maxRecDepth 100000 in
theorem kX12_sign (l : Launch) (G : Gt) (hD : ∀ m, va_D (inA G nM) (wM G m)) (m : Mem) : ∀ a, fX12_sign m = some a → Ct l G wM nM yX12_sign cX12_sign 1 (some .int) 2 [.ref (G.2.2 0)] m ((cvP m) a) := by
  refine ct_of (own := RX12) (ls0 := [some (.ref (G.2.2 0))]) (by decide) rfl rfl rfl (Nat.le_of_ble_eq_true rfl) hD (fun X h => ?_) l
  unfold fX12_sign
  refine j_aload_n h dX12_sign_0 rfl ?_
  refine j_ldc2 (v := (6385252 : Int64)) h dX12_sign_1 cl12_232 ?_
  refine j_callVP (q0 := 0) (ci := 12) h [.long (6385252 : Int64)] (kX12_isWord _ G h.2.2.2.2.2.2.2.2.2.2 m (6385252 : Int64)) okX12_isWord inX12_isWord ml12_242 rfl rfl rfl rfl (by decide) (by decide) (Nat.le_of_ble_eq_true rfl) rfl dX12_sign_4 (fun r1 hr1 => ?_)
  refine j_if_eq (tgt := 13) h dX12_sign_7 (by decide) (fun c3 => ?_) (fun c3 => ?_)
  · refine j_aload_n h dX12_sign_13 rfl ?_
    refine j_ldc2 (v := (28530 : Int64)) h dX12_sign_14 cl12_234 ?_
    refine j_callVP (q0 := 0) (ci := 12) h [.long (28530 : Int64)] (kX12_isWord _ G h.2.2.2.2.2.2.2.2.2.2 m (28530 : Int64)) okX12_isWord inX12_isWord ml12_242 rfl rfl rfl rfl (by decide) (by decide) (Nat.le_of_ble_eq_true rfl) rfl dX12_sign_17 (fun r4 hr4 => ?_)
    refine j_if_eq (tgt := 26) h dX12_sign_20 (by decide) (fun c6 => ?_) (fun c6 => ?_)
    · refine j_aload_n h dX12_sign_26 rfl ?_
      refine gM_6 h dX12_sign_27 ?_
      refine j_bipush (v := (60 : Int32)) h dX12_sign_30 kbipush_60 ?_
      refine j_icmp_eq (tgt := 98) h dX12_sign_32 (by decide) (fun c7 => ?_) (fun c7 => ?_)
      · refine j_aload_n h dX12_sign_98 rfl ?_
        refine gM_6 h dX12_sign_99 ?_
        refine j_goto (tgt := 106) h dX12_sign_102 (by decide) ?_
        exact j_iret h rfl dX12_sign_106
      · refine j_aload_n h dX12_sign_35 rfl ?_
        refine gM_6 h dX12_sign_36 ?_
        refine j_bipush (v := (62 : Int32)) h dX12_sign_39 kbipush_62 ?_
        refine j_icmp_eq (tgt := 98) h dX12_sign_41 (by decide) (fun c8 => ?_) (fun c8 => ?_)
        · refine j_aload_n h dX12_sign_98 rfl ?_
          refine gM_6 h dX12_sign_99 ?_
          refine j_goto (tgt := 106) h dX12_sign_102 (by decide) ?_
          exact j_iret h rfl dX12_sign_106
        · refine j_aload_n h dX12_sign_44 rfl ?_
          refine gM_6 h dX12_sign_45 ?_
          refine j_bipush (v := (61 : Int32)) h dX12_sign_48 kbipush_61 ?_
          refine j_icmp_eq (tgt := 98) h dX12_sign_50 (by decide) (fun c9 => ?_) (fun c9 => ?_)
          · refine j_aload_n h dX12_sign_98 rfl ?_
            refine gM_6 h dX12_sign_99 ?_
            refine j_goto (tgt := 106) h dX12_sign_102 (by decide) ?_
            exact j_iret h rfl dX12_sign_106
          · refine j_aload_n h dX12_sign_53 rfl ?_
            refine gM_6 h dX12_sign_54 ?_
            refine j_bipush (v := (43 : Int32)) h dX12_sign_57 kbipush_43 ?_
            refine j_icmp_eq (tgt := 98) h dX12_sign_59 (by decide) (fun c10 => ?_) (fun c10 => ?_)
            · refine j_aload_n h dX12_sign_98 rfl ?_
              refine gM_6 h dX12_sign_99 ?_
              refine j_goto (tgt := 106) h dX12_sign_102 (by decide) ?_
              exact j_iret h rfl dX12_sign_106
            · refine j_aload_n h dX12_sign_62 rfl ?_
              refine gM_6 h dX12_sign_63 ?_
              refine j_bipush (v := (45 : Int32)) h dX12_sign_66 kbipush_45 ?_
              refine j_icmp_eq (tgt := 98) h dX12_sign_68 (by decide) (fun c11 => ?_) (fun c11 => ?_)
              · refine j_aload_n h dX12_sign_98 rfl ?_
                refine gM_6 h dX12_sign_99 ?_
                refine j_goto (tgt := 106) h dX12_sign_102 (by decide) ?_
                exact j_iret h rfl dX12_sign_106
              · refine j_aload_n h dX12_sign_71 rfl ?_
                refine gM_6 h dX12_sign_72 ?_
                refine j_bipush (v := (42 : Int32)) h dX12_sign_75 kbipush_42 ?_
                refine j_icmp_eq (tgt := 98) h dX12_sign_77 (by decide) (fun c12 => ?_) (fun c12 => ?_)
                · refine j_aload_n h dX12_sign_98 rfl ?_
                  refine gM_6 h dX12_sign_99 ?_
                  refine j_goto (tgt := 106) h dX12_sign_102 (by decide) ?_
                  exact j_iret h rfl dX12_sign_106
                · refine j_aload_n h dX12_sign_80 rfl ?_
                  refine gM_6 h dX12_sign_81 ?_
                  refine j_bipush (v := (47 : Int32)) h dX12_sign_84 kbipush_47 ?_
                  refine j_icmp_eq (tgt := 98) h dX12_sign_86 (by decide) (fun c13 => ?_) (fun c13 => ?_)
                  · refine j_aload_n h dX12_sign_98 rfl ?_
                    refine gM_6 h dX12_sign_99 ?_
                    refine j_goto (tgt := 106) h dX12_sign_102 (by decide) ?_
                    exact j_iret h rfl dX12_sign_106
                  · refine j_aload_n h dX12_sign_89 rfl ?_
                    refine gM_6 h dX12_sign_90 ?_
                    refine j_bipush (v := (37 : Int32)) h dX12_sign_93 kbipush_37 ?_
                    refine j_icmp_ne (tgt := 105) h dX12_sign_95 (by decide) (fun c14 => ?_) (fun c14 => ?_)
                    · refine j_iconst (v := (0 : Int32)) h dX12_sign_105 kiconst_0 ?_
                      exact j_iret h rfl dX12_sign_106
                    · refine j_aload_n h dX12_sign_98 rfl ?_
                      refine gM_6 h dX12_sign_99 ?_
                      refine j_goto (tgt := 106) h dX12_sign_102 (by decide) ?_
                      exact j_iret h rfl dX12_sign_106
    · refine j_bipush (v := (124 : Int32)) h dX12_sign_23 kbipush_124 ?_
      exact j_iret h rfl dX12_sign_25
  · refine j_bipush (v := (38 : Int32)) h dX12_sign_10 kbipush_38 ?_
    exact j_iret h rfl dX12_sign_12
theorem dX12_hasBracket_0 : DD cX12_hasBracket 0 (.iconst 0) 1 1 := ⟨by decide +kernel, rfl⟩
theorem dX12_hasBracket_1 : DD cX12_hasBracket 1 (.istore_n 1) 1 2 := ⟨by decide +kernel, rfl⟩
theorem dX12_hasBracket_2 : DD cX12_hasBracket 2 (.iconst 0) 1 3 := ⟨by decide +kernel, rfl⟩
theorem dX12_hasBracket_3 : DD cX12_hasBracket 3 (.istore_n 2) 1 4 := ⟨by decide +kernel, rfl⟩
theorem dX12_hasBracket_4 : DD cX12_hasBracket 4 (.iload_n 2) 1 5 := ⟨by decide +kernel, rfl⟩
theorem dX12_hasBracket_5 : DD cX12_hasBracket 5 (.aload_n 0) 1 6 := ⟨by decide +kernel, rfl⟩
theorem dX12_hasBracket_6 : DD cX12_hasBracket 6 (.getfield 273) 3 9 := ⟨by decide +kernel, rfl⟩
theorem dX12_hasBracket_9 : DD cX12_hasBracket 9 (.if_icmp .ge 30) 3 12 := ⟨by decide +kernel, rfl⟩
theorem dX12_hasBracket_12 : DD cX12_hasBracket 12 (.iload_n 1) 1 13 := ⟨by decide +kernel, rfl⟩
theorem dX12_hasBracket_13 : DD cX12_hasBracket 13 (.ifCond .ne 14) 3 16 := ⟨by decide +kernel, rfl⟩
theorem dX12_hasBracket_16 : DD cX12_hasBracket 16 (.aload_n 0) 1 17 := ⟨by decide +kernel, rfl⟩
theorem dX12_hasBracket_17 : DD cX12_hasBracket 17 (.getfield 39) 3 20 := ⟨by decide +kernel, rfl⟩
theorem dX12_hasBracket_20 : DD cX12_hasBracket 20 (.iload_n 2) 1 21 := ⟨by decide +kernel, rfl⟩
theorem dX12_hasBracket_21 : DD cX12_hasBracket 21 (.iaload) 1 22 := ⟨by decide +kernel, rfl⟩
theorem dX12_hasBracket_22 : DD cX12_hasBracket 22 (.bipush 20) 2 24 := ⟨by decide +kernel, rfl⟩
theorem dX12_hasBracket_24 : DD cX12_hasBracket 24 (.if_icmp .ne 7) 3 27 := ⟨by decide +kernel, rfl⟩
theorem dX12_hasBracket_27 : DD cX12_hasBracket 27 (.iconst 1) 1 28 := ⟨by decide +kernel, rfl⟩
theorem dX12_hasBracket_28 : DD cX12_hasBracket 28 (.goto 4) 3 31 := ⟨by decide +kernel, rfl⟩
theorem dX12_hasBracket_31 : DD cX12_hasBracket 31 (.iconst 0) 1 32 := ⟨by decide +kernel, rfl⟩
theorem dX12_hasBracket_32 : DD cX12_hasBracket 32 (.istore_n 1) 1 33 := ⟨by decide +kernel, rfl⟩
theorem dX12_hasBracket_33 : DD cX12_hasBracket 33 (.iinc 2 1) 3 36 := ⟨by decide +kernel, rfl⟩
theorem dX12_hasBracket_36 : DD cX12_hasBracket 36 (.goto (-32)) 3 39 := ⟨by decide +kernel, rfl⟩
theorem dX12_hasBracket_39 : DD cX12_hasBracket 39 (.iload_n 1) 1 40 := ⟨by decide +kernel, rfl⟩
theorem dX12_hasBracket_40 : DD cX12_hasBracket 40 (.ireturn) 1 41 := ⟨by decide +kernel, rfl⟩
def gX12_hasBracket (m : Mem) : Nat → Int32 → Int32 → Option Int32
  | 0, _, _ => none
  | f + 1, x1, x2 => (if (m.1 0 22) ≤ x2 then (tz x1 (some x1)) else (if x1 = 0 then (rd (m.1 9) 160 x2 fun v3 => (if v3 = (20 : Int32) then (gX12_hasBracket m f (1 : Int32) (x2 + (1 : Int32))) else (gX12_hasBracket m f (0 : Int32) (x2 + (1 : Int32))))) else (gX12_hasBracket m f (1 : Int32) (x2 + (1 : Int32)))))
def fX12_hasBracket (m : Mem) : Option Int32 := (gX12_hasBracket m 5000 (0 : Int32) (0 : Int32))
set_option maxHeartbeats 4000000 in
set_option maxRecDepth 100000 in
theorem wX12_hasBracket {X : Cx} {G : Gt} (h : OkX (X, G, wM, nM) cX12_hasBracket RX12 3 (some .boolean) 1) (m : Mem) : ∀ f : Nat, (∀ (x1 : Int32) (x2 : Int32), JR (X, G, wM, nM) (cvP m) m 4 [some (.ref (G.2.2 0)), some (.int x1), some (.int x2)] [] (gX12_hasBracket m f x1 x2)) := by
  intro f
  induction f with
  | zero => exact (fun _ _ => j_none)
  | succ f ih =>
    intro x1 x2
    rw [gX12_hasBracket]
    refine j_iload_n h dX12_hasBracket_4 rfl ?_
    refine j_aload_n h dX12_hasBracket_5 rfl ?_
    refine gM_22 h dX12_hasBracket_6 ?_
    refine j_icmp_ge (tgt := 39) h dX12_hasBracket_9 (by decide) (fun c1 => ?_) (fun c1 => ?_)
    · refine j_iload_n h dX12_hasBracket_39 rfl ?_
      exact j_zret h rfl dX12_hasBracket_40
    · refine j_iload_n h dX12_hasBracket_12 rfl ?_
      refine j_if_ne (tgt := 27) h dX12_hasBracket_13 (by decide) (fun c2 => ?_) (fun c2 => ?_)
      · refine j_iconst (v := (1 : Int32)) h dX12_hasBracket_27 kiconst_1 ?_
        refine j_goto (tgt := 32) h dX12_hasBracket_28 (by decide) ?_
        refine j_istore_n h dX12_hasBracket_32 rfl rfl ?_
        refine j_iinc (v := (x2 + (1 : Int32))) h dX12_hasBracket_33 rfl (by rw [kiconst_1]) rfl ?_
        refine j_goto (tgt := 4) h dX12_hasBracket_36 (by decide) ?_
        refine j_wk (ls' := [some (.ref (G.2.2 0)), some (.int (1 : Int32)), some (.int (x2 + (1 : Int32)))]) (And.intro rfl (And.intro rfl (And.intro rfl trivial))) ?_
        exact ih (1 : Int32) (x2 + (1 : Int32))
      · refine j_aload_n h dX12_hasBracket_16 rfl ?_
        refine gM_17 h dX12_hasBracket_17 ?_
        refine j_iload_n h dX12_hasBracket_20 rfl ?_
        refine aM_9 h dX12_hasBracket_21 (fun v3 hv3 => ?_)
        refine j_bipush (v := (20 : Int32)) h dX12_hasBracket_22 kbipush_20 ?_
        refine j_icmp_ne (tgt := 31) h dX12_hasBracket_24 (by decide) (fun c4 => ?_) (fun c4 => ?_)
        · refine j_iconst (v := (0 : Int32)) h dX12_hasBracket_31 kiconst_0 ?_
          refine j_istore_n h dX12_hasBracket_32 rfl rfl ?_
          refine j_iinc (v := (x2 + (1 : Int32))) h dX12_hasBracket_33 rfl (by rw [kiconst_1]) rfl ?_
          refine j_goto (tgt := 4) h dX12_hasBracket_36 (by decide) ?_
          refine j_wk (ls' := [some (.ref (G.2.2 0)), some (.int (0 : Int32)), some (.int (x2 + (1 : Int32)))]) (And.intro rfl (And.intro rfl (And.intro rfl trivial))) ?_
          exact ih (0 : Int32) (x2 + (1 : Int32))
        · refine j_iconst (v := (1 : Int32)) h dX12_hasBracket_27 kiconst_1 ?_
          refine j_goto (tgt := 32) h dX12_hasBracket_28 (by decide) ?_
          refine j_istore_n h dX12_hasBracket_32 rfl rfl ?_
          refine j_iinc (v := (x2 + (1 : Int32))) h dX12_hasBracket_33 rfl (by rw [kiconst_1]) rfl ?_
          refine j_goto (tgt := 4) h dX12_hasBracket_36 (by decide) ?_
          refine j_wk (ls' := [some (.ref (G.2.2 0)), some (.int (1 : Int32)), some (.int (x2 + (1 : Int32)))]) (And.intro rfl (And.intro rfl (And.intro rfl trivial))) ?_
          exact ih (1 : Int32) (x2 + (1 : Int32))
set_option maxHeartbeats 4000000 in
set_option maxRecDepth 100000 in
theorem kX12_hasBracket (l : Launch) (G : Gt) (hD : ∀ m, va_D (inA G nM) (wM G m)) (m : Mem) : ∀ a, fX12_hasBracket m = some a → Ct l G wM nM yX12_hasBracket cX12_hasBracket 3 (some .boolean) 1 [.ref (G.2.2 0)] m ((cvP m) a) := by
  refine ct_of (own := RX12) (ls0 := [some (.ref (G.2.2 0)), none, none]) (by decide) rfl rfl rfl (Nat.le_of_ble_eq_true rfl) hD (fun X h => ?_) l
  unfold fX12_hasBracket
  refine j_iconst (v := (0 : Int32)) h dX12_hasBracket_0 kiconst_0 ?_
  refine j_istore_n h dX12_hasBracket_1 rfl rfl ?_
  refine j_iconst (v := (0 : Int32)) h dX12_hasBracket_2 kiconst_0 ?_
  refine j_istore_n h dX12_hasBracket_3 rfl rfl ?_
  refine j_wk (ls' := [some (.ref (G.2.2 0)), some (.int (0 : Int32)), some (.int (0 : Int32))]) (And.intro rfl (And.intro rfl (And.intro rfl trivial))) ?_
  exact (wX12_hasBracket h m 5000) (0 : Int32) (0 : Int32)
theorem dX12_formula_0 : DD cX12_formula 0 (.aload_n 0) 1 1 := ⟨by decide +kernel, rfl⟩
theorem dX12_formula_1 : DD cX12_formula 1 (.invokevirtual 249) 3 4 := ⟨by decide +kernel, rfl⟩
theorem dX12_formula_4 : DD cX12_formula 4 (.aload_n 0) 1 5 := ⟨by decide +kernel, rfl⟩
theorem dX12_formula_5 : DD cX12_formula 5 (.iload_n 1) 1 6 := ⟨by decide +kernel, rfl⟩
theorem dX12_formula_6 : DD cX12_formula 6 (.putfield 270) 3 9 := ⟨by decide +kernel, rfl⟩
theorem dX12_formula_9 : DD cX12_formula 9 (.aload_n 0) 1 10 := ⟨by decide +kernel, rfl⟩
theorem dX12_formula_10 : DD cX12_formula 10 (.getfield 45) 3 13 := ⟨by decide +kernel, rfl⟩
theorem dX12_formula_13 : DD cX12_formula 13 (.aload_n 0) 1 14 := ⟨by decide +kernel, rfl⟩
theorem dX12_formula_14 : DD cX12_formula 14 (.getfield 270) 3 17 := ⟨by decide +kernel, rfl⟩
theorem dX12_formula_17 : DD cX12_formula 17 (.iconst 1) 1 18 := ⟨by decide +kernel, rfl⟩
theorem dX12_formula_18 : DD cX12_formula 18 (.bastore) 1 19 := ⟨by decide +kernel, rfl⟩
theorem dX12_formula_19 : DD cX12_formula 19 (.aload_n 0) 1 20 := ⟨by decide +kernel, rfl⟩
theorem dX12_formula_20 : DD cX12_formula 20 (.getfield 27) 3 23 := ⟨by decide +kernel, rfl⟩
theorem dX12_formula_23 : DD cX12_formula 23 (.aload_n 0) 1 24 := ⟨by decide +kernel, rfl⟩
theorem dX12_formula_24 : DD cX12_formula 24 (.getfield 270) 3 27 := ⟨by decide +kernel, rfl⟩
theorem dX12_formula_27 : DD cX12_formula 27 (.iconst 0) 1 28 := ⟨by decide +kernel, rfl⟩
theorem dX12_formula_28 : DD cX12_formula 28 (.iastore) 1 29 := ⟨by decide +kernel, rfl⟩
theorem dX12_formula_29 : DD cX12_formula 29 (.aload_n 0) 1 30 := ⟨by decide +kernel, rfl⟩
theorem dX12_formula_30 : DD cX12_formula 30 (.iconst 0) 1 31 := ⟨by decide +kernel, rfl⟩
theorem dX12_formula_31 : DD cX12_formula 31 (.putfield 273) 3 34 := ⟨by decide +kernel, rfl⟩
theorem dX12_formula_34 : DD cX12_formula 34 (.aload_n 0) 1 35 := ⟨by decide +kernel, rfl⟩
theorem dX12_formula_35 : DD cX12_formula 35 (.iconst 0) 1 36 := ⟨by decide +kernel, rfl⟩
theorem dX12_formula_36 : DD cX12_formula 36 (.putfield 283) 3 39 := ⟨by decide +kernel, rfl⟩
theorem dX12_formula_39 : DD cX12_formula 39 (.aload_n 0) 1 40 := ⟨by decide +kernel, rfl⟩
theorem dX12_formula_40 : DD cX12_formula 40 (.iconst 0) 1 41 := ⟨by decide +kernel, rfl⟩
theorem dX12_formula_41 : DD cX12_formula 41 (.putfield 289) 3 44 := ⟨by decide +kernel, rfl⟩
theorem dX12_formula_44 : DD cX12_formula 44 (.aload_n 0) 1 45 := ⟨by decide +kernel, rfl⟩
theorem dX12_formula_45 : DD cX12_formula 45 (.invokevirtual 307) 3 48 := ⟨by decide +kernel, rfl⟩
theorem dX12_formula_48 : DD cX12_formula 48 (.iconst 1) 1 49 := ⟨by decide +kernel, rfl⟩
theorem dX12_formula_49 : DD cX12_formula 49 (.istore_n 2) 1 50 := ⟨by decide +kernel, rfl⟩
theorem dX12_formula_50 : DD cX12_formula 50 (.iload_n 2) 1 51 := ⟨by decide +kernel, rfl⟩
theorem dX12_formula_51 : DD cX12_formula 51 (.ifCond .eq 126) 3 54 := ⟨by decide +kernel, rfl⟩
theorem dX12_formula_54 : DD cX12_formula 54 (.aload_n 0) 1 55 := ⟨by decide +kernel, rfl⟩
theorem dX12_formula_55 : DD cX12_formula 55 (.getfield 197) 3 58 := ⟨by decide +kernel, rfl⟩
theorem dX12_formula_58 : DD cX12_formula 58 (.ifCond .ne 119) 3 61 := ⟨by decide +kernel, rfl⟩
theorem dX12_formula_61 : DD cX12_formula 61 (.aload_n 0) 1 62 := ⟨by decide +kernel, rfl⟩
theorem dX12_formula_62 : DD cX12_formula 62 (.invokevirtual 310) 3 65 := ⟨by decide +kernel, rfl⟩
theorem dX12_formula_65 : DD cX12_formula 65 (.istore_n 3) 1 66 := ⟨by decide +kernel, rfl⟩
theorem dX12_formula_66 : DD cX12_formula 66 (.aload_n 0) 1 67 := ⟨by decide +kernel, rfl⟩
theorem dX12_formula_67 : DD cX12_formula 67 (.getfield 184) 3 70 := ⟨by decide +kernel, rfl⟩
theorem dX12_formula_70 : DD cX12_formula 70 (.bipush 41) 2 72 := ⟨by decide +kernel, rfl⟩
theorem dX12_formula_72 : DD cX12_formula 72 (.if_icmp .ne 42) 3 75 := ⟨by decide +kernel, rfl⟩
theorem dX12_formula_75 : DD cX12_formula 75 (.aload_n 0) 1 76 := ⟨by decide +kernel, rfl⟩
theorem dX12_formula_76 : DD cX12_formula 76 (.invokevirtual 313) 3 79 := ⟨by decide +kernel, rfl⟩
theorem dX12_formula_79 : DD cX12_formula 79 (.ifCond .eq 35) 3 82 := ⟨by decide +kernel, rfl⟩
theorem dX12_formula_82 : DD cX12_formula 82 (.aload_n 0) 1 83 := ⟨by decide +kernel, rfl⟩
theorem dX12_formula_83 : DD cX12_formula 83 (.iconst 0) 1 84 := ⟨by decide +kernel, rfl⟩
theorem dX12_formula_84 : DD cX12_formula 84 (.invokevirtual 316) 3 87 := ⟨by decide +kernel, rfl⟩
theorem dX12_formula_87 : DD cX12_formula 87 (.aload_n 0) 1 88 := ⟨by decide +kernel, rfl⟩
theorem dX12_formula_88 : DD cX12_formula 88 (.dup) 1 89 := ⟨by decide +kernel, rfl⟩
theorem dX12_formula_89 : DD cX12_formula 89 (.getfield 273) 3 92 := ⟨by decide +kernel, rfl⟩
theorem dX12_formula_92 : DD cX12_formula 92 (.iconst 1) 1 93 := ⟨by decide +kernel, rfl⟩
theorem dX12_formula_93 : DD cX12_formula 93 (.isub) 1 94 := ⟨by decide +kernel, rfl⟩
theorem dX12_formula_94 : DD cX12_formula 94 (.putfield 273) 3 97 := ⟨by decide +kernel, rfl⟩
theorem dX12_formula_97 : DD cX12_formula 97 (.aload_n 0) 1 98 := ⟨by decide +kernel, rfl⟩
theorem dX12_formula_98 : DD cX12_formula 98 (.dup) 1 99 := ⟨by decide +kernel, rfl⟩
theorem dX12_formula_99 : DD cX12_formula 99 (.getfield 283) 3 102 := ⟨by decide +kernel, rfl⟩
theorem dX12_formula_102 : DD cX12_formula 102 (.iconst 1) 1 103 := ⟨by decide +kernel, rfl⟩
theorem dX12_formula_103 : DD cX12_formula 103 (.isub) 1 104 := ⟨by decide +kernel, rfl⟩
theorem dX12_formula_104 : DD cX12_formula 104 (.putfield 283) 3 107 := ⟨by decide +kernel, rfl⟩
theorem dX12_formula_107 : DD cX12_formula 107 (.aload_n 0) 1 108 := ⟨by decide +kernel, rfl⟩
theorem dX12_formula_108 : DD cX12_formula 108 (.invokevirtual 249) 3 111 := ⟨by decide +kernel, rfl⟩
theorem dX12_formula_111 : DD cX12_formula 111 (.goto 63) 3 114 := ⟨by decide +kernel, rfl⟩
theorem dX12_formula_114 : DD cX12_formula 114 (.iload_n 3) 1 115 := ⟨by decide +kernel, rfl⟩
theorem dX12_formula_115 : DD cX12_formula 115 (.ifCond .eq 57) 3 118 := ⟨by decide +kernel, rfl⟩
theorem dX12_formula_118 : DD cX12_formula 118 (.iload_n 3) 1 119 := ⟨by decide +kernel, rfl⟩
theorem dX12_formula_119 : DD cX12_formula 119 (.invokestatic 276) 3 122 := ⟨by decide +kernel, rfl⟩
theorem dX12_formula_122 : DD cX12_formula 122 (.iconst 4) 1 123 := ⟨by decide +kernel, rfl⟩
theorem dX12_formula_123 : DD cX12_formula 123 (.if_icmp .ne 10) 3 126 := ⟨by decide +kernel, rfl⟩
theorem dX12_formula_126 : DD cX12_formula 126 (.aload_n 0) 1 127 := ⟨by decide +kernel, rfl⟩
theorem dX12_formula_127 : DD cX12_formula 127 (.invokevirtual 319) 3 130 := ⟨by decide +kernel, rfl⟩
theorem dX12_formula_130 : DD cX12_formula 130 (.ifCond .ne 42) 3 133 := ⟨by decide +kernel, rfl⟩
theorem dX12_formula_133 : DD cX12_formula 133 (.aload_n 0) 1 134 := ⟨by decide +kernel, rfl⟩
theorem dX12_formula_134 : DD cX12_formula 134 (.iload_n 3) 1 135 := ⟨by decide +kernel, rfl⟩
theorem dX12_formula_135 : DD cX12_formula 135 (.invokestatic 276) 3 138 := ⟨by decide +kernel, rfl⟩
theorem dX12_formula_138 : DD cX12_formula 138 (.invokevirtual 316) 3 141 := ⟨by decide +kernel, rfl⟩
theorem dX12_formula_141 : DD cX12_formula 141 (.aload_n 0) 1 142 := ⟨by decide +kernel, rfl⟩
theorem dX12_formula_142 : DD cX12_formula 142 (.getfield 39) 3 145 := ⟨by decide +kernel, rfl⟩
theorem dX12_formula_145 : DD cX12_formula 145 (.aload_n 0) 1 146 := ⟨by decide +kernel, rfl⟩
theorem dX12_formula_146 : DD cX12_formula 146 (.getfield 273) 3 149 := ⟨by decide +kernel, rfl⟩
theorem dX12_formula_149 : DD cX12_formula 149 (.iload_n 3) 1 150 := ⟨by decide +kernel, rfl⟩
theorem dX12_formula_150 : DD cX12_formula 150 (.iastore) 1 151 := ⟨by decide +kernel, rfl⟩
theorem dX12_formula_151 : DD cX12_formula 151 (.aload_n 0) 1 152 := ⟨by decide +kernel, rfl⟩
theorem dX12_formula_152 : DD cX12_formula 152 (.dup) 1 153 := ⟨by decide +kernel, rfl⟩
theorem dX12_formula_153 : DD cX12_formula 153 (.getfield 273) 3 156 := ⟨by decide +kernel, rfl⟩
theorem dX12_formula_156 : DD cX12_formula 156 (.iconst 1) 1 157 := ⟨by decide +kernel, rfl⟩
theorem dX12_formula_157 : DD cX12_formula 157 (.iadd) 1 158 := ⟨by decide +kernel, rfl⟩
theorem dX12_formula_158 : DD cX12_formula 158 (.putfield 273) 3 161 := ⟨by decide +kernel, rfl⟩
theorem dX12_formula_161 : DD cX12_formula 161 (.aload_n 0) 1 162 := ⟨by decide +kernel, rfl⟩
theorem dX12_formula_162 : DD cX12_formula 162 (.invokevirtual 249) 3 165 := ⟨by decide +kernel, rfl⟩
theorem dX12_formula_165 : DD cX12_formula 165 (.aload_n 0) 1 166 := ⟨by decide +kernel, rfl⟩
theorem dX12_formula_166 : DD cX12_formula 166 (.invokevirtual 307) 3 169 := ⟨by decide +kernel, rfl⟩
theorem dX12_formula_169 : DD cX12_formula 169 (.goto 5) 3 172 := ⟨by decide +kernel, rfl⟩
theorem dX12_formula_172 : DD cX12_formula 172 (.iconst 0) 1 173 := ⟨by decide +kernel, rfl⟩
theorem dX12_formula_173 : DD cX12_formula 173 (.istore_n 2) 1 174 := ⟨by decide +kernel, rfl⟩
theorem dX12_formula_174 : DD cX12_formula 174 (.goto (-124)) 3 177 := ⟨by decide +kernel, rfl⟩
theorem dX12_formula_177 : DD cX12_formula 177 (.aload_n 0) 1 178 := ⟨by decide +kernel, rfl⟩
theorem dX12_formula_178 : DD cX12_formula 178 (.getfield 197) 3 181 := ⟨by decide +kernel, rfl⟩
theorem dX12_formula_181 : DD cX12_formula 181 (.ifCond .ne 15) 3 184 := ⟨by decide +kernel, rfl⟩
theorem dX12_formula_184 : DD cX12_formula 184 (.aload_n 0) 1 185 := ⟨by decide +kernel, rfl⟩
theorem dX12_formula_185 : DD cX12_formula 185 (.invokevirtual 313) 3 188 := ⟨by decide +kernel, rfl⟩
theorem dX12_formula_188 : DD cX12_formula 188 (.ifCond .eq 8) 3 191 := ⟨by decide +kernel, rfl⟩
theorem dX12_formula_191 : DD cX12_formula 191 (.aload_n 0) 1 192 := ⟨by decide +kernel, rfl⟩
theorem dX12_formula_192 : DD cX12_formula 192 (.iconst 2) 1 193 := ⟨by decide +kernel, rfl⟩
theorem dX12_formula_193 : DD cX12_formula 193 (.invokevirtual 246) 3 196 := ⟨by decide +kernel, rfl⟩
theorem dX12_formula_196 : DD cX12_formula 196 (.aload_n 0) 1 197 := ⟨by decide +kernel, rfl⟩
theorem dX12_formula_197 : DD cX12_formula 197 (.getfield 197) 3 200 := ⟨by decide +kernel, rfl⟩
theorem dX12_formula_200 : DD cX12_formula 200 (.ifCond .ne 8) 3 203 := ⟨by decide +kernel, rfl⟩
theorem dX12_formula_203 : DD cX12_formula 203 (.aload_n 0) 1 204 := ⟨by decide +kernel, rfl⟩
theorem dX12_formula_204 : DD cX12_formula 204 (.iconst 0) 1 205 := ⟨by decide +kernel, rfl⟩
theorem dX12_formula_205 : DD cX12_formula 205 (.invokevirtual 316) 3 208 := ⟨by decide +kernel, rfl⟩
theorem dX12_formula_208 : DD cX12_formula 208 (.return_) 1 209 := ⟨by decide +kernel, rfl⟩
def gX12_formula : Nat → Int32 → Mem → Option Mem
  | 0, _, _ => none
  | f + 1, x2, m => (if x2 = 0 then (if (m.1 0 2) = 0 then (cP (fX12_hasBracket m) fun r6 => (if r6 = 0 then (if (m.1 0 2) = 0 then (cV (fX12_close m (0 : Int32)) fun m11 => (some m11)) else (some m)) else (cV (fX12_wrong m (2 : Int32)) fun m13 => (if (m13.1 0 2) = 0 then (cV (fX12_close m13 (0 : Int32)) fun m16 => (some m16)) else (some m13))))) else (if (m.1 0 2) = 0 then (cV (fX12_close m (0 : Int32)) fun m5 => (some m5)) else (some m))) else (if (m.1 0 2) = 0 then (cP (fX12_sign m) fun r33 => (if (m.1 0 6) = (41 : Int32) then (cP (fX12_hasBracket m) fun r63 => (if r63 = 0 then (if r33 = 0 then (gX12_formula f (0 : Int32) m) else (cP (fX12_tight r33) fun r67 => (if r67 = (4 : Int32) then (cP (fX12_hasRelation m) fun r80 => (if r80 = 0 then (cP (fX12_tight r33) fun r83 => (cV (fX12_close m r83) fun m86 => (wr m86 9 160 (m86.1 0 22) r33 fun m87 => (pt (sI m87 0 22 ((m87.1 0 22) + (1 : Int32))) fun m88 => (cV (fX12_token m88) fun m90 => (cV (fX12_unit m90) fun m92 => (gX12_formula f x2 m92))))))) else (gX12_formula f (0 : Int32) m))) else (cP (fX12_tight r33) fun r70 => (cV (fX12_close m r70) fun m73 => (wr m73 9 160 (m73.1 0 22) r33 fun m74 => (pt (sI m74 0 22 ((m74.1 0 22) + (1 : Int32))) fun m75 => (cV (fX12_token m75) fun m77 => (cV (fX12_unit m77) fun m79 => (gX12_formula f x2 m79)))))))))) else (cV (fX12_close m (0 : Int32)) fun m94 => (pt (sI m94 0 22 ((m94.1 0 22) - (1 : Int32))) fun m95 => (pt (sI m95 0 26 ((m95.1 0 26) - (1 : Int32))) fun m96 => (cV (fX12_token m96) fun m98 => (gX12_formula f x2 m98))))))) else (if r33 = 0 then (gX12_formula f (0 : Int32) m) else (cP (fX12_tight r33) fun r37 => (if r37 = (4 : Int32) then (cP (fX12_hasRelation m) fun r50 => (if r50 = 0 then (cP (fX12_tight r33) fun r53 => (cV (fX12_close m r53) fun m56 => (wr m56 9 160 (m56.1 0 22) r33 fun m57 => (pt (sI m57 0 22 ((m57.1 0 22) + (1 : Int32))) fun m58 => (cV (fX12_token m58) fun m60 => (cV (fX12_unit m60) fun m62 => (gX12_formula f x2 m62))))))) else (gX12_formula f (0 : Int32) m))) else (cP (fX12_tight r33) fun r40 => (cV (fX12_close m r40) fun m43 => (wr m43 9 160 (m43.1 0 22) r33 fun m44 => (pt (sI m44 0 22 ((m44.1 0 22) + (1 : Int32))) fun m45 => (cV (fX12_token m45) fun m47 => (cV (fX12_unit m47) fun m49 => (gX12_formula f x2 m49)))))))))))) else (if (m.1 0 2) = 0 then (cP (fX12_hasBracket m) fun r22 => (if r22 = 0 then (if (m.1 0 2) = 0 then (cV (fX12_close m (0 : Int32)) fun m27 => (some m27)) else (some m)) else (cV (fX12_wrong m (2 : Int32)) fun m29 => (if (m29.1 0 2) = 0 then (cV (fX12_close m29 (0 : Int32)) fun m32 => (some m32)) else (some m29))))) else (if (m.1 0 2) = 0 then (cV (fX12_close m (0 : Int32)) fun m21 => (some m21)) else (some m)))))
def fX12_formula (m : Mem) (x1 : Int32) : Option Mem := (cV (fX12_token m) fun m2 => (pt (sI m2 0 21 x1) fun m3 => (wr m3 11 3 (m3.1 0 21) (vp_nar .boolean (1 : Int32)) fun m4 => (wr m4 5 3 (m4.1 0 21) (0 : Int32) fun m5 => (pt (sI m5 0 22 (0 : Int32)) fun m6 => (pt (sI m6 0 26 (0 : Int32)) fun m7 => (pt (sI m7 0 25 (0 : Int32)) fun m8 => (cV (fX12_unit m8) fun m10 => (gX12_formula 5000 (1 : Int32) m10)))))))))
set_option maxHeartbeats 4000000 in
set_option maxRecDepth 100000 in
theorem wX12_formula {X : Cx} {G : Gt} (h : OkX (X, G, wM, nM) cX12_formula RX12 4 none 5) : ∀ f : Nat, (∀ (x2 : Int32) (m : Mem), JR (X, G, wM, nM) cvV m 50 [some (.ref (G.2.2 0)), none, some (.int x2), none] [] (gX12_formula f x2 m)) := by
  intro f
  induction f with
  | zero => exact (fun _ _ => j_none)
  | succ f ih =>
    intro x2 m
    rw [gX12_formula]
    refine j_iload_n h dX12_formula_50 rfl ?_
    refine j_if_eq (tgt := 177) h dX12_formula_51 (by decide) (fun c1 => ?_) (fun c1 => ?_)
    · refine j_aload_n h dX12_formula_177 rfl ?_
      refine gM_2 h dX12_formula_178 ?_
      refine j_if_ne (tgt := 196) h dX12_formula_181 (by decide) (fun c2 => ?_) (fun c2 => ?_)
      · refine j_aload_n h dX12_formula_196 rfl ?_
        refine gM_2 h dX12_formula_197 ?_
        refine j_if_ne (tgt := 208) h dX12_formula_200 (by decide) (fun c3 => ?_) (fun c3 => ?_)
        · exact j_vret h rfl dX12_formula_208
        · refine j_aload_n h dX12_formula_203 rfl ?_
          refine j_iconst (v := (0 : Int32)) h dX12_formula_204 kiconst_0 ?_
          refine j_callVV (q0 := 0) (ci := 12) h [.int (0 : Int32)] (kX12_close _ G h.2.2.2.2.2.2.2.2.2.2 m (0 : Int32)) okX12_close inX12_close ml12_316 rfl rfl rfl rfl (by decide) (by decide) (Nat.le_of_ble_eq_true rfl) rfl dX12_formula_205 (fun m5 hm5 => ?_)
          exact j_vret h rfl dX12_formula_208
      · refine j_aload_n h dX12_formula_184 rfl ?_
        refine j_callVP (q0 := 0) (ci := 12) h [] (kX12_hasBracket _ G h.2.2.2.2.2.2.2.2.2.2 m) okX12_hasBracket inX12_hasBracket ml12_313 rfl rfl rfl rfl (by decide) (by decide) (Nat.le_of_ble_eq_true rfl) rfl dX12_formula_185 (fun r6 hr6 => ?_)
        refine j_if_eq (tgt := 196) h dX12_formula_188 (by decide) (fun c8 => ?_) (fun c8 => ?_)
        · refine j_aload_n h dX12_formula_196 rfl ?_
          refine gM_2 h dX12_formula_197 ?_
          refine j_if_ne (tgt := 208) h dX12_formula_200 (by decide) (fun c9 => ?_) (fun c9 => ?_)
          · exact j_vret h rfl dX12_formula_208
          · refine j_aload_n h dX12_formula_203 rfl ?_
            refine j_iconst (v := (0 : Int32)) h dX12_formula_204 kiconst_0 ?_
            refine j_callVV (q0 := 0) (ci := 12) h [.int (0 : Int32)] (kX12_close _ G h.2.2.2.2.2.2.2.2.2.2 m (0 : Int32)) okX12_close inX12_close ml12_316 rfl rfl rfl rfl (by decide) (by decide) (Nat.le_of_ble_eq_true rfl) rfl dX12_formula_205 (fun m11 hm11 => ?_)
            exact j_vret h rfl dX12_formula_208
        · refine j_aload_n h dX12_formula_191 rfl ?_
          refine j_iconst (v := (2 : Int32)) h dX12_formula_192 kiconst_2 ?_
          refine j_callVV (q0 := 0) (ci := 12) h [.int (2 : Int32)] (kX12_wrong _ G h.2.2.2.2.2.2.2.2.2.2 m (2 : Int32)) okX12_wrong inX12_wrong ml12_246 rfl rfl rfl rfl (by decide) (by decide) (Nat.le_of_ble_eq_true rfl) rfl dX12_formula_193 (fun m13 hm13 => ?_)
          refine j_aload_n h dX12_formula_196 rfl ?_
          refine gM_2 h dX12_formula_197 ?_
          refine j_if_ne (tgt := 208) h dX12_formula_200 (by decide) (fun c14 => ?_) (fun c14 => ?_)
          · exact j_vret h rfl dX12_formula_208
          · refine j_aload_n h dX12_formula_203 rfl ?_
            refine j_iconst (v := (0 : Int32)) h dX12_formula_204 kiconst_0 ?_
            refine j_callVV (q0 := 0) (ci := 12) h [.int (0 : Int32)] (kX12_close _ G h.2.2.2.2.2.2.2.2.2.2 m13 (0 : Int32)) okX12_close inX12_close ml12_316 rfl rfl rfl rfl (by decide) (by decide) (Nat.le_of_ble_eq_true rfl) rfl dX12_formula_205 (fun m16 hm16 => ?_)
            exact j_vret h rfl dX12_formula_208
    · refine j_aload_n h dX12_formula_54 rfl ?_
      refine gM_2 h dX12_formula_55 ?_
      refine j_if_ne (tgt := 177) h dX12_formula_58 (by decide) (fun c17 => ?_) (fun c17 => ?_)
      · refine j_aload_n h dX12_formula_177 rfl ?_
        refine gM_2 h dX12_formula_178 ?_
        refine j_if_ne (tgt := 196) h dX12_formula_181 (by decide) (fun c18 => ?_) (fun c18 => ?_)
        · refine j_aload_n h dX12_formula_196 rfl ?_
          refine gM_2 h dX12_formula_197 ?_
          refine j_if_ne (tgt := 208) h dX12_formula_200 (by decide) (fun c19 => ?_) (fun c19 => ?_)
          · exact j_vret h rfl dX12_formula_208
          · refine j_aload_n h dX12_formula_203 rfl ?_
            refine j_iconst (v := (0 : Int32)) h dX12_formula_204 kiconst_0 ?_
            refine j_callVV (q0 := 0) (ci := 12) h [.int (0 : Int32)] (kX12_close _ G h.2.2.2.2.2.2.2.2.2.2 m (0 : Int32)) okX12_close inX12_close ml12_316 rfl rfl rfl rfl (by decide) (by decide) (Nat.le_of_ble_eq_true rfl) rfl dX12_formula_205 (fun m21 hm21 => ?_)
            exact j_vret h rfl dX12_formula_208
        · refine j_aload_n h dX12_formula_184 rfl ?_
          refine j_callVP (q0 := 0) (ci := 12) h [] (kX12_hasBracket _ G h.2.2.2.2.2.2.2.2.2.2 m) okX12_hasBracket inX12_hasBracket ml12_313 rfl rfl rfl rfl (by decide) (by decide) (Nat.le_of_ble_eq_true rfl) rfl dX12_formula_185 (fun r22 hr22 => ?_)
          refine j_if_eq (tgt := 196) h dX12_formula_188 (by decide) (fun c24 => ?_) (fun c24 => ?_)
          · refine j_aload_n h dX12_formula_196 rfl ?_
            refine gM_2 h dX12_formula_197 ?_
            refine j_if_ne (tgt := 208) h dX12_formula_200 (by decide) (fun c25 => ?_) (fun c25 => ?_)
            · exact j_vret h rfl dX12_formula_208
            · refine j_aload_n h dX12_formula_203 rfl ?_
              refine j_iconst (v := (0 : Int32)) h dX12_formula_204 kiconst_0 ?_
              refine j_callVV (q0 := 0) (ci := 12) h [.int (0 : Int32)] (kX12_close _ G h.2.2.2.2.2.2.2.2.2.2 m (0 : Int32)) okX12_close inX12_close ml12_316 rfl rfl rfl rfl (by decide) (by decide) (Nat.le_of_ble_eq_true rfl) rfl dX12_formula_205 (fun m27 hm27 => ?_)
              exact j_vret h rfl dX12_formula_208
          · refine j_aload_n h dX12_formula_191 rfl ?_
            refine j_iconst (v := (2 : Int32)) h dX12_formula_192 kiconst_2 ?_
            refine j_callVV (q0 := 0) (ci := 12) h [.int (2 : Int32)] (kX12_wrong _ G h.2.2.2.2.2.2.2.2.2.2 m (2 : Int32)) okX12_wrong inX12_wrong ml12_246 rfl rfl rfl rfl (by decide) (by decide) (Nat.le_of_ble_eq_true rfl) rfl dX12_formula_193 (fun m29 hm29 => ?_)
            refine j_aload_n h dX12_formula_196 rfl ?_
            refine gM_2 h dX12_formula_197 ?_
            refine j_if_ne (tgt := 208) h dX12_formula_200 (by decide) (fun c30 => ?_) (fun c30 => ?_)
            · exact j_vret h rfl dX12_formula_208
            · refine j_aload_n h dX12_formula_203 rfl ?_
              refine j_iconst (v := (0 : Int32)) h dX12_formula_204 kiconst_0 ?_
              refine j_callVV (q0 := 0) (ci := 12) h [.int (0 : Int32)] (kX12_close _ G h.2.2.2.2.2.2.2.2.2.2 m29 (0 : Int32)) okX12_close inX12_close ml12_316 rfl rfl rfl rfl (by decide) (by decide) (Nat.le_of_ble_eq_true rfl) rfl dX12_formula_205 (fun m32 hm32 => ?_)
              exact j_vret h rfl dX12_formula_208
      · refine j_aload_n h dX12_formula_61 rfl ?_
        refine j_callVP (q0 := 0) (ci := 12) h [] (kX12_sign _ G h.2.2.2.2.2.2.2.2.2.2 m) okX12_sign inX12_sign ml12_310 rfl rfl rfl rfl (by decide) (by decide) (Nat.le_of_ble_eq_true rfl) rfl dX12_formula_62 (fun r33 hr33 => ?_)
        refine j_istore_n h dX12_formula_65 rfl rfl ?_
        refine j_aload_n h dX12_formula_66 rfl ?_
        refine gM_6 h dX12_formula_67 ?_
        refine j_bipush (v := (41 : Int32)) h dX12_formula_70 kbipush_41 ?_
        refine j_icmp_ne (tgt := 114) h dX12_formula_72 (by decide) (fun c35 => ?_) (fun c35 => ?_)
        · refine j_iload_n h dX12_formula_114 rfl ?_
          refine j_if_eq (tgt := 172) h dX12_formula_115 (by decide) (fun c36 => ?_) (fun c36 => ?_)
          · refine j_iconst (v := (0 : Int32)) h dX12_formula_172 kiconst_0 ?_
            refine j_istore_n h dX12_formula_173 rfl rfl ?_
            refine j_goto (tgt := 50) h dX12_formula_174 (by decide) ?_
            refine j_wk (ls' := [some (.ref (G.2.2 0)), none, some (.int (0 : Int32)), none]) (And.intro rfl (And.intro rfl trivial)) ?_
            exact ih (0 : Int32) m
          · refine j_iload_n h dX12_formula_118 rfl ?_
            refine j_callSP h [.int r33] (kX12_tight _ G h.2.2.2.2.2.2.2.2.2.2 m r33) okX12_tight stX12_tight ml12_276 rfl rfl (by decide) (by decide) (Nat.le_of_ble_eq_true rfl) rfl dX12_formula_119 (fun r37 hr37 => ?_)
            refine j_iconst (v := (4 : Int32)) h dX12_formula_122 kiconst_4 ?_
            refine j_icmp_ne (tgt := 133) h dX12_formula_123 (by decide) (fun c39 => ?_) (fun c39 => ?_)
            · refine j_aload_n h dX12_formula_133 rfl ?_
              refine j_iload_n h dX12_formula_134 rfl ?_
              refine j_callSP h [.int r33] (kX12_tight _ G h.2.2.2.2.2.2.2.2.2.2 m r33) okX12_tight stX12_tight ml12_276 rfl rfl (by decide) (by decide) (Nat.le_of_ble_eq_true rfl) rfl dX12_formula_135 (fun r40 hr40 => ?_)
              refine j_callVV (q0 := 0) (ci := 12) h [.int r40] (kX12_close _ G h.2.2.2.2.2.2.2.2.2.2 m r40) okX12_close inX12_close ml12_316 rfl rfl rfl rfl (by decide) (by decide) (Nat.le_of_ble_eq_true rfl) rfl dX12_formula_138 (fun m43 hm43 => ?_)
              refine j_aload_n h dX12_formula_141 rfl ?_
              refine gM_17 h dX12_formula_142 ?_
              refine j_aload_n h dX12_formula_145 rfl ?_
              refine gM_22 h dX12_formula_146 ?_
              refine j_iload_n h dX12_formula_149 rfl ?_
              refine bM_9 h dX12_formula_150 (fun m44 hm44 => ?_)
              refine j_aload_n h dX12_formula_151 rfl ?_
              refine j_dup h dX12_formula_152 rfl ?_
              refine gM_22 h dX12_formula_153 ?_
              refine j_iconst (v := (1 : Int32)) h dX12_formula_156 kiconst_1 ?_
              refine j_iadd h dX12_formula_157 ?_
              refine pM_22 h dX12_formula_158 (fun m45 hm45 => ?_)
              refine j_aload_n h dX12_formula_161 rfl ?_
              refine j_callVV (q0 := 0) (ci := 12) h [] (kX12_token _ G h.2.2.2.2.2.2.2.2.2.2 m45) okX12_token inX12_token ml12_249 rfl rfl rfl rfl (by decide) (by decide) (Nat.le_of_ble_eq_true rfl) rfl dX12_formula_162 (fun m47 hm47 => ?_)
              refine j_aload_n h dX12_formula_165 rfl ?_
              refine j_callVV (q0 := 0) (ci := 12) h [] (kX12_unit _ G h.2.2.2.2.2.2.2.2.2.2 m47) okX12_unit inX12_unit ml12_307 rfl rfl rfl rfl (by decide) (by decide) (Nat.le_of_ble_eq_true rfl) rfl dX12_formula_166 (fun m49 hm49 => ?_)
              refine j_goto (tgt := 174) h dX12_formula_169 (by decide) ?_
              refine j_goto (tgt := 50) h dX12_formula_174 (by decide) ?_
              refine j_wk (ls' := [some (.ref (G.2.2 0)), none, some (.int x2), none]) (And.intro rfl (And.intro rfl trivial)) ?_
              exact ih x2 m49
            · refine j_aload_n h dX12_formula_126 rfl ?_
              refine j_callVP (q0 := 0) (ci := 12) h [] (kX12_hasRelation _ G h.2.2.2.2.2.2.2.2.2.2 m) okX12_hasRelation inX12_hasRelation ml12_319 rfl rfl rfl rfl (by decide) (by decide) (Nat.le_of_ble_eq_true rfl) rfl dX12_formula_127 (fun r50 hr50 => ?_)
              refine j_if_ne (tgt := 172) h dX12_formula_130 (by decide) (fun c52 => ?_) (fun c52 => ?_)
              · refine j_iconst (v := (0 : Int32)) h dX12_formula_172 kiconst_0 ?_
                refine j_istore_n h dX12_formula_173 rfl rfl ?_
                refine j_goto (tgt := 50) h dX12_formula_174 (by decide) ?_
                refine j_wk (ls' := [some (.ref (G.2.2 0)), none, some (.int (0 : Int32)), none]) (And.intro rfl (And.intro rfl trivial)) ?_
                exact ih (0 : Int32) m
              · refine j_aload_n h dX12_formula_133 rfl ?_
                refine j_iload_n h dX12_formula_134 rfl ?_
                refine j_callSP h [.int r33] (kX12_tight _ G h.2.2.2.2.2.2.2.2.2.2 m r33) okX12_tight stX12_tight ml12_276 rfl rfl (by decide) (by decide) (Nat.le_of_ble_eq_true rfl) rfl dX12_formula_135 (fun r53 hr53 => ?_)
                refine j_callVV (q0 := 0) (ci := 12) h [.int r53] (kX12_close _ G h.2.2.2.2.2.2.2.2.2.2 m r53) okX12_close inX12_close ml12_316 rfl rfl rfl rfl (by decide) (by decide) (Nat.le_of_ble_eq_true rfl) rfl dX12_formula_138 (fun m56 hm56 => ?_)
                refine j_aload_n h dX12_formula_141 rfl ?_
                refine gM_17 h dX12_formula_142 ?_
                refine j_aload_n h dX12_formula_145 rfl ?_
                refine gM_22 h dX12_formula_146 ?_
                refine j_iload_n h dX12_formula_149 rfl ?_
                refine bM_9 h dX12_formula_150 (fun m57 hm57 => ?_)
                refine j_aload_n h dX12_formula_151 rfl ?_
                refine j_dup h dX12_formula_152 rfl ?_
                refine gM_22 h dX12_formula_153 ?_
                refine j_iconst (v := (1 : Int32)) h dX12_formula_156 kiconst_1 ?_
                refine j_iadd h dX12_formula_157 ?_
                refine pM_22 h dX12_formula_158 (fun m58 hm58 => ?_)
                refine j_aload_n h dX12_formula_161 rfl ?_
                refine j_callVV (q0 := 0) (ci := 12) h [] (kX12_token _ G h.2.2.2.2.2.2.2.2.2.2 m58) okX12_token inX12_token ml12_249 rfl rfl rfl rfl (by decide) (by decide) (Nat.le_of_ble_eq_true rfl) rfl dX12_formula_162 (fun m60 hm60 => ?_)
                refine j_aload_n h dX12_formula_165 rfl ?_
                refine j_callVV (q0 := 0) (ci := 12) h [] (kX12_unit _ G h.2.2.2.2.2.2.2.2.2.2 m60) okX12_unit inX12_unit ml12_307 rfl rfl rfl rfl (by decide) (by decide) (Nat.le_of_ble_eq_true rfl) rfl dX12_formula_166 (fun m62 hm62 => ?_)
                refine j_goto (tgt := 174) h dX12_formula_169 (by decide) ?_
                refine j_goto (tgt := 50) h dX12_formula_174 (by decide) ?_
                refine j_wk (ls' := [some (.ref (G.2.2 0)), none, some (.int x2), none]) (And.intro rfl (And.intro rfl trivial)) ?_
                exact ih x2 m62
        · refine j_aload_n h dX12_formula_75 rfl ?_
          refine j_callVP (q0 := 0) (ci := 12) h [] (kX12_hasBracket _ G h.2.2.2.2.2.2.2.2.2.2 m) okX12_hasBracket inX12_hasBracket ml12_313 rfl rfl rfl rfl (by decide) (by decide) (Nat.le_of_ble_eq_true rfl) rfl dX12_formula_76 (fun r63 hr63 => ?_)
          refine j_if_eq (tgt := 114) h dX12_formula_79 (by decide) (fun c65 => ?_) (fun c65 => ?_)
          · refine j_iload_n h dX12_formula_114 rfl ?_
            refine j_if_eq (tgt := 172) h dX12_formula_115 (by decide) (fun c66 => ?_) (fun c66 => ?_)
            · refine j_iconst (v := (0 : Int32)) h dX12_formula_172 kiconst_0 ?_
              refine j_istore_n h dX12_formula_173 rfl rfl ?_
              refine j_goto (tgt := 50) h dX12_formula_174 (by decide) ?_
              refine j_wk (ls' := [some (.ref (G.2.2 0)), none, some (.int (0 : Int32)), none]) (And.intro rfl (And.intro rfl trivial)) ?_
              exact ih (0 : Int32) m
            · refine j_iload_n h dX12_formula_118 rfl ?_
              refine j_callSP h [.int r33] (kX12_tight _ G h.2.2.2.2.2.2.2.2.2.2 m r33) okX12_tight stX12_tight ml12_276 rfl rfl (by decide) (by decide) (Nat.le_of_ble_eq_true rfl) rfl dX12_formula_119 (fun r67 hr67 => ?_)
              refine j_iconst (v := (4 : Int32)) h dX12_formula_122 kiconst_4 ?_
              refine j_icmp_ne (tgt := 133) h dX12_formula_123 (by decide) (fun c69 => ?_) (fun c69 => ?_)
              · refine j_aload_n h dX12_formula_133 rfl ?_
                refine j_iload_n h dX12_formula_134 rfl ?_
                refine j_callSP h [.int r33] (kX12_tight _ G h.2.2.2.2.2.2.2.2.2.2 m r33) okX12_tight stX12_tight ml12_276 rfl rfl (by decide) (by decide) (Nat.le_of_ble_eq_true rfl) rfl dX12_formula_135 (fun r70 hr70 => ?_)
                refine j_callVV (q0 := 0) (ci := 12) h [.int r70] (kX12_close _ G h.2.2.2.2.2.2.2.2.2.2 m r70) okX12_close inX12_close ml12_316 rfl rfl rfl rfl (by decide) (by decide) (Nat.le_of_ble_eq_true rfl) rfl dX12_formula_138 (fun m73 hm73 => ?_)
                refine j_aload_n h dX12_formula_141 rfl ?_
                refine gM_17 h dX12_formula_142 ?_
                refine j_aload_n h dX12_formula_145 rfl ?_
                refine gM_22 h dX12_formula_146 ?_
                refine j_iload_n h dX12_formula_149 rfl ?_
                refine bM_9 h dX12_formula_150 (fun m74 hm74 => ?_)
                refine j_aload_n h dX12_formula_151 rfl ?_
                refine j_dup h dX12_formula_152 rfl ?_
                refine gM_22 h dX12_formula_153 ?_
                refine j_iconst (v := (1 : Int32)) h dX12_formula_156 kiconst_1 ?_
                refine j_iadd h dX12_formula_157 ?_
                refine pM_22 h dX12_formula_158 (fun m75 hm75 => ?_)
                refine j_aload_n h dX12_formula_161 rfl ?_
                refine j_callVV (q0 := 0) (ci := 12) h [] (kX12_token _ G h.2.2.2.2.2.2.2.2.2.2 m75) okX12_token inX12_token ml12_249 rfl rfl rfl rfl (by decide) (by decide) (Nat.le_of_ble_eq_true rfl) rfl dX12_formula_162 (fun m77 hm77 => ?_)
                refine j_aload_n h dX12_formula_165 rfl ?_
                refine j_callVV (q0 := 0) (ci := 12) h [] (kX12_unit _ G h.2.2.2.2.2.2.2.2.2.2 m77) okX12_unit inX12_unit ml12_307 rfl rfl rfl rfl (by decide) (by decide) (Nat.le_of_ble_eq_true rfl) rfl dX12_formula_166 (fun m79 hm79 => ?_)
                refine j_goto (tgt := 174) h dX12_formula_169 (by decide) ?_
                refine j_goto (tgt := 50) h dX12_formula_174 (by decide) ?_
                refine j_wk (ls' := [some (.ref (G.2.2 0)), none, some (.int x2), none]) (And.intro rfl (And.intro rfl trivial)) ?_
                exact ih x2 m79
              · refine j_aload_n h dX12_formula_126 rfl ?_
                refine j_callVP (q0 := 0) (ci := 12) h [] (kX12_hasRelation _ G h.2.2.2.2.2.2.2.2.2.2 m) okX12_hasRelation inX12_hasRelation ml12_319 rfl rfl rfl rfl (by decide) (by decide) (Nat.le_of_ble_eq_true rfl) rfl dX12_formula_127 (fun r80 hr80 => ?_)
                refine j_if_ne (tgt := 172) h dX12_formula_130 (by decide) (fun c82 => ?_) (fun c82 => ?_)
                · refine j_iconst (v := (0 : Int32)) h dX12_formula_172 kiconst_0 ?_
                  refine j_istore_n h dX12_formula_173 rfl rfl ?_
                  refine j_goto (tgt := 50) h dX12_formula_174 (by decide) ?_
                  refine j_wk (ls' := [some (.ref (G.2.2 0)), none, some (.int (0 : Int32)), none]) (And.intro rfl (And.intro rfl trivial)) ?_
                  exact ih (0 : Int32) m
                · refine j_aload_n h dX12_formula_133 rfl ?_
                  refine j_iload_n h dX12_formula_134 rfl ?_
                  refine j_callSP h [.int r33] (kX12_tight _ G h.2.2.2.2.2.2.2.2.2.2 m r33) okX12_tight stX12_tight ml12_276 rfl rfl (by decide) (by decide) (Nat.le_of_ble_eq_true rfl) rfl dX12_formula_135 (fun r83 hr83 => ?_)
                  refine j_callVV (q0 := 0) (ci := 12) h [.int r83] (kX12_close _ G h.2.2.2.2.2.2.2.2.2.2 m r83) okX12_close inX12_close ml12_316 rfl rfl rfl rfl (by decide) (by decide) (Nat.le_of_ble_eq_true rfl) rfl dX12_formula_138 (fun m86 hm86 => ?_)
                  refine j_aload_n h dX12_formula_141 rfl ?_
                  refine gM_17 h dX12_formula_142 ?_
                  refine j_aload_n h dX12_formula_145 rfl ?_
                  refine gM_22 h dX12_formula_146 ?_
                  refine j_iload_n h dX12_formula_149 rfl ?_
                  refine bM_9 h dX12_formula_150 (fun m87 hm87 => ?_)
                  refine j_aload_n h dX12_formula_151 rfl ?_
                  refine j_dup h dX12_formula_152 rfl ?_
                  refine gM_22 h dX12_formula_153 ?_
                  refine j_iconst (v := (1 : Int32)) h dX12_formula_156 kiconst_1 ?_
                  refine j_iadd h dX12_formula_157 ?_
                  refine pM_22 h dX12_formula_158 (fun m88 hm88 => ?_)
                  refine j_aload_n h dX12_formula_161 rfl ?_
                  refine j_callVV (q0 := 0) (ci := 12) h [] (kX12_token _ G h.2.2.2.2.2.2.2.2.2.2 m88) okX12_token inX12_token ml12_249 rfl rfl rfl rfl (by decide) (by decide) (Nat.le_of_ble_eq_true rfl) rfl dX12_formula_162 (fun m90 hm90 => ?_)
                  refine j_aload_n h dX12_formula_165 rfl ?_
                  refine j_callVV (q0 := 0) (ci := 12) h [] (kX12_unit _ G h.2.2.2.2.2.2.2.2.2.2 m90) okX12_unit inX12_unit ml12_307 rfl rfl rfl rfl (by decide) (by decide) (Nat.le_of_ble_eq_true rfl) rfl dX12_formula_166 (fun m92 hm92 => ?_)
                  refine j_goto (tgt := 174) h dX12_formula_169 (by decide) ?_
                  refine j_goto (tgt := 50) h dX12_formula_174 (by decide) ?_
                  refine j_wk (ls' := [some (.ref (G.2.2 0)), none, some (.int x2), none]) (And.intro rfl (And.intro rfl trivial)) ?_
                  exact ih x2 m92
          · refine j_aload_n h dX12_formula_82 rfl ?_
            refine j_iconst (v := (0 : Int32)) h dX12_formula_83 kiconst_0 ?_
            refine j_callVV (q0 := 0) (ci := 12) h [.int (0 : Int32)] (kX12_close _ G h.2.2.2.2.2.2.2.2.2.2 m (0 : Int32)) okX12_close inX12_close ml12_316 rfl rfl rfl rfl (by decide) (by decide) (Nat.le_of_ble_eq_true rfl) rfl dX12_formula_84 (fun m94 hm94 => ?_)
            refine j_aload_n h dX12_formula_87 rfl ?_
            refine j_dup h dX12_formula_88 rfl ?_
            refine gM_22 h dX12_formula_89 ?_
            refine j_iconst (v := (1 : Int32)) h dX12_formula_92 kiconst_1 ?_
            refine j_isub h dX12_formula_93 ?_
            refine pM_22 h dX12_formula_94 (fun m95 hm95 => ?_)
            refine j_aload_n h dX12_formula_97 rfl ?_
            refine j_dup h dX12_formula_98 rfl ?_
            refine gM_26 h dX12_formula_99 ?_
            refine j_iconst (v := (1 : Int32)) h dX12_formula_102 kiconst_1 ?_
            refine j_isub h dX12_formula_103 ?_
            refine pM_26 h dX12_formula_104 (fun m96 hm96 => ?_)
            refine j_aload_n h dX12_formula_107 rfl ?_
            refine j_callVV (q0 := 0) (ci := 12) h [] (kX12_token _ G h.2.2.2.2.2.2.2.2.2.2 m96) okX12_token inX12_token ml12_249 rfl rfl rfl rfl (by decide) (by decide) (Nat.le_of_ble_eq_true rfl) rfl dX12_formula_108 (fun m98 hm98 => ?_)
            refine j_goto (tgt := 174) h dX12_formula_111 (by decide) ?_
            refine j_goto (tgt := 50) h dX12_formula_174 (by decide) ?_
            refine j_wk (ls' := [some (.ref (G.2.2 0)), none, some (.int x2), none]) (And.intro rfl (And.intro rfl trivial)) ?_
            exact ih x2 m98
set_option maxHeartbeats 4000000 in
set_option maxRecDepth 100000 in
theorem kX12_formula (l : Launch) (G : Gt) (hD : ∀ m, va_D (inA G nM) (wM G m)) (m : Mem) (x1 : Int32) : ∀ a, fX12_formula m x1 = some a → Ct l G wM nM yX12_formula cX12_formula 4 none 5 [.ref (G.2.2 0), .int x1] m (cvV a) := by
  refine ct_of (own := RX12) (ls0 := [some (.ref (G.2.2 0)), some (.int x1), none, none]) (by decide) rfl rfl rfl (Nat.le_of_ble_eq_true rfl) hD (fun X h => ?_) l
  unfold fX12_formula
  refine j_aload_n h dX12_formula_0 rfl ?_
  refine j_callVV (q0 := 0) (ci := 12) h [] (kX12_token _ G h.2.2.2.2.2.2.2.2.2.2 m) okX12_token inX12_token ml12_249 rfl rfl rfl rfl (by decide) (by decide) (Nat.le_of_ble_eq_true rfl) rfl dX12_formula_1 (fun m2 hm2 => ?_)
  refine j_aload_n h dX12_formula_4 rfl ?_
  refine j_iload_n h dX12_formula_5 rfl ?_
  refine pM_21 h dX12_formula_6 (fun m3 hm3 => ?_)
  refine j_aload_n h dX12_formula_9 rfl ?_
  refine gM_19 h dX12_formula_10 ?_
  refine j_aload_n h dX12_formula_13 rfl ?_
  refine gM_21 h dX12_formula_14 ?_
  refine j_iconst (v := (1 : Int32)) h dX12_formula_17 kiconst_1 ?_
  refine bM_11 h dX12_formula_18 (fun m4 hm4 => ?_)
  refine j_aload_n h dX12_formula_19 rfl ?_
  refine gM_13 h dX12_formula_20 ?_
  refine j_aload_n h dX12_formula_23 rfl ?_
  refine gM_21 h dX12_formula_24 ?_
  refine j_iconst (v := (0 : Int32)) h dX12_formula_27 kiconst_0 ?_
  refine bM_5 h dX12_formula_28 (fun m5 hm5 => ?_)
  refine j_aload_n h dX12_formula_29 rfl ?_
  refine j_iconst (v := (0 : Int32)) h dX12_formula_30 kiconst_0 ?_
  refine pM_22 h dX12_formula_31 (fun m6 hm6 => ?_)
  refine j_aload_n h dX12_formula_34 rfl ?_
  refine j_iconst (v := (0 : Int32)) h dX12_formula_35 kiconst_0 ?_
  refine pM_26 h dX12_formula_36 (fun m7 hm7 => ?_)
  refine j_aload_n h dX12_formula_39 rfl ?_
  refine j_iconst (v := (0 : Int32)) h dX12_formula_40 kiconst_0 ?_
  refine pM_25 h dX12_formula_41 (fun m8 hm8 => ?_)
  refine j_aload_n h dX12_formula_44 rfl ?_
  refine j_callVV (q0 := 0) (ci := 12) h [] (kX12_unit _ G h.2.2.2.2.2.2.2.2.2.2 m8) okX12_unit inX12_unit ml12_307 rfl rfl rfl rfl (by decide) (by decide) (Nat.le_of_ble_eq_true rfl) rfl dX12_formula_45 (fun m10 hm10 => ?_)
  refine j_iconst (v := (1 : Int32)) h dX12_formula_48 kiconst_1 ?_
  refine j_istore_n h dX12_formula_49 rfl rfl ?_
  refine j_wk (ls' := [some (.ref (G.2.2 0)), none, some (.int (1 : Int32)), none]) (And.intro rfl (And.intro rfl trivial)) ?_
  exact (wX12_formula h 5000) (1 : Int32) m10
