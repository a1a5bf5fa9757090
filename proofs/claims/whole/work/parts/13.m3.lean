theorem dX12_readNoise_0 : DD cX12_readNoise 0 (.aload_n 0) 1 1 := ⟨by decide +kernel, rfl⟩
theorem dX12_readNoise_1 : DD cX12_readNoise 1 (.invokevirtual 249) 3 4 := ⟨by decide +kernel, rfl⟩
theorem dX12_readNoise_4 : DD cX12_readNoise 4 (.aload_n 0) 1 5 := ⟨by decide +kernel, rfl⟩
theorem dX12_readNoise_5 : DD cX12_readNoise 5 (.invokevirtual 337) 3 8 := ⟨by decide +kernel, rfl⟩
theorem dX12_readNoise_8 : DD cX12_readNoise 8 (.istore_n 1) 1 9 := ⟨by decide +kernel, rfl⟩
theorem dX12_readNoise_9 : DD cX12_readNoise 9 (.aload_n 0) 1 10 := ⟨by decide +kernel, rfl⟩
theorem dX12_readNoise_10 : DD cX12_readNoise 10 (.getfield 197) 3 13 := ⟨by decide +kernel, rfl⟩
theorem dX12_readNoise_13 : DD cX12_readNoise 13 (.ifCond .ne 7) 3 16 := ⟨by decide +kernel, rfl⟩
theorem dX12_readNoise_16 : DD cX12_readNoise 16 (.aload_n 0) 1 17 := ⟨by decide +kernel, rfl⟩
theorem dX12_readNoise_17 : DD cX12_readNoise 17 (.invokevirtual 249) 3 20 := ⟨by decide +kernel, rfl⟩
theorem dX12_readNoise_20 : DD cX12_readNoise 20 (.aload_n 0) 1 21 := ⟨by decide +kernel, rfl⟩
theorem dX12_readNoise_21 : DD cX12_readNoise 21 (.ldc2_w 202) 3 24 := ⟨by decide +kernel, rfl⟩
theorem dX12_readNoise_24 : DD cX12_readNoise 24 (.invokevirtual 252) 3 27 := ⟨by decide +kernel, rfl⟩
theorem dX12_readNoise_27 : DD cX12_readNoise 27 (.aload_n 0) 1 28 := ⟨by decide +kernel, rfl⟩
theorem dX12_readNoise_28 : DD cX12_readNoise 28 (.getfield 197) 3 31 := ⟨by decide +kernel, rfl⟩
theorem dX12_readNoise_31 : DD cX12_readNoise 31 (.ifCond .ne 28) 3 34 := ⟨by decide +kernel, rfl⟩
theorem dX12_readNoise_34 : DD cX12_readNoise 34 (.aload_n 0) 1 35 := ⟨by decide +kernel, rfl⟩
theorem dX12_readNoise_35 : DD cX12_readNoise 35 (.getfield 184) 3 38 := ⟨by decide +kernel, rfl⟩
theorem dX12_readNoise_38 : DD cX12_readNoise 38 (.iconst 2) 1 39 := ⟨by decide +kernel, rfl⟩
theorem dX12_readNoise_39 : DD cX12_readNoise 39 (.if_icmp .ne 20) 3 42 := ⟨by decide +kernel, rfl⟩
theorem dX12_readNoise_42 : DD cX12_readNoise 42 (.aload_n 0) 1 43 := ⟨by decide +kernel, rfl⟩
theorem dX12_readNoise_43 : DD cX12_readNoise 43 (.iload_n 1) 1 44 := ⟨by decide +kernel, rfl⟩
theorem dX12_readNoise_44 : DD cX12_readNoise 44 (.aload_n 0) 1 45 := ⟨by decide +kernel, rfl⟩
theorem dX12_readNoise_45 : DD cX12_readNoise 45 (.getfield 181) 3 48 := ⟨by decide +kernel, rfl⟩
theorem dX12_readNoise_48 : DD cX12_readNoise 48 (.invokevirtual 347) 3 51 := ⟨by decide +kernel, rfl⟩
theorem dX12_readNoise_51 : DD cX12_readNoise 51 (.ifCond .eq 8) 3 54 := ⟨by decide +kernel, rfl⟩
theorem dX12_readNoise_54 : DD cX12_readNoise 54 (.aload_n 0) 1 55 := ⟨by decide +kernel, rfl⟩
theorem dX12_readNoise_55 : DD cX12_readNoise 55 (.iconst 3) 1 56 := ⟨by decide +kernel, rfl⟩
theorem dX12_readNoise_56 : DD cX12_readNoise 56 (.invokevirtual 246) 3 59 := ⟨by decide +kernel, rfl⟩
theorem dX12_readNoise_59 : DD cX12_readNoise 59 (.aload_n 0) 1 60 := ⟨by decide +kernel, rfl⟩
theorem dX12_readNoise_60 : DD cX12_readNoise 60 (.getfield 97) 3 63 := ⟨by decide +kernel, rfl⟩
theorem dX12_readNoise_63 : DD cX12_readNoise 63 (.aload_n 0) 1 64 := ⟨by decide +kernel, rfl⟩
theorem dX12_readNoise_64 : DD cX12_readNoise 64 (.getfield 344) 3 67 := ⟨by decide +kernel, rfl⟩
theorem dX12_readNoise_67 : DD cX12_readNoise 67 (.aload_n 0) 1 68 := ⟨by decide +kernel, rfl⟩
theorem dX12_readNoise_68 : DD cX12_readNoise 68 (.iconst 0) 1 69 := ⟨by decide +kernel, rfl⟩
theorem dX12_readNoise_69 : DD cX12_readNoise 69 (.bipush 23) 2 71 := ⟨by decide +kernel, rfl⟩
theorem dX12_readNoise_71 : DD cX12_readNoise 71 (.invokevirtual 256) 3 74 := ⟨by decide +kernel, rfl⟩
theorem dX12_readNoise_74 : DD cX12_readNoise 74 (.iastore) 1 75 := ⟨by decide +kernel, rfl⟩
theorem dX12_readNoise_75 : DD cX12_readNoise 75 (.aload_n 0) 1 76 := ⟨by decide +kernel, rfl⟩
theorem dX12_readNoise_76 : DD cX12_readNoise 76 (.getfield 100) 3 79 := ⟨by decide +kernel, rfl⟩
theorem dX12_readNoise_79 : DD cX12_readNoise 79 (.aload_n 0) 1 80 := ⟨by decide +kernel, rfl⟩
theorem dX12_readNoise_80 : DD cX12_readNoise 80 (.getfield 344) 3 83 := ⟨by decide +kernel, rfl⟩
theorem dX12_readNoise_83 : DD cX12_readNoise 83 (.aload_n 0) 1 84 := ⟨by decide +kernel, rfl⟩
theorem dX12_readNoise_84 : DD cX12_readNoise 84 (.ldc2_w 216) 3 87 := ⟨by decide +kernel, rfl⟩
theorem dX12_readNoise_87 : DD cX12_readNoise 87 (.iconst 1) 1 88 := ⟨by decide +kernel, rfl⟩
theorem dX12_readNoise_88 : DD cX12_readNoise 88 (.bipush 20) 2 90 := ⟨by decide +kernel, rfl⟩
theorem dX12_readNoise_90 : DD cX12_readNoise 90 (.invokevirtual 330) 3 93 := ⟨by decide +kernel, rfl⟩
theorem dX12_readNoise_93 : DD cX12_readNoise 93 (.iastore) 1 94 := ⟨by decide +kernel, rfl⟩
theorem dX12_readNoise_94 : DD cX12_readNoise 94 (.aload_n 0) 1 95 := ⟨by decide +kernel, rfl⟩
theorem dX12_readNoise_95 : DD cX12_readNoise 95 (.getfield 197) 3 98 := ⟨by decide +kernel, rfl⟩
theorem dX12_readNoise_98 : DD cX12_readNoise 98 (.ifCond .le 4) 3 101 := ⟨by decide +kernel, rfl⟩
theorem dX12_readNoise_101 : DD cX12_readNoise 101 (.return_) 1 102 := ⟨by decide +kernel, rfl⟩
theorem dX12_readNoise_102 : DD cX12_readNoise 102 (.aload_n 0) 1 103 := ⟨by decide +kernel, rfl⟩
theorem dX12_readNoise_103 : DD cX12_readNoise 103 (.getfield 94) 3 106 := ⟨by decide +kernel, rfl⟩
theorem dX12_readNoise_106 : DD cX12_readNoise 106 (.aload_n 0) 1 107 := ⟨by decide +kernel, rfl⟩
theorem dX12_readNoise_107 : DD cX12_readNoise 107 (.getfield 344) 3 110 := ⟨by decide +kernel, rfl⟩
theorem dX12_readNoise_110 : DD cX12_readNoise 110 (.iload_n 1) 1 111 := ⟨by decide +kernel, rfl⟩
theorem dX12_readNoise_111 : DD cX12_readNoise 111 (.iastore) 1 112 := ⟨by decide +kernel, rfl⟩
theorem dX12_readNoise_112 : DD cX12_readNoise 112 (.aload_n 0) 1 113 := ⟨by decide +kernel, rfl⟩
theorem dX12_readNoise_113 : DD cX12_readNoise 113 (.dup) 1 114 := ⟨by decide +kernel, rfl⟩
theorem dX12_readNoise_114 : DD cX12_readNoise 114 (.getfield 344) 3 117 := ⟨by decide +kernel, rfl⟩
theorem dX12_readNoise_117 : DD cX12_readNoise 117 (.iconst 1) 1 118 := ⟨by decide +kernel, rfl⟩
theorem dX12_readNoise_118 : DD cX12_readNoise 118 (.iadd) 1 119 := ⟨by decide +kernel, rfl⟩
theorem dX12_readNoise_119 : DD cX12_readNoise 119 (.putfield 344) 3 122 := ⟨by decide +kernel, rfl⟩
theorem dX12_readNoise_122 : DD cX12_readNoise 122 (.return_) 1 123 := ⟨by decide +kernel, rfl⟩
def gX12_readNoise : Nat → Int32 → Mem → Option Mem
  | 0, _, _ => none
  | f + 1, x1, m => (cI (fX12_toldNumber m (0 : Int32) (23 : Int32)) fun r1 m2 => (wr m2 28 8 (m.1 0 49) r1 fun m3 => (cI (fX12_told m3 (1819243876 : Int64) (1 : Int32) (20 : Int32)) fun r4 m5 => (wr m5 29 8 (m3.1 0 49) r4 fun m6 => (if (m6.1 0 2) ≤ 0 then (wr m6 27 8 (m6.1 0 49) x1 fun m8 => (pt (sI m8 0 49 ((m8.1 0 49) + (1 : Int32))) fun m9 => (some m9))) else (some m6))))))
def fX12_readNoise (m : Mem) : Option Mem := (cV (fX12_token m) fun m2 => (cI (fX12_oldPerson m2) fun r3 m4 => (if (m4.1 0 2) = 0 then (cV (fX12_token m4) fun m16 => (cV (fX12_want m16 (24948 : Int64)) fun m18 => (if (m18.1 0 2) = 0 then (if (m18.1 0 6) = (2 : Int32) then (cP (fX12_isNoiseTold m18 r3 (m18.1 0 8)) fun r21 => (if r21 = 0 then (gX12_readNoise 5000 r3 m18) else (cV (fX12_wrong m18 (3 : Int32)) fun m25 => (gX12_readNoise 5000 r3 m25)))) else (gX12_readNoise 5000 r3 m18)) else (gX12_readNoise 5000 r3 m18)))) else (cV (fX12_want m4 (24948 : Int64)) fun m7 => (if (m7.1 0 2) = 0 then (if (m7.1 0 6) = (2 : Int32) then (cP (fX12_isNoiseTold m7 r3 (m7.1 0 8)) fun r10 => (if r10 = 0 then (gX12_readNoise 5000 r3 m7) else (cV (fX12_wrong m7 (3 : Int32)) fun m14 => (gX12_readNoise 5000 r3 m14)))) else (gX12_readNoise 5000 r3 m7)) else (gX12_readNoise 5000 r3 m7))))))
set_option maxHeartbeats 4000000 in
set_option maxRecDepth 100000 in
theorem wX12_readNoise {X : Cx} {G : Gt} (h : OkX (X, G, wM, nM) cX12_readNoise RX12 2 none 5) : ∀ f : Nat, (∀ (x1 : Int32) (m : Mem), JR (X, G, wM, nM) cvV m 59 [some (.ref (G.2.2 0)), some (.int x1)] [] (gX12_readNoise f x1 m)) := by
  intro f
  induction f with
  | zero => exact (fun _ _ => j_none)
  | succ f ih =>
    intro x1 m
    rw [gX12_readNoise]
    refine j_aload_n h dX12_readNoise_59 rfl ?_
    refine gM_42 h dX12_readNoise_60 ?_
    refine j_aload_n h dX12_readNoise_63 rfl ?_
    refine gM_49 h dX12_readNoise_64 ?_
    refine j_aload_n h dX12_readNoise_67 rfl ?_
    refine j_iconst (v := (0 : Int32)) h dX12_readNoise_68 kiconst_0 ?_
    refine j_bipush (v := (23 : Int32)) h dX12_readNoise_69 kbipush_23 ?_
    refine j_callVI (q0 := 0) (ci := 12) h [.int (0 : Int32), .int (23 : Int32)] (kX12_toldNumber _ G h.2.2.2.2.2.2.2.2.2.2 m (0 : Int32) (23 : Int32)) okX12_toldNumber inX12_toldNumber ml12_256 rfl rfl rfl rfl (by decide) (by decide) (Nat.le_of_ble_eq_true rfl) rfl dX12_readNoise_71 (fun r1 m2 hr1 => ?_)
    refine bM_28 h dX12_readNoise_74 (fun m3 hm3 => ?_)
    refine j_aload_n h dX12_readNoise_75 rfl ?_
    refine gM_43 h dX12_readNoise_76 ?_
    refine j_aload_n h dX12_readNoise_79 rfl ?_
    refine gM_49 h dX12_readNoise_80 ?_
    refine j_aload_n h dX12_readNoise_83 rfl ?_
    refine j_ldc2 (v := (1819243876 : Int64)) h dX12_readNoise_84 cl12_216 ?_
    refine j_iconst (v := (1 : Int32)) h dX12_readNoise_87 kiconst_1 ?_
    refine j_bipush (v := (20 : Int32)) h dX12_readNoise_88 kbipush_20 ?_
    refine j_callVI (q0 := 0) (ci := 12) h [.long (1819243876 : Int64), .int (1 : Int32), .int (20 : Int32)] (kX12_told _ G h.2.2.2.2.2.2.2.2.2.2 m3 (1819243876 : Int64) (1 : Int32) (20 : Int32)) okX12_told inX12_told ml12_330 rfl rfl rfl rfl (by decide) (by decide) (Nat.le_of_ble_eq_true rfl) rfl dX12_readNoise_90 (fun r4 m5 hr4 => ?_)
    refine bM_29 h dX12_readNoise_93 (fun m6 hm6 => ?_)
    refine j_aload_n h dX12_readNoise_94 rfl ?_
    refine gM_2 h dX12_readNoise_95 ?_
    refine j_if_le (tgt := 102) h dX12_readNoise_98 (by decide) (fun c7 => ?_) (fun c7 => ?_)
    · refine j_aload_n h dX12_readNoise_102 rfl ?_
      refine gM_41 h dX12_readNoise_103 ?_
      refine j_aload_n h dX12_readNoise_106 rfl ?_
      refine gM_49 h dX12_readNoise_107 ?_
      refine j_iload_n h dX12_readNoise_110 rfl ?_
      refine bM_27 h dX12_readNoise_111 (fun m8 hm8 => ?_)
      refine j_aload_n h dX12_readNoise_112 rfl ?_
      refine j_dup h dX12_readNoise_113 rfl ?_
      refine gM_49 h dX12_readNoise_114 ?_
      refine j_iconst (v := (1 : Int32)) h dX12_readNoise_117 kiconst_1 ?_
      refine j_iadd h dX12_readNoise_118 ?_
      refine pM_49 h dX12_readNoise_119 (fun m9 hm9 => ?_)
      exact j_vret h rfl dX12_readNoise_122
    · exact j_vret h rfl dX12_readNoise_101
set_option maxHeartbeats 4000000 in
set_option maxRecDepth 100000 in
theorem kX12_readNoise (l : Launch) (G : Gt) (hD : ∀ m, va_D (inA G nM) (wM G m)) (m : Mem) : ∀ a, fX12_readNoise m = some a → Ct l G wM nM yX12_readNoise cX12_readNoise 2 none 5 [.ref (G.2.2 0)] m (cvV a) := by
  refine ct_of (own := RX12) (ls0 := [some (.ref (G.2.2 0)), none]) (by decide) rfl rfl rfl (Nat.le_of_ble_eq_true rfl) hD (fun X h => ?_) l
  unfold fX12_readNoise
  refine j_aload_n h dX12_readNoise_0 rfl ?_
  refine j_callVV (q0 := 0) (ci := 12) h [] (kX12_token _ G h.2.2.2.2.2.2.2.2.2.2 m) okX12_token inX12_token ml12_249 rfl rfl rfl rfl (by decide) (by decide) (Nat.le_of_ble_eq_true rfl) rfl dX12_readNoise_1 (fun m2 hm2 => ?_)
  refine j_aload_n h dX12_readNoise_4 rfl ?_
  refine j_callVI (q0 := 0) (ci := 12) h [] (kX12_oldPerson _ G h.2.2.2.2.2.2.2.2.2.2 m2) okX12_oldPerson inX12_oldPerson ml12_337 rfl rfl rfl rfl (by decide) (by decide) (Nat.le_of_ble_eq_true rfl) rfl dX12_readNoise_5 (fun r3 m4 hr3 => ?_)
  refine j_istore_n h dX12_readNoise_8 rfl rfl ?_
  refine j_aload_n h dX12_readNoise_9 rfl ?_
  refine gM_2 h dX12_readNoise_10 ?_
  refine j_if_ne (tgt := 20) h dX12_readNoise_13 (by decide) (fun c5 => ?_) (fun c5 => ?_)
  · refine j_aload_n h dX12_readNoise_20 rfl ?_
    refine j_ldc2 (v := (24948 : Int64)) h dX12_readNoise_21 cl12_202 ?_
    refine j_callVV (q0 := 0) (ci := 12) h [.long (24948 : Int64)] (kX12_want _ G h.2.2.2.2.2.2.2.2.2.2 m4 (24948 : Int64)) okX12_want inX12_want ml12_252 rfl rfl rfl rfl (by decide) (by decide) (Nat.le_of_ble_eq_true rfl) rfl dX12_readNoise_24 (fun m7 hm7 => ?_)
    refine j_aload_n h dX12_readNoise_27 rfl ?_
    refine gM_2 h dX12_readNoise_28 ?_
    refine j_if_ne (tgt := 59) h dX12_readNoise_31 (by decide) (fun c8 => ?_) (fun c8 => ?_)
    · refine j_wk (ls' := [some (.ref (G.2.2 0)), some (.int r3)]) (And.intro rfl (And.intro rfl trivial)) ?_
      exact (wX12_readNoise h 5000) r3 m7
    · refine j_aload_n h dX12_readNoise_34 rfl ?_
      refine gM_6 h dX12_readNoise_35 ?_
      refine j_iconst (v := (2 : Int32)) h dX12_readNoise_38 kiconst_2 ?_
      refine j_icmp_ne (tgt := 59) h dX12_readNoise_39 (by decide) (fun c9 => ?_) (fun c9 => ?_)
      · refine j_wk (ls' := [some (.ref (G.2.2 0)), some (.int r3)]) (And.intro rfl (And.intro rfl trivial)) ?_
        exact (wX12_readNoise h 5000) r3 m7
      · refine j_aload_n h dX12_readNoise_42 rfl ?_
        refine j_iload_n h dX12_readNoise_43 rfl ?_
        refine j_aload_n h dX12_readNoise_44 rfl ?_
        refine gM_8 h dX12_readNoise_45 ?_
        refine j_callVP (q0 := 0) (ci := 12) h [.int r3, .int (m7.1 0 8)] (kX12_isNoiseTold _ G h.2.2.2.2.2.2.2.2.2.2 m7 r3 (m7.1 0 8)) okX12_isNoiseTold inX12_isNoiseTold ml12_347 rfl rfl rfl rfl (by decide) (by decide) (Nat.le_of_ble_eq_true rfl) rfl dX12_readNoise_48 (fun r10 hr10 => ?_)
        refine j_if_eq (tgt := 59) h dX12_readNoise_51 (by decide) (fun c12 => ?_) (fun c12 => ?_)
        · refine j_wk (ls' := [some (.ref (G.2.2 0)), some (.int r3)]) (And.intro rfl (And.intro rfl trivial)) ?_
          exact (wX12_readNoise h 5000) r3 m7
        · refine j_aload_n h dX12_readNoise_54 rfl ?_
          refine j_iconst (v := (3 : Int32)) h dX12_readNoise_55 kiconst_3 ?_
          refine j_callVV (q0 := 0) (ci := 12) h [.int (3 : Int32)] (kX12_wrong _ G h.2.2.2.2.2.2.2.2.2.2 m7 (3 : Int32)) okX12_wrong inX12_wrong ml12_246 rfl rfl rfl rfl (by decide) (by decide) (Nat.le_of_ble_eq_true rfl) rfl dX12_readNoise_56 (fun m14 hm14 => ?_)
          refine j_wk (ls' := [some (.ref (G.2.2 0)), some (.int r3)]) (And.intro rfl (And.intro rfl trivial)) ?_
          exact (wX12_readNoise h 5000) r3 m14
  · refine j_aload_n h dX12_readNoise_16 rfl ?_
    refine j_callVV (q0 := 0) (ci := 12) h [] (kX12_token _ G h.2.2.2.2.2.2.2.2.2.2 m4) okX12_token inX12_token ml12_249 rfl rfl rfl rfl (by decide) (by decide) (Nat.le_of_ble_eq_true rfl) rfl dX12_readNoise_17 (fun m16 hm16 => ?_)
    refine j_aload_n h dX12_readNoise_20 rfl ?_
    refine j_ldc2 (v := (24948 : Int64)) h dX12_readNoise_21 cl12_202 ?_
    refine j_callVV (q0 := 0) (ci := 12) h [.long (24948 : Int64)] (kX12_want _ G h.2.2.2.2.2.2.2.2.2.2 m16 (24948 : Int64)) okX12_want inX12_want ml12_252 rfl rfl rfl rfl (by decide) (by decide) (Nat.le_of_ble_eq_true rfl) rfl dX12_readNoise_24 (fun m18 hm18 => ?_)
    refine j_aload_n h dX12_readNoise_27 rfl ?_
    refine gM_2 h dX12_readNoise_28 ?_
    refine j_if_ne (tgt := 59) h dX12_readNoise_31 (by decide) (fun c19 => ?_) (fun c19 => ?_)
    · refine j_wk (ls' := [some (.ref (G.2.2 0)), some (.int r3)]) (And.intro rfl (And.intro rfl trivial)) ?_
      exact (wX12_readNoise h 5000) r3 m18
    · refine j_aload_n h dX12_readNoise_34 rfl ?_
      refine gM_6 h dX12_readNoise_35 ?_
      refine j_iconst (v := (2 : Int32)) h dX12_readNoise_38 kiconst_2 ?_
      refine j_icmp_ne (tgt := 59) h dX12_readNoise_39 (by decide) (fun c20 => ?_) (fun c20 => ?_)
      · refine j_wk (ls' := [some (.ref (G.2.2 0)), some (.int r3)]) (And.intro rfl (And.intro rfl trivial)) ?_
        exact (wX12_readNoise h 5000) r3 m18
      · refine j_aload_n h dX12_readNoise_42 rfl ?_
        refine j_iload_n h dX12_readNoise_43 rfl ?_
        refine j_aload_n h dX12_readNoise_44 rfl ?_
        refine gM_8 h dX12_readNoise_45 ?_
        refine j_callVP (q0 := 0) (ci := 12) h [.int r3, .int (m18.1 0 8)] (kX12_isNoiseTold _ G h.2.2.2.2.2.2.2.2.2.2 m18 r3 (m18.1 0 8)) okX12_isNoiseTold inX12_isNoiseTold ml12_347 rfl rfl rfl rfl (by decide) (by decide) (Nat.le_of_ble_eq_true rfl) rfl dX12_readNoise_48 (fun r21 hr21 => ?_)
        refine j_if_eq (tgt := 59) h dX12_readNoise_51 (by decide) (fun c23 => ?_) (fun c23 => ?_)
        · refine j_wk (ls' := [some (.ref (G.2.2 0)), some (.int r3)]) (And.intro rfl (And.intro rfl trivial)) ?_
          exact (wX12_readNoise h 5000) r3 m18
        · refine j_aload_n h dX12_readNoise_54 rfl ?_
          refine j_iconst (v := (3 : Int32)) h dX12_readNoise_55 kiconst_3 ?_
          refine j_callVV (q0 := 0) (ci := 12) h [.int (3 : Int32)] (kX12_wrong _ G h.2.2.2.2.2.2.2.2.2.2 m18 (3 : Int32)) okX12_wrong inX12_wrong ml12_246 rfl rfl rfl rfl (by decide) (by decide) (Nat.le_of_ble_eq_true rfl) rfl dX12_readNoise_56 (fun m25 hm25 => ?_)
          refine j_wk (ls' := [some (.ref (G.2.2 0)), some (.int r3)]) (And.intro rfl (And.intro rfl trivial)) ?_
          exact (wX12_readNoise h 5000) r3 m25
theorem dX12_readWakeful_0 : DD cX12_readWakeful 0 (.aload_n 0) 1 1 := ⟨by decide +kernel, rfl⟩
theorem dX12_readWakeful_1 : DD cX12_readWakeful 1 (.invokevirtual 249) 3 4 := ⟨by decide +kernel, rfl⟩
theorem dX12_readWakeful_4 : DD cX12_readWakeful 4 (.aload_n 0) 1 5 := ⟨by decide +kernel, rfl⟩
theorem dX12_readWakeful_5 : DD cX12_readWakeful 5 (.invokevirtual 337) 3 8 := ⟨by decide +kernel, rfl⟩
theorem dX12_readWakeful_8 : DD cX12_readWakeful 8 (.istore_n 1) 1 9 := ⟨by decide +kernel, rfl⟩
theorem dX12_readWakeful_9 : DD cX12_readWakeful 9 (.aload_n 0) 1 10 := ⟨by decide +kernel, rfl⟩
theorem dX12_readWakeful_10 : DD cX12_readWakeful 10 (.getfield 197) 3 13 := ⟨by decide +kernel, rfl⟩
theorem dX12_readWakeful_13 : DD cX12_readWakeful 13 (.ifCond .ne 17) 3 16 := ⟨by decide +kernel, rfl⟩
theorem dX12_readWakeful_16 : DD cX12_readWakeful 16 (.aload_n 0) 1 17 := ⟨by decide +kernel, rfl⟩
theorem dX12_readWakeful_17 : DD cX12_readWakeful 17 (.getfield 61) 3 20 := ⟨by decide +kernel, rfl⟩
theorem dX12_readWakeful_20 : DD cX12_readWakeful 20 (.iload_n 1) 1 21 := ⟨by decide +kernel, rfl⟩
theorem dX12_readWakeful_21 : DD cX12_readWakeful 21 (.iaload) 1 22 := ⟨by decide +kernel, rfl⟩
theorem dX12_readWakeful_22 : DD cX12_readWakeful 22 (.ifCond .lt 8) 3 25 := ⟨by decide +kernel, rfl⟩
theorem dX12_readWakeful_25 : DD cX12_readWakeful 25 (.aload_n 0) 1 26 := ⟨by decide +kernel, rfl⟩
theorem dX12_readWakeful_26 : DD cX12_readWakeful 26 (.iconst 3) 1 27 := ⟨by decide +kernel, rfl⟩
theorem dX12_readWakeful_27 : DD cX12_readWakeful 27 (.invokevirtual 246) 3 30 := ⟨by decide +kernel, rfl⟩
theorem dX12_readWakeful_30 : DD cX12_readWakeful 30 (.aload_n 0) 1 31 := ⟨by decide +kernel, rfl⟩
theorem dX12_readWakeful_31 : DD cX12_readWakeful 31 (.getfield 197) 3 34 := ⟨by decide +kernel, rfl⟩
theorem dX12_readWakeful_34 : DD cX12_readWakeful 34 (.ifCond .ne 7) 3 37 := ⟨by decide +kernel, rfl⟩
theorem dX12_readWakeful_37 : DD cX12_readWakeful 37 (.aload_n 0) 1 38 := ⟨by decide +kernel, rfl⟩
theorem dX12_readWakeful_38 : DD cX12_readWakeful 38 (.invokevirtual 249) 3 41 := ⟨by decide +kernel, rfl⟩
theorem dX12_readWakeful_41 : DD cX12_readWakeful 41 (.aload_n 0) 1 42 := ⟨by decide +kernel, rfl⟩
theorem dX12_readWakeful_42 : DD cX12_readWakeful 42 (.iconst 0) 1 43 := ⟨by decide +kernel, rfl⟩
theorem dX12_readWakeful_43 : DD cX12_readWakeful 43 (.bipush 100) 2 45 := ⟨by decide +kernel, rfl⟩
theorem dX12_readWakeful_45 : DD cX12_readWakeful 45 (.invokevirtual 256) 3 48 := ⟨by decide +kernel, rfl⟩
theorem dX12_readWakeful_48 : DD cX12_readWakeful 48 (.istore_n 2) 1 49 := ⟨by decide +kernel, rfl⟩
theorem dX12_readWakeful_49 : DD cX12_readWakeful 49 (.aload_n 0) 1 50 := ⟨by decide +kernel, rfl⟩
theorem dX12_readWakeful_50 : DD cX12_readWakeful 50 (.getfield 197) 3 53 := ⟨by decide +kernel, rfl⟩
theorem dX12_readWakeful_53 : DD cX12_readWakeful 53 (.ifCond .ne 10) 3 56 := ⟨by decide +kernel, rfl⟩
theorem dX12_readWakeful_56 : DD cX12_readWakeful 56 (.aload_n 0) 1 57 := ⟨by decide +kernel, rfl⟩
theorem dX12_readWakeful_57 : DD cX12_readWakeful 57 (.getfield 61) 3 60 := ⟨by decide +kernel, rfl⟩
theorem dX12_readWakeful_60 : DD cX12_readWakeful 60 (.iload_n 1) 1 61 := ⟨by decide +kernel, rfl⟩
theorem dX12_readWakeful_61 : DD cX12_readWakeful 61 (.iload_n 2) 1 62 := ⟨by decide +kernel, rfl⟩
theorem dX12_readWakeful_62 : DD cX12_readWakeful 62 (.iastore) 1 63 := ⟨by decide +kernel, rfl⟩
theorem dX12_readWakeful_63 : DD cX12_readWakeful 63 (.return_) 1 64 := ⟨by decide +kernel, rfl⟩
def fX12_readWakeful (m : Mem) : Option Mem := (cV (fX12_token m) fun m2 => (cI (fX12_oldPerson m2) fun r3 m4 => (if (m4.1 0 2) = 0 then (rd (m4.1 16) 7 r3 fun v17 => (if v17 < 0 then (if (m4.1 0 2) = 0 then (cV (fX12_token m4) fun m25 => (cI (fX12_toldNumber m25 (0 : Int32) (100 : Int32)) fun r26 m27 => (if (m27.1 0 2) = 0 then (wr m27 16 7 r3 r26 fun m29 => (some m29)) else (some m27)))) else (cI (fX12_toldNumber m4 (0 : Int32) (100 : Int32)) fun r20 m21 => (if (m21.1 0 2) = 0 then (wr m21 16 7 r3 r20 fun m23 => (some m23)) else (some m21)))) else (cV (fX12_wrong m4 (3 : Int32)) fun m31 => (if (m31.1 0 2) = 0 then (cV (fX12_token m31) fun m38 => (cI (fX12_toldNumber m38 (0 : Int32) (100 : Int32)) fun r39 m40 => (if (m40.1 0 2) = 0 then (wr m40 16 7 r3 r39 fun m42 => (some m42)) else (some m40)))) else (cI (fX12_toldNumber m31 (0 : Int32) (100 : Int32)) fun r33 m34 => (if (m34.1 0 2) = 0 then (wr m34 16 7 r3 r33 fun m36 => (some m36)) else (some m34))))))) else (if (m4.1 0 2) = 0 then (cV (fX12_token m4) fun m12 => (cI (fX12_toldNumber m12 (0 : Int32) (100 : Int32)) fun r13 m14 => (if (m14.1 0 2) = 0 then (wr m14 16 7 r3 r13 fun m16 => (some m16)) else (some m14)))) else (cI (fX12_toldNumber m4 (0 : Int32) (100 : Int32)) fun r7 m8 => (if (m8.1 0 2) = 0 then (wr m8 16 7 r3 r7 fun m10 => (some m10)) else (some m8)))))))
set_option maxHeartbeats 4000000 in
set_option maxRecDepth 100000 in
theorem kX12_readWakeful (l : Launch) (G : Gt) (hD : ∀ m, va_D (inA G nM) (wM G m)) (m : Mem) : ∀ a, fX12_readWakeful m = some a → Ct l G wM nM yX12_readWakeful cX12_readWakeful 3 none 4 [.ref (G.2.2 0)] m (cvV a) := by
  refine ct_of (own := RX12) (ls0 := [some (.ref (G.2.2 0)), none, none]) (by decide) rfl rfl rfl (Nat.le_of_ble_eq_true rfl) hD (fun X h => ?_) l
  unfold fX12_readWakeful
  refine j_aload_n h dX12_readWakeful_0 rfl ?_
  refine j_callVV (q0 := 0) (ci := 12) h [] (kX12_token _ G h.2.2.2.2.2.2.2.2.2.2 m) okX12_token inX12_token ml12_249 rfl rfl rfl rfl (by decide) (by decide) (Nat.le_of_ble_eq_true rfl) rfl dX12_readWakeful_1 (fun m2 hm2 => ?_)
  refine j_aload_n h dX12_readWakeful_4 rfl ?_
  refine j_callVI (q0 := 0) (ci := 12) h [] (kX12_oldPerson _ G h.2.2.2.2.2.2.2.2.2.2 m2) okX12_oldPerson inX12_oldPerson ml12_337 rfl rfl rfl rfl (by decide) (by decide) (Nat.le_of_ble_eq_true rfl) rfl dX12_readWakeful_5 (fun r3 m4 hr3 => ?_)
  refine j_istore_n h dX12_readWakeful_8 rfl rfl ?_
  refine j_aload_n h dX12_readWakeful_9 rfl ?_
  refine gM_2 h dX12_readWakeful_10 ?_
  refine j_if_ne (tgt := 30) h dX12_readWakeful_13 (by decide) (fun c5 => ?_) (fun c5 => ?_)
  · refine j_aload_n h dX12_readWakeful_30 rfl ?_
    refine gM_2 h dX12_readWakeful_31 ?_
    refine j_if_ne (tgt := 41) h dX12_readWakeful_34 (by decide) (fun c6 => ?_) (fun c6 => ?_)
    · refine j_aload_n h dX12_readWakeful_41 rfl ?_
      refine j_iconst (v := (0 : Int32)) h dX12_readWakeful_42 kiconst_0 ?_
      refine j_bipush (v := (100 : Int32)) h dX12_readWakeful_43 kbipush_100 ?_
      refine j_callVI (q0 := 0) (ci := 12) h [.int (0 : Int32), .int (100 : Int32)] (kX12_toldNumber _ G h.2.2.2.2.2.2.2.2.2.2 m4 (0 : Int32) (100 : Int32)) okX12_toldNumber inX12_toldNumber ml12_256 rfl rfl rfl rfl (by decide) (by decide) (Nat.le_of_ble_eq_true rfl) rfl dX12_readWakeful_45 (fun r7 m8 hr7 => ?_)
      refine j_istore_n h dX12_readWakeful_48 rfl rfl ?_
      refine j_aload_n h dX12_readWakeful_49 rfl ?_
      refine gM_2 h dX12_readWakeful_50 ?_
      refine j_if_ne (tgt := 63) h dX12_readWakeful_53 (by decide) (fun c9 => ?_) (fun c9 => ?_)
      · exact j_vret h rfl dX12_readWakeful_63
      · refine j_aload_n h dX12_readWakeful_56 rfl ?_
        refine gM_30 h dX12_readWakeful_57 ?_
        refine j_iload_n h dX12_readWakeful_60 rfl ?_
        refine j_iload_n h dX12_readWakeful_61 rfl ?_
        refine bM_16 h dX12_readWakeful_62 (fun m10 hm10 => ?_)
        exact j_vret h rfl dX12_readWakeful_63
    · refine j_aload_n h dX12_readWakeful_37 rfl ?_
      refine j_callVV (q0 := 0) (ci := 12) h [] (kX12_token _ G h.2.2.2.2.2.2.2.2.2.2 m4) okX12_token inX12_token ml12_249 rfl rfl rfl rfl (by decide) (by decide) (Nat.le_of_ble_eq_true rfl) rfl dX12_readWakeful_38 (fun m12 hm12 => ?_)
      refine j_aload_n h dX12_readWakeful_41 rfl ?_
      refine j_iconst (v := (0 : Int32)) h dX12_readWakeful_42 kiconst_0 ?_
      refine j_bipush (v := (100 : Int32)) h dX12_readWakeful_43 kbipush_100 ?_
      refine j_callVI (q0 := 0) (ci := 12) h [.int (0 : Int32), .int (100 : Int32)] (kX12_toldNumber _ G h.2.2.2.2.2.2.2.2.2.2 m12 (0 : Int32) (100 : Int32)) okX12_toldNumber inX12_toldNumber ml12_256 rfl rfl rfl rfl (by decide) (by decide) (Nat.le_of_ble_eq_true rfl) rfl dX12_readWakeful_45 (fun r13 m14 hr13 => ?_)
      refine j_istore_n h dX12_readWakeful_48 rfl rfl ?_
      refine j_aload_n h dX12_readWakeful_49 rfl ?_
      refine gM_2 h dX12_readWakeful_50 ?_
      refine j_if_ne (tgt := 63) h dX12_readWakeful_53 (by decide) (fun c15 => ?_) (fun c15 => ?_)
      · exact j_vret h rfl dX12_readWakeful_63
      · refine j_aload_n h dX12_readWakeful_56 rfl ?_
        refine gM_30 h dX12_readWakeful_57 ?_
        refine j_iload_n h dX12_readWakeful_60 rfl ?_
        refine j_iload_n h dX12_readWakeful_61 rfl ?_
        refine bM_16 h dX12_readWakeful_62 (fun m16 hm16 => ?_)
        exact j_vret h rfl dX12_readWakeful_63
  · refine j_aload_n h dX12_readWakeful_16 rfl ?_
    refine gM_30 h dX12_readWakeful_17 ?_
    refine j_iload_n h dX12_readWakeful_20 rfl ?_
    refine aM_16 h dX12_readWakeful_21 (fun v17 hv17 => ?_)
    refine j_if_lt (tgt := 30) h dX12_readWakeful_22 (by decide) (fun c18 => ?_) (fun c18 => ?_)
    · refine j_aload_n h dX12_readWakeful_30 rfl ?_
      refine gM_2 h dX12_readWakeful_31 ?_
      refine j_if_ne (tgt := 41) h dX12_readWakeful_34 (by decide) (fun c19 => ?_) (fun c19 => ?_)
      · refine j_aload_n h dX12_readWakeful_41 rfl ?_
        refine j_iconst (v := (0 : Int32)) h dX12_readWakeful_42 kiconst_0 ?_
        refine j_bipush (v := (100 : Int32)) h dX12_readWakeful_43 kbipush_100 ?_
        refine j_callVI (q0 := 0) (ci := 12) h [.int (0 : Int32), .int (100 : Int32)] (kX12_toldNumber _ G h.2.2.2.2.2.2.2.2.2.2 m4 (0 : Int32) (100 : Int32)) okX12_toldNumber inX12_toldNumber ml12_256 rfl rfl rfl rfl (by decide) (by decide) (Nat.le_of_ble_eq_true rfl) rfl dX12_readWakeful_45 (fun r20 m21 hr20 => ?_)
        refine j_istore_n h dX12_readWakeful_48 rfl rfl ?_
        refine j_aload_n h dX12_readWakeful_49 rfl ?_
        refine gM_2 h dX12_readWakeful_50 ?_
        refine j_if_ne (tgt := 63) h dX12_readWakeful_53 (by decide) (fun c22 => ?_) (fun c22 => ?_)
        · exact j_vret h rfl dX12_readWakeful_63
        · refine j_aload_n h dX12_readWakeful_56 rfl ?_
          refine gM_30 h dX12_readWakeful_57 ?_
          refine j_iload_n h dX12_readWakeful_60 rfl ?_
          refine j_iload_n h dX12_readWakeful_61 rfl ?_
          refine bM_16 h dX12_readWakeful_62 (fun m23 hm23 => ?_)
          exact j_vret h rfl dX12_readWakeful_63
      · refine j_aload_n h dX12_readWakeful_37 rfl ?_
        refine j_callVV (q0 := 0) (ci := 12) h [] (kX12_token _ G h.2.2.2.2.2.2.2.2.2.2 m4) okX12_token inX12_token ml12_249 rfl rfl rfl rfl (by decide) (by decide) (Nat.le_of_ble_eq_true rfl) rfl dX12_readWakeful_38 (fun m25 hm25 => ?_)
        refine j_aload_n h dX12_readWakeful_41 rfl ?_
        refine j_iconst (v := (0 : Int32)) h dX12_readWakeful_42 kiconst_0 ?_
        refine j_bipush (v := (100 : Int32)) h dX12_readWakeful_43 kbipush_100 ?_
        refine j_callVI (q0 := 0) (ci := 12) h [.int (0 : Int32), .int (100 : Int32)] (kX12_toldNumber _ G h.2.2.2.2.2.2.2.2.2.2 m25 (0 : Int32) (100 : Int32)) okX12_toldNumber inX12_toldNumber ml12_256 rfl rfl rfl rfl (by decide) (by decide) (Nat.le_of_ble_eq_true rfl) rfl dX12_readWakeful_45 (fun r26 m27 hr26 => ?_)
        refine j_istore_n h dX12_readWakeful_48 rfl rfl ?_
        refine j_aload_n h dX12_readWakeful_49 rfl ?_
        refine gM_2 h dX12_readWakeful_50 ?_
        refine j_if_ne (tgt := 63) h dX12_readWakeful_53 (by decide) (fun c28 => ?_) (fun c28 => ?_)
        · exact j_vret h rfl dX12_readWakeful_63
        · refine j_aload_n h dX12_readWakeful_56 rfl ?_
          refine gM_30 h dX12_readWakeful_57 ?_
          refine j_iload_n h dX12_readWakeful_60 rfl ?_
          refine j_iload_n h dX12_readWakeful_61 rfl ?_
          refine bM_16 h dX12_readWakeful_62 (fun m29 hm29 => ?_)
          exact j_vret h rfl dX12_readWakeful_63
    · refine j_aload_n h dX12_readWakeful_25 rfl ?_
      refine j_iconst (v := (3 : Int32)) h dX12_readWakeful_26 kiconst_3 ?_
      refine j_callVV (q0 := 0) (ci := 12) h [.int (3 : Int32)] (kX12_wrong _ G h.2.2.2.2.2.2.2.2.2.2 m4 (3 : Int32)) okX12_wrong inX12_wrong ml12_246 rfl rfl rfl rfl (by decide) (by decide) (Nat.le_of_ble_eq_true rfl) rfl dX12_readWakeful_27 (fun m31 hm31 => ?_)
      refine j_aload_n h dX12_readWakeful_30 rfl ?_
      refine gM_2 h dX12_readWakeful_31 ?_
      refine j_if_ne (tgt := 41) h dX12_readWakeful_34 (by decide) (fun c32 => ?_) (fun c32 => ?_)
      · refine j_aload_n h dX12_readWakeful_41 rfl ?_
        refine j_iconst (v := (0 : Int32)) h dX12_readWakeful_42 kiconst_0 ?_
        refine j_bipush (v := (100 : Int32)) h dX12_readWakeful_43 kbipush_100 ?_
        refine j_callVI (q0 := 0) (ci := 12) h [.int (0 : Int32), .int (100 : Int32)] (kX12_toldNumber _ G h.2.2.2.2.2.2.2.2.2.2 m31 (0 : Int32) (100 : Int32)) okX12_toldNumber inX12_toldNumber ml12_256 rfl rfl rfl rfl (by decide) (by decide) (Nat.le_of_ble_eq_true rfl) rfl dX12_readWakeful_45 (fun r33 m34 hr33 => ?_)
        refine j_istore_n h dX12_readWakeful_48 rfl rfl ?_
        refine j_aload_n h dX12_readWakeful_49 rfl ?_
        refine gM_2 h dX12_readWakeful_50 ?_
        refine j_if_ne (tgt := 63) h dX12_readWakeful_53 (by decide) (fun c35 => ?_) (fun c35 => ?_)
        · exact j_vret h rfl dX12_readWakeful_63
        · refine j_aload_n h dX12_readWakeful_56 rfl ?_
          refine gM_30 h dX12_readWakeful_57 ?_
          refine j_iload_n h dX12_readWakeful_60 rfl ?_
          refine j_iload_n h dX12_readWakeful_61 rfl ?_
          refine bM_16 h dX12_readWakeful_62 (fun m36 hm36 => ?_)
          exact j_vret h rfl dX12_readWakeful_63
      · refine j_aload_n h dX12_readWakeful_37 rfl ?_
        refine j_callVV (q0 := 0) (ci := 12) h [] (kX12_token _ G h.2.2.2.2.2.2.2.2.2.2 m31) okX12_token inX12_token ml12_249 rfl rfl rfl rfl (by decide) (by decide) (Nat.le_of_ble_eq_true rfl) rfl dX12_readWakeful_38 (fun m38 hm38 => ?_)
        refine j_aload_n h dX12_readWakeful_41 rfl ?_
        refine j_iconst (v := (0 : Int32)) h dX12_readWakeful_42 kiconst_0 ?_
        refine j_bipush (v := (100 : Int32)) h dX12_readWakeful_43 kbipush_100 ?_
        refine j_callVI (q0 := 0) (ci := 12) h [.int (0 : Int32), .int (100 : Int32)] (kX12_toldNumber _ G h.2.2.2.2.2.2.2.2.2.2 m38 (0 : Int32) (100 : Int32)) okX12_toldNumber inX12_toldNumber ml12_256 rfl rfl rfl rfl (by decide) (by decide) (Nat.le_of_ble_eq_true rfl) rfl dX12_readWakeful_45 (fun r39 m40 hr39 => ?_)
        refine j_istore_n h dX12_readWakeful_48 rfl rfl ?_
        refine j_aload_n h dX12_readWakeful_49 rfl ?_
        refine gM_2 h dX12_readWakeful_50 ?_
        refine j_if_ne (tgt := 63) h dX12_readWakeful_53 (by decide) (fun c41 => ?_) (fun c41 => ?_)
        · exact j_vret h rfl dX12_readWakeful_63
        · refine j_aload_n h dX12_readWakeful_56 rfl ?_
          refine gM_30 h dX12_readWakeful_57 ?_
          refine j_iload_n h dX12_readWakeful_60 rfl ?_
          refine j_iload_n h dX12_readWakeful_61 rfl ?_
          refine bM_16 h dX12_readWakeful_62 (fun m42 hm42 => ?_)
          exact j_vret h rfl dX12_readWakeful_63
theorem dX12_readLine_0 : DD cX12_readLine 0 (.aload_n 0) 1 1 := ⟨by decide +kernel, rfl⟩
theorem dX12_readLine_1 : DD cX12_readLine 1 (.ldc2_w 200) 3 4 := ⟨by decide +kernel, rfl⟩
theorem dX12_readLine_4 : DD cX12_readLine 4 (.invokevirtual 242) 3 7 := ⟨by decide +kernel, rfl⟩
theorem dX12_readLine_7 : DD cX12_readLine 7 (.ifCond .eq 19) 3 10 := ⟨by decide +kernel, rfl⟩
theorem dX12_readLine_10 : DD cX12_readLine 10 (.aload_n 0) 1 11 := ⟨by decide +kernel, rfl⟩
theorem dX12_readLine_11 : DD cX12_readLine 11 (.getfield 260) 3 14 := ⟨by decide +kernel, rfl⟩
theorem dX12_readLine_14 : DD cX12_readLine 14 (.bipush 7) 2 16 := ⟨by decide +kernel, rfl⟩
theorem dX12_readLine_16 : DD cX12_readLine 16 (.if_icmp .ge 10) 3 19 := ⟨by decide +kernel, rfl⟩
theorem dX12_readLine_19 : DD cX12_readLine 19 (.aload_n 0) 1 20 := ⟨by decide +kernel, rfl⟩
theorem dX12_readLine_20 : DD cX12_readLine 20 (.invokevirtual 350) 3 23 := ⟨by decide +kernel, rfl⟩
theorem dX12_readLine_23 : DD cX12_readLine 23 (.goto 198) 3 26 := ⟨by decide +kernel, rfl⟩
theorem dX12_readLine_26 : DD cX12_readLine 26 (.aload_n 0) 1 27 := ⟨by decide +kernel, rfl⟩
theorem dX12_readLine_27 : DD cX12_readLine 27 (.ldc2_w 208) 3 30 := ⟨by decide +kernel, rfl⟩
theorem dX12_readLine_30 : DD cX12_readLine 30 (.invokevirtual 242) 3 33 := ⟨by decide +kernel, rfl⟩
theorem dX12_readLine_33 : DD cX12_readLine 33 (.ifCond .eq 19) 3 36 := ⟨by decide +kernel, rfl⟩
theorem dX12_readLine_36 : DD cX12_readLine 36 (.aload_n 0) 1 37 := ⟨by decide +kernel, rfl⟩
theorem dX12_readLine_37 : DD cX12_readLine 37 (.getfield 334) 3 40 := ⟨by decide +kernel, rfl⟩
theorem dX12_readLine_40 : DD cX12_readLine 40 (.bipush 10) 2 42 := ⟨by decide +kernel, rfl⟩
theorem dX12_readLine_42 : DD cX12_readLine 42 (.if_icmp .ge 10) 3 45 := ⟨by decide +kernel, rfl⟩
theorem dX12_readLine_45 : DD cX12_readLine 45 (.aload_n 0) 1 46 := ⟨by decide +kernel, rfl⟩
theorem dX12_readLine_46 : DD cX12_readLine 46 (.invokevirtual 353) 3 49 := ⟨by decide +kernel, rfl⟩
theorem dX12_readLine_49 : DD cX12_readLine 49 (.goto 172) 3 52 := ⟨by decide +kernel, rfl⟩
theorem dX12_readLine_52 : DD cX12_readLine 52 (.aload_n 0) 1 53 := ⟨by decide +kernel, rfl⟩
theorem dX12_readLine_53 : DD cX12_readLine 53 (.ldc2_w 214) 3 56 := ⟨by decide +kernel, rfl⟩
theorem dX12_readLine_56 : DD cX12_readLine 56 (.invokevirtual 242) 3 59 := ⟨by decide +kernel, rfl⟩
theorem dX12_readLine_59 : DD cX12_readLine 59 (.ifCond .eq 19) 3 62 := ⟨by decide +kernel, rfl⟩
theorem dX12_readLine_62 : DD cX12_readLine 62 (.aload_n 0) 1 63 := ⟨by decide +kernel, rfl⟩
theorem dX12_readLine_63 : DD cX12_readLine 63 (.getfield 344) 3 66 := ⟨by decide +kernel, rfl⟩
theorem dX12_readLine_66 : DD cX12_readLine 66 (.bipush 8) 2 68 := ⟨by decide +kernel, rfl⟩
theorem dX12_readLine_68 : DD cX12_readLine 68 (.if_icmp .ge 10) 3 71 := ⟨by decide +kernel, rfl⟩
theorem dX12_readLine_71 : DD cX12_readLine 71 (.aload_n 0) 1 72 := ⟨by decide +kernel, rfl⟩
theorem dX12_readLine_72 : DD cX12_readLine 72 (.invokevirtual 356) 3 75 := ⟨by decide +kernel, rfl⟩
theorem dX12_readLine_75 : DD cX12_readLine 75 (.goto 146) 3 78 := ⟨by decide +kernel, rfl⟩
theorem dX12_readLine_78 : DD cX12_readLine 78 (.aload_n 0) 1 79 := ⟨by decide +kernel, rfl⟩
theorem dX12_readLine_79 : DD cX12_readLine 79 (.ldc2_w 218) 3 82 := ⟨by decide +kernel, rfl⟩
theorem dX12_readLine_82 : DD cX12_readLine 82 (.invokevirtual 242) 3 85 := ⟨by decide +kernel, rfl⟩
theorem dX12_readLine_85 : DD cX12_readLine 85 (.ifCond .eq 10) 3 88 := ⟨by decide +kernel, rfl⟩
theorem dX12_readLine_88 : DD cX12_readLine 88 (.aload_n 0) 1 89 := ⟨by decide +kernel, rfl⟩
theorem dX12_readLine_89 : DD cX12_readLine 89 (.invokevirtual 359) 3 92 := ⟨by decide +kernel, rfl⟩
theorem dX12_readLine_92 : DD cX12_readLine 92 (.goto 129) 3 95 := ⟨by decide +kernel, rfl⟩
theorem dX12_readLine_95 : DD cX12_readLine 95 (.aload_n 0) 1 96 := ⟨by decide +kernel, rfl⟩
theorem dX12_readLine_96 : DD cX12_readLine 96 (.ldc2_w 220) 3 99 := ⟨by decide +kernel, rfl⟩
theorem dX12_readLine_99 : DD cX12_readLine 99 (.invokevirtual 242) 3 102 := ⟨by decide +kernel, rfl⟩
theorem dX12_readLine_102 : DD cX12_readLine 102 (.ifCond .eq 20) 3 105 := ⟨by decide +kernel, rfl⟩
theorem dX12_readLine_105 : DD cX12_readLine 105 (.aload_n 0) 1 106 := ⟨by decide +kernel, rfl⟩
theorem dX12_readLine_106 : DD cX12_readLine 106 (.getfield 45) 3 109 := ⟨by decide +kernel, rfl⟩
theorem dX12_readLine_109 : DD cX12_readLine 109 (.iconst 0) 1 110 := ⟨by decide +kernel, rfl⟩
theorem dX12_readLine_110 : DD cX12_readLine 110 (.baload) 1 111 := ⟨by decide +kernel, rfl⟩
theorem dX12_readLine_111 : DD cX12_readLine 111 (.ifCond .ne 11) 3 114 := ⟨by decide +kernel, rfl⟩
theorem dX12_readLine_114 : DD cX12_readLine 114 (.aload_n 0) 1 115 := ⟨by decide +kernel, rfl⟩
theorem dX12_readLine_115 : DD cX12_readLine 115 (.iconst 0) 1 116 := ⟨by decide +kernel, rfl⟩
theorem dX12_readLine_116 : DD cX12_readLine 116 (.invokevirtual 362) 3 119 := ⟨by decide +kernel, rfl⟩
theorem dX12_readLine_119 : DD cX12_readLine 119 (.goto 102) 3 122 := ⟨by decide +kernel, rfl⟩
theorem dX12_readLine_122 : DD cX12_readLine 122 (.aload_n 0) 1 123 := ⟨by decide +kernel, rfl⟩
theorem dX12_readLine_123 : DD cX12_readLine 123 (.ldc2_w 222) 3 126 := ⟨by decide +kernel, rfl⟩
theorem dX12_readLine_126 : DD cX12_readLine 126 (.invokevirtual 242) 3 129 := ⟨by decide +kernel, rfl⟩
theorem dX12_readLine_129 : DD cX12_readLine 129 (.ifCond .eq 20) 3 132 := ⟨by decide +kernel, rfl⟩
theorem dX12_readLine_132 : DD cX12_readLine 132 (.aload_n 0) 1 133 := ⟨by decide +kernel, rfl⟩
theorem dX12_readLine_133 : DD cX12_readLine 133 (.getfield 45) 3 136 := ⟨by decide +kernel, rfl⟩
theorem dX12_readLine_136 : DD cX12_readLine 136 (.iconst 1) 1 137 := ⟨by decide +kernel, rfl⟩
theorem dX12_readLine_137 : DD cX12_readLine 137 (.baload) 1 138 := ⟨by decide +kernel, rfl⟩
theorem dX12_readLine_138 : DD cX12_readLine 138 (.ifCond .ne 11) 3 141 := ⟨by decide +kernel, rfl⟩
theorem dX12_readLine_141 : DD cX12_readLine 141 (.aload_n 0) 1 142 := ⟨by decide +kernel, rfl⟩
theorem dX12_readLine_142 : DD cX12_readLine 142 (.iconst 1) 1 143 := ⟨by decide +kernel, rfl⟩
theorem dX12_readLine_143 : DD cX12_readLine 143 (.invokevirtual 362) 3 146 := ⟨by decide +kernel, rfl⟩
theorem dX12_readLine_146 : DD cX12_readLine 146 (.goto 75) 3 149 := ⟨by decide +kernel, rfl⟩
theorem dX12_readLine_149 : DD cX12_readLine 149 (.aload_n 0) 1 150 := ⟨by decide +kernel, rfl⟩
theorem dX12_readLine_150 : DD cX12_readLine 150 (.ldc2_w 224) 3 153 := ⟨by decide +kernel, rfl⟩
theorem dX12_readLine_153 : DD cX12_readLine 153 (.invokevirtual 242) 3 156 := ⟨by decide +kernel, rfl⟩
theorem dX12_readLine_156 : DD cX12_readLine 156 (.ifCond .eq 20) 3 159 := ⟨by decide +kernel, rfl⟩
theorem dX12_readLine_159 : DD cX12_readLine 159 (.aload_n 0) 1 160 := ⟨by decide +kernel, rfl⟩
theorem dX12_readLine_160 : DD cX12_readLine 160 (.getfield 45) 3 163 := ⟨by decide +kernel, rfl⟩
theorem dX12_readLine_163 : DD cX12_readLine 163 (.iconst 2) 1 164 := ⟨by decide +kernel, rfl⟩
theorem dX12_readLine_164 : DD cX12_readLine 164 (.baload) 1 165 := ⟨by decide +kernel, rfl⟩
theorem dX12_readLine_165 : DD cX12_readLine 165 (.ifCond .ne 11) 3 168 := ⟨by decide +kernel, rfl⟩
theorem dX12_readLine_168 : DD cX12_readLine 168 (.aload_n 0) 1 169 := ⟨by decide +kernel, rfl⟩
theorem dX12_readLine_169 : DD cX12_readLine 169 (.iconst 2) 1 170 := ⟨by decide +kernel, rfl⟩
theorem dX12_readLine_170 : DD cX12_readLine 170 (.invokevirtual 362) 3 173 := ⟨by decide +kernel, rfl⟩
theorem dX12_readLine_173 : DD cX12_readLine 173 (.goto 48) 3 176 := ⟨by decide +kernel, rfl⟩
theorem dX12_readLine_176 : DD cX12_readLine 176 (.aload_n 0) 1 177 := ⟨by decide +kernel, rfl⟩
theorem dX12_readLine_177 : DD cX12_readLine 177 (.ldc2_w 226) 3 180 := ⟨by decide +kernel, rfl⟩
theorem dX12_readLine_180 : DD cX12_readLine 180 (.invokevirtual 242) 3 183 := ⟨by decide +kernel, rfl⟩
theorem dX12_readLine_183 : DD cX12_readLine 183 (.ifCond .eq 33) 3 186 := ⟨by decide +kernel, rfl⟩
theorem dX12_readLine_186 : DD cX12_readLine 186 (.aload_n 0) 1 187 := ⟨by decide +kernel, rfl⟩
theorem dX12_readLine_187 : DD cX12_readLine 187 (.getfield 365) 3 190 := ⟨by decide +kernel, rfl⟩
theorem dX12_readLine_190 : DD cX12_readLine 190 (.ifCond .ne 26) 3 193 := ⟨by decide +kernel, rfl⟩
theorem dX12_readLine_193 : DD cX12_readLine 193 (.aload_n 0) 1 194 := ⟨by decide +kernel, rfl⟩
theorem dX12_readLine_194 : DD cX12_readLine 194 (.iconst 1) 1 195 := ⟨by decide +kernel, rfl⟩
theorem dX12_readLine_195 : DD cX12_readLine 195 (.putfield 365) 3 198 := ⟨by decide +kernel, rfl⟩
theorem dX12_readLine_198 : DD cX12_readLine 198 (.aload_n 0) 1 199 := ⟨by decide +kernel, rfl⟩
theorem dX12_readLine_199 : DD cX12_readLine 199 (.aload_n 0) 1 200 := ⟨by decide +kernel, rfl⟩
theorem dX12_readLine_200 : DD cX12_readLine 200 (.ldc2_w 226) 3 203 := ⟨by decide +kernel, rfl⟩
theorem dX12_readLine_203 : DD cX12_readLine 203 (.iconst 0) 1 204 := ⟨by decide +kernel, rfl⟩
theorem dX12_readLine_204 : DD cX12_readLine 204 (.sipush 364) 3 207 := ⟨by decide +kernel, rfl⟩
theorem dX12_readLine_207 : DD cX12_readLine 207 (.invokevirtual 330) 3 210 := ⟨by decide +kernel, rfl⟩
theorem dX12_readLine_210 : DD cX12_readLine 210 (.putfield 369) 3 213 := ⟨by decide +kernel, rfl⟩
theorem dX12_readLine_213 : DD cX12_readLine 213 (.goto 8) 3 216 := ⟨by decide +kernel, rfl⟩
theorem dX12_readLine_216 : DD cX12_readLine 216 (.aload_n 0) 1 217 := ⟨by decide +kernel, rfl⟩
theorem dX12_readLine_217 : DD cX12_readLine 217 (.iconst 2) 1 218 := ⟨by decide +kernel, rfl⟩
theorem dX12_readLine_218 : DD cX12_readLine 218 (.invokevirtual 246) 3 221 := ⟨by decide +kernel, rfl⟩
theorem dX12_readLine_221 : DD cX12_readLine 221 (.aload_n 0) 1 222 := ⟨by decide +kernel, rfl⟩
theorem dX12_readLine_222 : DD cX12_readLine 222 (.getfield 197) 3 225 := ⟨by decide +kernel, rfl⟩
theorem dX12_readLine_225 : DD cX12_readLine 225 (.ifCond .ne 17) 3 228 := ⟨by decide +kernel, rfl⟩
theorem dX12_readLine_228 : DD cX12_readLine 228 (.aload_n 0) 1 229 := ⟨by decide +kernel, rfl⟩
theorem dX12_readLine_229 : DD cX12_readLine 229 (.getfield 184) 3 232 := ⟨by decide +kernel, rfl⟩
theorem dX12_readLine_232 : DD cX12_readLine 232 (.bipush 59) 2 234 := ⟨by decide +kernel, rfl⟩
theorem dX12_readLine_234 : DD cX12_readLine 234 (.if_icmp .eq 8) 3 237 := ⟨by decide +kernel, rfl⟩
theorem dX12_readLine_237 : DD cX12_readLine 237 (.aload_n 0) 1 238 := ⟨by decide +kernel, rfl⟩
theorem dX12_readLine_238 : DD cX12_readLine 238 (.iconst 2) 1 239 := ⟨by decide +kernel, rfl⟩
theorem dX12_readLine_239 : DD cX12_readLine 239 (.invokevirtual 246) 3 242 := ⟨by decide +kernel, rfl⟩
theorem dX12_readLine_242 : DD cX12_readLine 242 (.aload_n 0) 1 243 := ⟨by decide +kernel, rfl⟩
theorem dX12_readLine_243 : DD cX12_readLine 243 (.getfield 197) 3 246 := ⟨by decide +kernel, rfl⟩
theorem dX12_readLine_246 : DD cX12_readLine 246 (.ifCond .ne 7) 3 249 := ⟨by decide +kernel, rfl⟩
theorem dX12_readLine_249 : DD cX12_readLine 249 (.aload_n 0) 1 250 := ⟨by decide +kernel, rfl⟩
theorem dX12_readLine_250 : DD cX12_readLine 250 (.invokevirtual 249) 3 253 := ⟨by decide +kernel, rfl⟩
theorem dX12_readLine_253 : DD cX12_readLine 253 (.return_) 1 254 := ⟨by decide +kernel, rfl⟩
def gX12_readLine : Nat → Nat → Mem → Option Mem
  | 0, _, _ => none
  | f + 1, 0, m => (cP (fX12_isWord m (33602636119176556 : Int64)) fun r1 => (if r1 = 0 then (cP (fX12_isWord m (1684109166 : Int64)) fun r4 => (if r4 = 0 then (cP (fX12_isWord m (1685418859 : Int64)) fun r7 => (if r7 = 0 then (gX12_readLine f 1 m) else (rd (m.1 11) 3 (1 : Int32) fun v10 => (if v10 = 0 then (cV (fX12_formula m (1 : Int32)) fun m13 => (gX12_readLine f 2 m13)) else (gX12_readLine f 1 m))))) else (rd (m.1 11) 3 (0 : Int32) fun v14 => (if v14 = 0 then (cV (fX12_formula m (0 : Int32)) fun m24 => (gX12_readLine f 2 m24)) else (cP (fX12_isWord m (1685418859 : Int64)) fun r16 => (if r16 = 0 then (gX12_readLine f 1 m) else (rd (m.1 11) 3 (1 : Int32) fun v19 => (if v19 = 0 then (cV (fX12_formula m (1 : Int32)) fun m22 => (gX12_readLine f 2 m22)) else (gX12_readLine f 1 m))))))))) else (cV (fX12_readWakeful m) fun m26 => (gX12_readLine f 2 m26))))
  | f + 1, 1, m => (cP (fX12_isWord m (1751216749 : Int64)) fun r1 => (if r1 = 0 then (cP (fX12_isWord m (1684108389 : Int64)) fun r4 => (if r4 = 0 then (cV (fX12_wrong m (2 : Int32)) fun m8 => (gX12_readLine f 2 m8)) else (if (m.1 0 54) = 0 then (pt (sI m 0 54 (1 : Int32)) fun m12 => (cI (fX12_told m12 (1684108389 : Int64) (0 : Int32) (364 : Int32)) fun r13 m14 => (pt (sI m14 0 50 r13) fun m15 => (gX12_readLine f 2 m15)))) else (cV (fX12_wrong m (2 : Int32)) fun m11 => (gX12_readLine f 2 m11))))) else (rd (m.1 11) 3 (2 : Int32) fun v16 => (if v16 = 0 then (cV (fX12_formula m (2 : Int32)) fun m31 => (gX12_readLine f 2 m31)) else (cP (fX12_isWord m (1684108389 : Int64)) fun r18 => (if r18 = 0 then (cV (fX12_wrong m (2 : Int32)) fun m22 => (gX12_readLine f 2 m22)) else (if (m.1 0 54) = 0 then (pt (sI m 0 54 (1 : Int32)) fun m26 => (cI (fX12_told m26 (1684108389 : Int64) (0 : Int32) (364 : Int32)) fun r27 m28 => (pt (sI m28 0 50 r27) fun m29 => (gX12_readLine f 2 m29)))) else (cV (fX12_wrong m (2 : Int32)) fun m25 => (gX12_readLine f 2 m25)))))))))
  | f + 1, 2, m => (if (m.1 0 2) = 0 then (if (m.1 0 6) = (59 : Int32) then (if (m.1 0 2) = 0 then (cV (fX12_token m) fun m8 => (some m8)) else (some m)) else (cV (fX12_wrong m (2 : Int32)) fun m10 => (if (m10.1 0 2) = 0 then (cV (fX12_token m10) fun m13 => (some m13)) else (some m10)))) else (if (m.1 0 2) = 0 then (cV (fX12_token m) fun m4 => (some m4)) else (some m)))
  | _ + 1, _ + 3, _ => none
def fX12_readLine (m : Mem) : Option Mem := (cP (fX12_isWord m (123581014175598 : Int64)) fun r1 => (if r1 = 0 then (cP (fX12_isWord m (1835361652 : Int64)) fun r4 => (if r4 = 0 then (cP (fX12_isWord m (474315584357 : Int64)) fun r7 => (if r7 = 0 then (gX12_readLine 5000 0 m) else (if (8 : Int32) ≤ (m.1 0 49) then (gX12_readLine 5000 0 m) else (cV (fX12_readNoise m) fun m12 => (gX12_readLine 5000 2 m12))))) else (if (10 : Int32) ≤ (m.1 0 48) then (cP (fX12_isWord m (474315584357 : Int64)) fun r14 => (if r14 = 0 then (gX12_readLine 5000 0 m) else (if (8 : Int32) ≤ (m.1 0 49) then (gX12_readLine 5000 0 m) else (cV (fX12_readNoise m) fun m19 => (gX12_readLine 5000 2 m19))))) else (cV (fX12_readMeet m) fun m21 => (gX12_readLine 5000 2 m21))))) else (if (7 : Int32) ≤ (m.1 0 47) then (cP (fX12_isWord m (1835361652 : Int64)) fun r23 => (if r23 = 0 then (cP (fX12_isWord m (474315584357 : Int64)) fun r26 => (if r26 = 0 then (gX12_readLine 5000 0 m) else (if (8 : Int32) ≤ (m.1 0 49) then (gX12_readLine 5000 0 m) else (cV (fX12_readNoise m) fun m31 => (gX12_readLine 5000 2 m31))))) else (if (10 : Int32) ≤ (m.1 0 48) then (cP (fX12_isWord m (474315584357 : Int64)) fun r33 => (if r33 = 0 then (gX12_readLine 5000 0 m) else (if (8 : Int32) ≤ (m.1 0 49) then (gX12_readLine 5000 0 m) else (cV (fX12_readNoise m) fun m38 => (gX12_readLine 5000 2 m38))))) else (cV (fX12_readMeet m) fun m40 => (gX12_readLine 5000 2 m40))))) else (cV (fX12_readPerson m) fun m42 => (gX12_readLine 5000 2 m42)))))
set_option maxHeartbeats 4000000 in
set_option maxRecDepth 100000 in
theorem wX12_readLine {X : Cx} {G : Gt} (h : OkX (X, G, wM, nM) cX12_readLine RX12 1 none 6) : ∀ f : Nat, (∀ (m : Mem), JR (X, G, wM, nM) cvV m 78 [some (.ref (G.2.2 0))] [] (gX12_readLine f 0 m)) ∧ (∀ (m : Mem), JR (X, G, wM, nM) cvV m 149 [some (.ref (G.2.2 0))] [] (gX12_readLine f 1 m)) ∧ (∀ (m : Mem), JR (X, G, wM, nM) cvV m 221 [some (.ref (G.2.2 0))] [] (gX12_readLine f 2 m)) := by
  intro f
  induction f with
  | zero => exact ⟨(fun _ => j_none), (fun _ => j_none), (fun _ => j_none)⟩
  | succ f ih =>
    refine ⟨?_, ?_, ?_⟩
    · intro m
      rw [gX12_readLine]
      refine j_aload_n h dX12_readLine_78 rfl ?_
      refine j_ldc2 (v := (33602636119176556 : Int64)) h dX12_readLine_79 cl12_218 ?_
      refine j_callVP (q0 := 0) (ci := 12) h [.long (33602636119176556 : Int64)] (kX12_isWord _ G h.2.2.2.2.2.2.2.2.2.2 m (33602636119176556 : Int64)) okX12_isWord inX12_isWord ml12_242 rfl rfl rfl rfl (by decide) (by decide) (Nat.le_of_ble_eq_true rfl) rfl dX12_readLine_82 (fun r1 hr1 => ?_)
      refine j_if_eq (tgt := 95) h dX12_readLine_85 (by decide) (fun c3 => ?_) (fun c3 => ?_)
      · refine j_aload_n h dX12_readLine_95 rfl ?_
        refine j_ldc2 (v := (1684109166 : Int64)) h dX12_readLine_96 cl12_220 ?_
        refine j_callVP (q0 := 0) (ci := 12) h [.long (1684109166 : Int64)] (kX12_isWord _ G h.2.2.2.2.2.2.2.2.2.2 m (1684109166 : Int64)) okX12_isWord inX12_isWord ml12_242 rfl rfl rfl rfl (by decide) (by decide) (Nat.le_of_ble_eq_true rfl) rfl dX12_readLine_99 (fun r4 hr4 => ?_)
        refine j_if_eq (tgt := 122) h dX12_readLine_102 (by decide) (fun c6 => ?_) (fun c6 => ?_)
        · refine j_aload_n h dX12_readLine_122 rfl ?_
          refine j_ldc2 (v := (1685418859 : Int64)) h dX12_readLine_123 cl12_222 ?_
          refine j_callVP (q0 := 0) (ci := 12) h [.long (1685418859 : Int64)] (kX12_isWord _ G h.2.2.2.2.2.2.2.2.2.2 m (1685418859 : Int64)) okX12_isWord inX12_isWord ml12_242 rfl rfl rfl rfl (by decide) (by decide) (Nat.le_of_ble_eq_true rfl) rfl dX12_readLine_126 (fun r7 hr7 => ?_)
          refine j_if_eq (tgt := 149) h dX12_readLine_129 (by decide) (fun c9 => ?_) (fun c9 => ?_)
          · refine j_wk (ls' := [some (.ref (G.2.2 0))]) (And.intro rfl trivial) ?_
            exact ih.2.1 m
          · refine j_aload_n h dX12_readLine_132 rfl ?_
            refine gM_19 h dX12_readLine_133 ?_
            refine j_iconst (v := (1 : Int32)) h dX12_readLine_136 kiconst_1 ?_
            refine aM_11 h dX12_readLine_137 (fun v10 hv10 => ?_)
            refine j_if_ne (tgt := 149) h dX12_readLine_138 (by decide) (fun c11 => ?_) (fun c11 => ?_)
            · refine j_wk (ls' := [some (.ref (G.2.2 0))]) (And.intro rfl trivial) ?_
              exact ih.2.1 m
            · refine j_aload_n h dX12_readLine_141 rfl ?_
              refine j_iconst (v := (1 : Int32)) h dX12_readLine_142 kiconst_1 ?_
              refine j_callVV (q0 := 0) (ci := 12) h [.int (1 : Int32)] (kX12_formula _ G h.2.2.2.2.2.2.2.2.2.2 m (1 : Int32)) okX12_formula inX12_formula ml12_362 rfl rfl rfl rfl (by decide) (by decide) (Nat.le_of_ble_eq_true rfl) rfl dX12_readLine_143 (fun m13 hm13 => ?_)
              refine j_goto (tgt := 221) h dX12_readLine_146 (by decide) ?_
              refine j_wk (ls' := [some (.ref (G.2.2 0))]) (And.intro rfl trivial) ?_
              exact ih.2.2 m13
        · refine j_aload_n h dX12_readLine_105 rfl ?_
          refine gM_19 h dX12_readLine_106 ?_
          refine j_iconst (v := (0 : Int32)) h dX12_readLine_109 kiconst_0 ?_
          refine aM_11 h dX12_readLine_110 (fun v14 hv14 => ?_)
          refine j_if_ne (tgt := 122) h dX12_readLine_111 (by decide) (fun c15 => ?_) (fun c15 => ?_)
          · refine j_aload_n h dX12_readLine_122 rfl ?_
            refine j_ldc2 (v := (1685418859 : Int64)) h dX12_readLine_123 cl12_222 ?_
            refine j_callVP (q0 := 0) (ci := 12) h [.long (1685418859 : Int64)] (kX12_isWord _ G h.2.2.2.2.2.2.2.2.2.2 m (1685418859 : Int64)) okX12_isWord inX12_isWord ml12_242 rfl rfl rfl rfl (by decide) (by decide) (Nat.le_of_ble_eq_true rfl) rfl dX12_readLine_126 (fun r16 hr16 => ?_)
            refine j_if_eq (tgt := 149) h dX12_readLine_129 (by decide) (fun c18 => ?_) (fun c18 => ?_)
            · refine j_wk (ls' := [some (.ref (G.2.2 0))]) (And.intro rfl trivial) ?_
              exact ih.2.1 m
            · refine j_aload_n h dX12_readLine_132 rfl ?_
              refine gM_19 h dX12_readLine_133 ?_
              refine j_iconst (v := (1 : Int32)) h dX12_readLine_136 kiconst_1 ?_
              refine aM_11 h dX12_readLine_137 (fun v19 hv19 => ?_)
              refine j_if_ne (tgt := 149) h dX12_readLine_138 (by decide) (fun c20 => ?_) (fun c20 => ?_)
              · refine j_wk (ls' := [some (.ref (G.2.2 0))]) (And.intro rfl trivial) ?_
                exact ih.2.1 m
              · refine j_aload_n h dX12_readLine_141 rfl ?_
                refine j_iconst (v := (1 : Int32)) h dX12_readLine_142 kiconst_1 ?_
                refine j_callVV (q0 := 0) (ci := 12) h [.int (1 : Int32)] (kX12_formula _ G h.2.2.2.2.2.2.2.2.2.2 m (1 : Int32)) okX12_formula inX12_formula ml12_362 rfl rfl rfl rfl (by decide) (by decide) (Nat.le_of_ble_eq_true rfl) rfl dX12_readLine_143 (fun m22 hm22 => ?_)
                refine j_goto (tgt := 221) h dX12_readLine_146 (by decide) ?_
                refine j_wk (ls' := [some (.ref (G.2.2 0))]) (And.intro rfl trivial) ?_
                exact ih.2.2 m22
          · refine j_aload_n h dX12_readLine_114 rfl ?_
            refine j_iconst (v := (0 : Int32)) h dX12_readLine_115 kiconst_0 ?_
            refine j_callVV (q0 := 0) (ci := 12) h [.int (0 : Int32)] (kX12_formula _ G h.2.2.2.2.2.2.2.2.2.2 m (0 : Int32)) okX12_formula inX12_formula ml12_362 rfl rfl rfl rfl (by decide) (by decide) (Nat.le_of_ble_eq_true rfl) rfl dX12_readLine_116 (fun m24 hm24 => ?_)
            refine j_goto (tgt := 221) h dX12_readLine_119 (by decide) ?_
            refine j_wk (ls' := [some (.ref (G.2.2 0))]) (And.intro rfl trivial) ?_
            exact ih.2.2 m24
      · refine j_aload_n h dX12_readLine_88 rfl ?_
        refine j_callVV (q0 := 0) (ci := 12) h [] (kX12_readWakeful _ G h.2.2.2.2.2.2.2.2.2.2 m) okX12_readWakeful inX12_readWakeful ml12_359 rfl rfl rfl rfl (by decide) (by decide) (Nat.le_of_ble_eq_true rfl) rfl dX12_readLine_89 (fun m26 hm26 => ?_)
        refine j_goto (tgt := 221) h dX12_readLine_92 (by decide) ?_
        refine j_wk (ls' := [some (.ref (G.2.2 0))]) (And.intro rfl trivial) ?_
        exact ih.2.2 m26
    · intro m
      rw [gX12_readLine]
      refine j_aload_n h dX12_readLine_149 rfl ?_
      refine j_ldc2 (v := (1751216749 : Int64)) h dX12_readLine_150 cl12_224 ?_
      refine j_callVP (q0 := 0) (ci := 12) h [.long (1751216749 : Int64)] (kX12_isWord _ G h.2.2.2.2.2.2.2.2.2.2 m (1751216749 : Int64)) okX12_isWord inX12_isWord ml12_242 rfl rfl rfl rfl (by decide) (by decide) (Nat.le_of_ble_eq_true rfl) rfl dX12_readLine_153 (fun r1 hr1 => ?_)
      refine j_if_eq (tgt := 176) h dX12_readLine_156 (by decide) (fun c3 => ?_) (fun c3 => ?_)
      · refine j_aload_n h dX12_readLine_176 rfl ?_
        refine j_ldc2 (v := (1684108389 : Int64)) h dX12_readLine_177 cl12_226 ?_
        refine j_callVP (q0 := 0) (ci := 12) h [.long (1684108389 : Int64)] (kX12_isWord _ G h.2.2.2.2.2.2.2.2.2.2 m (1684108389 : Int64)) okX12_isWord inX12_isWord ml12_242 rfl rfl rfl rfl (by decide) (by decide) (Nat.le_of_ble_eq_true rfl) rfl dX12_readLine_180 (fun r4 hr4 => ?_)
        refine j_if_eq (tgt := 216) h dX12_readLine_183 (by decide) (fun c6 => ?_) (fun c6 => ?_)
        · refine j_aload_n h dX12_readLine_216 rfl ?_
          refine j_iconst (v := (2 : Int32)) h dX12_readLine_217 kiconst_2 ?_
          refine j_callVV (q0 := 0) (ci := 12) h [.int (2 : Int32)] (kX12_wrong _ G h.2.2.2.2.2.2.2.2.2.2 m (2 : Int32)) okX12_wrong inX12_wrong ml12_246 rfl rfl rfl rfl (by decide) (by decide) (Nat.le_of_ble_eq_true rfl) rfl dX12_readLine_218 (fun m8 hm8 => ?_)
          refine j_wk (ls' := [some (.ref (G.2.2 0))]) (And.intro rfl trivial) ?_
          exact ih.2.2 m8
        · refine j_aload_n h dX12_readLine_186 rfl ?_
          refine gM_54 h dX12_readLine_187 ?_
          refine j_if_ne (tgt := 216) h dX12_readLine_190 (by decide) (fun c9 => ?_) (fun c9 => ?_)
          · refine j_aload_n h dX12_readLine_216 rfl ?_
            refine j_iconst (v := (2 : Int32)) h dX12_readLine_217 kiconst_2 ?_
            refine j_callVV (q0 := 0) (ci := 12) h [.int (2 : Int32)] (kX12_wrong _ G h.2.2.2.2.2.2.2.2.2.2 m (2 : Int32)) okX12_wrong inX12_wrong ml12_246 rfl rfl rfl rfl (by decide) (by decide) (Nat.le_of_ble_eq_true rfl) rfl dX12_readLine_218 (fun m11 hm11 => ?_)
            refine j_wk (ls' := [some (.ref (G.2.2 0))]) (And.intro rfl trivial) ?_
            exact ih.2.2 m11
          · refine j_aload_n h dX12_readLine_193 rfl ?_
            refine j_iconst (v := (1 : Int32)) h dX12_readLine_194 kiconst_1 ?_
            refine pM_54 h rfl rfl dX12_readLine_195 (fun m12 hm12 => ?_)
            refine j_aload_n h dX12_readLine_198 rfl ?_
            refine j_aload_n h dX12_readLine_199 rfl ?_
            refine j_ldc2 (v := (1684108389 : Int64)) h dX12_readLine_200 cl12_226 ?_
            refine j_iconst (v := (0 : Int32)) h dX12_readLine_203 kiconst_0 ?_
            refine j_sipush (v := (364 : Int32)) h dX12_readLine_204 ksipush_364 ?_
            refine j_callVI (q0 := 0) (ci := 12) h [.long (1684108389 : Int64), .int (0 : Int32), .int (364 : Int32)] (kX12_told _ G h.2.2.2.2.2.2.2.2.2.2 m12 (1684108389 : Int64) (0 : Int32) (364 : Int32)) okX12_told inX12_told ml12_330 rfl rfl rfl rfl (by decide) (by decide) (Nat.le_of_ble_eq_true rfl) rfl dX12_readLine_207 (fun r13 m14 hr13 => ?_)
            refine pM_50 h dX12_readLine_210 (fun m15 hm15 => ?_)
            refine j_goto (tgt := 221) h dX12_readLine_213 (by decide) ?_
            refine j_wk (ls' := [some (.ref (G.2.2 0))]) (And.intro rfl trivial) ?_
            exact ih.2.2 m15
      · refine j_aload_n h dX12_readLine_159 rfl ?_
        refine gM_19 h dX12_readLine_160 ?_
        refine j_iconst (v := (2 : Int32)) h dX12_readLine_163 kiconst_2 ?_
        refine aM_11 h dX12_readLine_164 (fun v16 hv16 => ?_)
        refine j_if_ne (tgt := 176) h dX12_readLine_165 (by decide) (fun c17 => ?_) (fun c17 => ?_)
        · refine j_aload_n h dX12_readLine_176 rfl ?_
          refine j_ldc2 (v := (1684108389 : Int64)) h dX12_readLine_177 cl12_226 ?_
          refine j_callVP (q0 := 0) (ci := 12) h [.long (1684108389 : Int64)] (kX12_isWord _ G h.2.2.2.2.2.2.2.2.2.2 m (1684108389 : Int64)) okX12_isWord inX12_isWord ml12_242 rfl rfl rfl rfl (by decide) (by decide) (Nat.le_of_ble_eq_true rfl) rfl dX12_readLine_180 (fun r18 hr18 => ?_)
          refine j_if_eq (tgt := 216) h dX12_readLine_183 (by decide) (fun c20 => ?_) (fun c20 => ?_)
          · refine j_aload_n h dX12_readLine_216 rfl ?_
            refine j_iconst (v := (2 : Int32)) h dX12_readLine_217 kiconst_2 ?_
            refine j_callVV (q0 := 0) (ci := 12) h [.int (2 : Int32)] (kX12_wrong _ G h.2.2.2.2.2.2.2.2.2.2 m (2 : Int32)) okX12_wrong inX12_wrong ml12_246 rfl rfl rfl rfl (by decide) (by decide) (Nat.le_of_ble_eq_true rfl) rfl dX12_readLine_218 (fun m22 hm22 => ?_)
            refine j_wk (ls' := [some (.ref (G.2.2 0))]) (And.intro rfl trivial) ?_
            exact ih.2.2 m22
          · refine j_aload_n h dX12_readLine_186 rfl ?_
            refine gM_54 h dX12_readLine_187 ?_
            refine j_if_ne (tgt := 216) h dX12_readLine_190 (by decide) (fun c23 => ?_) (fun c23 => ?_)
            · refine j_aload_n h dX12_readLine_216 rfl ?_
              refine j_iconst (v := (2 : Int32)) h dX12_readLine_217 kiconst_2 ?_
              refine j_callVV (q0 := 0) (ci := 12) h [.int (2 : Int32)] (kX12_wrong _ G h.2.2.2.2.2.2.2.2.2.2 m (2 : Int32)) okX12_wrong inX12_wrong ml12_246 rfl rfl rfl rfl (by decide) (by decide) (Nat.le_of_ble_eq_true rfl) rfl dX12_readLine_218 (fun m25 hm25 => ?_)
              refine j_wk (ls' := [some (.ref (G.2.2 0))]) (And.intro rfl trivial) ?_
              exact ih.2.2 m25
            · refine j_aload_n h dX12_readLine_193 rfl ?_
              refine j_iconst (v := (1 : Int32)) h dX12_readLine_194 kiconst_1 ?_
              refine pM_54 h rfl rfl dX12_readLine_195 (fun m26 hm26 => ?_)
              refine j_aload_n h dX12_readLine_198 rfl ?_
              refine j_aload_n h dX12_readLine_199 rfl ?_
              refine j_ldc2 (v := (1684108389 : Int64)) h dX12_readLine_200 cl12_226 ?_
              refine j_iconst (v := (0 : Int32)) h dX12_readLine_203 kiconst_0 ?_
              refine j_sipush (v := (364 : Int32)) h dX12_readLine_204 ksipush_364 ?_
              refine j_callVI (q0 := 0) (ci := 12) h [.long (1684108389 : Int64), .int (0 : Int32), .int (364 : Int32)] (kX12_told _ G h.2.2.2.2.2.2.2.2.2.2 m26 (1684108389 : Int64) (0 : Int32) (364 : Int32)) okX12_told inX12_told ml12_330 rfl rfl rfl rfl (by decide) (by decide) (Nat.le_of_ble_eq_true rfl) rfl dX12_readLine_207 (fun r27 m28 hr27 => ?_)
              refine pM_50 h dX12_readLine_210 (fun m29 hm29 => ?_)
              refine j_goto (tgt := 221) h dX12_readLine_213 (by decide) ?_
              refine j_wk (ls' := [some (.ref (G.2.2 0))]) (And.intro rfl trivial) ?_
              exact ih.2.2 m29
        · refine j_aload_n h dX12_readLine_168 rfl ?_
          refine j_iconst (v := (2 : Int32)) h dX12_readLine_169 kiconst_2 ?_
          refine j_callVV (q0 := 0) (ci := 12) h [.int (2 : Int32)] (kX12_formula _ G h.2.2.2.2.2.2.2.2.2.2 m (2 : Int32)) okX12_formula inX12_formula ml12_362 rfl rfl rfl rfl (by decide) (by decide) (Nat.le_of_ble_eq_true rfl) rfl dX12_readLine_170 (fun m31 hm31 => ?_)
          refine j_goto (tgt := 221) h dX12_readLine_173 (by decide) ?_
          refine j_wk (ls' := [some (.ref (G.2.2 0))]) (And.intro rfl trivial) ?_
          exact ih.2.2 m31
    · intro m
      rw [gX12_readLine]
      refine j_aload_n h dX12_readLine_221 rfl ?_
      refine gM_2 h dX12_readLine_222 ?_
      refine j_if_ne (tgt := 242) h dX12_readLine_225 (by decide) (fun c1 => ?_) (fun c1 => ?_)
      · refine j_aload_n h dX12_readLine_242 rfl ?_
        refine gM_2 h dX12_readLine_243 ?_
        refine j_if_ne (tgt := 253) h dX12_readLine_246 (by decide) (fun c2 => ?_) (fun c2 => ?_)
        · exact j_vret h rfl dX12_readLine_253
        · refine j_aload_n h dX12_readLine_249 rfl ?_
          refine j_callVV (q0 := 0) (ci := 12) h [] (kX12_token _ G h.2.2.2.2.2.2.2.2.2.2 m) okX12_token inX12_token ml12_249 rfl rfl rfl rfl (by decide) (by decide) (Nat.le_of_ble_eq_true rfl) rfl dX12_readLine_250 (fun m4 hm4 => ?_)
          exact j_vret h rfl dX12_readLine_253
      · refine j_aload_n h dX12_readLine_228 rfl ?_
        refine gM_6 h dX12_readLine_229 ?_
        refine j_bipush (v := (59 : Int32)) h dX12_readLine_232 kbipush_59 ?_
        refine j_icmp_eq (tgt := 242) h dX12_readLine_234 (by decide) (fun c5 => ?_) (fun c5 => ?_)
        · refine j_aload_n h dX12_readLine_242 rfl ?_
          refine gM_2 h dX12_readLine_243 ?_
          refine j_if_ne (tgt := 253) h dX12_readLine_246 (by decide) (fun c6 => ?_) (fun c6 => ?_)
          · exact j_vret h rfl dX12_readLine_253
          · refine j_aload_n h dX12_readLine_249 rfl ?_
            refine j_callVV (q0 := 0) (ci := 12) h [] (kX12_token _ G h.2.2.2.2.2.2.2.2.2.2 m) okX12_token inX12_token ml12_249 rfl rfl rfl rfl (by decide) (by decide) (Nat.le_of_ble_eq_true rfl) rfl dX12_readLine_250 (fun m8 hm8 => ?_)
            exact j_vret h rfl dX12_readLine_253
        · refine j_aload_n h dX12_readLine_237 rfl ?_
          refine j_iconst (v := (2 : Int32)) h dX12_readLine_238 kiconst_2 ?_
          refine j_callVV (q0 := 0) (ci := 12) h [.int (2 : Int32)] (kX12_wrong _ G h.2.2.2.2.2.2.2.2.2.2 m (2 : Int32)) okX12_wrong inX12_wrong ml12_246 rfl rfl rfl rfl (by decide) (by decide) (Nat.le_of_ble_eq_true rfl) rfl dX12_readLine_239 (fun m10 hm10 => ?_)
          refine j_aload_n h dX12_readLine_242 rfl ?_
          refine gM_2 h dX12_readLine_243 ?_
          refine j_if_ne (tgt := 253) h dX12_readLine_246 (by decide) (fun c11 => ?_) (fun c11 => ?_)
          · exact j_vret h rfl dX12_readLine_253
          · refine j_aload_n h dX12_readLine_249 rfl ?_
            refine j_callVV (q0 := 0) (ci := 12) h [] (kX12_token _ G h.2.2.2.2.2.2.2.2.2.2 m10) okX12_token inX12_token ml12_249 rfl rfl rfl rfl (by decide) (by decide) (Nat.le_of_ble_eq_true rfl) rfl dX12_readLine_250 (fun m13 hm13 => ?_)
            exact j_vret h rfl dX12_readLine_253
set_option maxHeartbeats 4000000 in
set_option maxRecDepth 100000 in
theorem kX12_readLine (l : Launch) (G : Gt) (hD : ∀ m, va_D (inA G nM) (wM G m)) (m : Mem) : ∀ a, fX12_readLine m = some a → Ct l G wM nM yX12_readLine cX12_readLine 1 none 6 [.ref (G.2.2 0)] m (cvV a) := by
  refine ct_of (own := RX12) (ls0 := [some (.ref (G.2.2 0))]) (by decide) rfl rfl rfl (Nat.le_of_ble_eq_true rfl) hD (fun X h => ?_) l
  unfold fX12_readLine
  refine j_aload_n h dX12_readLine_0 rfl ?_
  refine j_ldc2 (v := (123581014175598 : Int64)) h dX12_readLine_1 cl12_200 ?_
  refine j_callVP (q0 := 0) (ci := 12) h [.long (123581014175598 : Int64)] (kX12_isWord _ G h.2.2.2.2.2.2.2.2.2.2 m (123581014175598 : Int64)) okX12_isWord inX12_isWord ml12_242 rfl rfl rfl rfl (by decide) (by decide) (Nat.le_of_ble_eq_true rfl) rfl dX12_readLine_4 (fun r1 hr1 => ?_)
  refine j_if_eq (tgt := 26) h dX12_readLine_7 (by decide) (fun c3 => ?_) (fun c3 => ?_)
  · refine j_aload_n h dX12_readLine_26 rfl ?_
    refine j_ldc2 (v := (1835361652 : Int64)) h dX12_readLine_27 cl12_208 ?_
    refine j_callVP (q0 := 0) (ci := 12) h [.long (1835361652 : Int64)] (kX12_isWord _ G h.2.2.2.2.2.2.2.2.2.2 m (1835361652 : Int64)) okX12_isWord inX12_isWord ml12_242 rfl rfl rfl rfl (by decide) (by decide) (Nat.le_of_ble_eq_true rfl) rfl dX12_readLine_30 (fun r4 hr4 => ?_)
    refine j_if_eq (tgt := 52) h dX12_readLine_33 (by decide) (fun c6 => ?_) (fun c6 => ?_)
    · refine j_aload_n h dX12_readLine_52 rfl ?_
      refine j_ldc2 (v := (474315584357 : Int64)) h dX12_readLine_53 cl12_214 ?_
      refine j_callVP (q0 := 0) (ci := 12) h [.long (474315584357 : Int64)] (kX12_isWord _ G h.2.2.2.2.2.2.2.2.2.2 m (474315584357 : Int64)) okX12_isWord inX12_isWord ml12_242 rfl rfl rfl rfl (by decide) (by decide) (Nat.le_of_ble_eq_true rfl) rfl dX12_readLine_56 (fun r7 hr7 => ?_)
      refine j_if_eq (tgt := 78) h dX12_readLine_59 (by decide) (fun c9 => ?_) (fun c9 => ?_)
      · refine j_wk (ls' := [some (.ref (G.2.2 0))]) (And.intro rfl trivial) ?_
        exact (wX12_readLine h 5000).1 m
      · refine j_aload_n h dX12_readLine_62 rfl ?_
        refine gM_49 h dX12_readLine_63 ?_
        refine j_bipush (v := (8 : Int32)) h dX12_readLine_66 kbipush_8 ?_
        refine j_icmp_ge (tgt := 78) h dX12_readLine_68 (by decide) (fun c10 => ?_) (fun c10 => ?_)
        · refine j_wk (ls' := [some (.ref (G.2.2 0))]) (And.intro rfl trivial) ?_
          exact (wX12_readLine h 5000).1 m
        · refine j_aload_n h dX12_readLine_71 rfl ?_
          refine j_callVV (q0 := 0) (ci := 12) h [] (kX12_readNoise _ G h.2.2.2.2.2.2.2.2.2.2 m) okX12_readNoise inX12_readNoise ml12_356 rfl rfl rfl rfl (by decide) (by decide) (Nat.le_of_ble_eq_true rfl) rfl dX12_readLine_72 (fun m12 hm12 => ?_)
          refine j_goto (tgt := 221) h dX12_readLine_75 (by decide) ?_
          refine j_wk (ls' := [some (.ref (G.2.2 0))]) (And.intro rfl trivial) ?_
          exact (wX12_readLine h 5000).2.2 m12
    · refine j_aload_n h dX12_readLine_36 rfl ?_
      refine gM_48 h dX12_readLine_37 ?_
      refine j_bipush (v := (10 : Int32)) h dX12_readLine_40 kbipush_10 ?_
      refine j_icmp_ge (tgt := 52) h dX12_readLine_42 (by decide) (fun c13 => ?_) (fun c13 => ?_)
      · refine j_aload_n h dX12_readLine_52 rfl ?_
        refine j_ldc2 (v := (474315584357 : Int64)) h dX12_readLine_53 cl12_214 ?_
        refine j_callVP (q0 := 0) (ci := 12) h [.long (474315584357 : Int64)] (kX12_isWord _ G h.2.2.2.2.2.2.2.2.2.2 m (474315584357 : Int64)) okX12_isWord inX12_isWord ml12_242 rfl rfl rfl rfl (by decide) (by decide) (Nat.le_of_ble_eq_true rfl) rfl dX12_readLine_56 (fun r14 hr14 => ?_)
        refine j_if_eq (tgt := 78) h dX12_readLine_59 (by decide) (fun c16 => ?_) (fun c16 => ?_)
        · refine j_wk (ls' := [some (.ref (G.2.2 0))]) (And.intro rfl trivial) ?_
          exact (wX12_readLine h 5000).1 m
        · refine j_aload_n h dX12_readLine_62 rfl ?_
          refine gM_49 h dX12_readLine_63 ?_
          refine j_bipush (v := (8 : Int32)) h dX12_readLine_66 kbipush_8 ?_
          refine j_icmp_ge (tgt := 78) h dX12_readLine_68 (by decide) (fun c17 => ?_) (fun c17 => ?_)
          · refine j_wk (ls' := [some (.ref (G.2.2 0))]) (And.intro rfl trivial) ?_
            exact (wX12_readLine h 5000).1 m
          · refine j_aload_n h dX12_readLine_71 rfl ?_
            refine j_callVV (q0 := 0) (ci := 12) h [] (kX12_readNoise _ G h.2.2.2.2.2.2.2.2.2.2 m) okX12_readNoise inX12_readNoise ml12_356 rfl rfl rfl rfl (by decide) (by decide) (Nat.le_of_ble_eq_true rfl) rfl dX12_readLine_72 (fun m19 hm19 => ?_)
            refine j_goto (tgt := 221) h dX12_readLine_75 (by decide) ?_
            refine j_wk (ls' := [some (.ref (G.2.2 0))]) (And.intro rfl trivial) ?_
            exact (wX12_readLine h 5000).2.2 m19
      · refine j_aload_n h dX12_readLine_45 rfl ?_
        refine j_callVV (q0 := 0) (ci := 12) h [] (kX12_readMeet _ G h.2.2.2.2.2.2.2.2.2.2 m) okX12_readMeet inX12_readMeet ml12_353 rfl rfl rfl rfl (by decide) (by decide) (Nat.le_of_ble_eq_true rfl) rfl dX12_readLine_46 (fun m21 hm21 => ?_)
        refine j_goto (tgt := 221) h dX12_readLine_49 (by decide) ?_
        refine j_wk (ls' := [some (.ref (G.2.2 0))]) (And.intro rfl trivial) ?_
        exact (wX12_readLine h 5000).2.2 m21
  · refine j_aload_n h dX12_readLine_10 rfl ?_
    refine gM_47 h dX12_readLine_11 ?_
    refine j_bipush (v := (7 : Int32)) h dX12_readLine_14 kbipush_7 ?_
    refine j_icmp_ge (tgt := 26) h dX12_readLine_16 (by decide) (fun c22 => ?_) (fun c22 => ?_)
    · refine j_aload_n h dX12_readLine_26 rfl ?_
      refine j_ldc2 (v := (1835361652 : Int64)) h dX12_readLine_27 cl12_208 ?_
      refine j_callVP (q0 := 0) (ci := 12) h [.long (1835361652 : Int64)] (kX12_isWord _ G h.2.2.2.2.2.2.2.2.2.2 m (1835361652 : Int64)) okX12_isWord inX12_isWord ml12_242 rfl rfl rfl rfl (by decide) (by decide) (Nat.le_of_ble_eq_true rfl) rfl dX12_readLine_30 (fun r23 hr23 => ?_)
      refine j_if_eq (tgt := 52) h dX12_readLine_33 (by decide) (fun c25 => ?_) (fun c25 => ?_)
      · refine j_aload_n h dX12_readLine_52 rfl ?_
        refine j_ldc2 (v := (474315584357 : Int64)) h dX12_readLine_53 cl12_214 ?_
        refine j_callVP (q0 := 0) (ci := 12) h [.long (474315584357 : Int64)] (kX12_isWord _ G h.2.2.2.2.2.2.2.2.2.2 m (474315584357 : Int64)) okX12_isWord inX12_isWord ml12_242 rfl rfl rfl rfl (by decide) (by decide) (Nat.le_of_ble_eq_true rfl) rfl dX12_readLine_56 (fun r26 hr26 => ?_)
        refine j_if_eq (tgt := 78) h dX12_readLine_59 (by decide) (fun c28 => ?_) (fun c28 => ?_)
        · refine j_wk (ls' := [some (.ref (G.2.2 0))]) (And.intro rfl trivial) ?_
          exact (wX12_readLine h 5000).1 m
        · refine j_aload_n h dX12_readLine_62 rfl ?_
          refine gM_49 h dX12_readLine_63 ?_
          refine j_bipush (v := (8 : Int32)) h dX12_readLine_66 kbipush_8 ?_
          refine j_icmp_ge (tgt := 78) h dX12_readLine_68 (by decide) (fun c29 => ?_) (fun c29 => ?_)
          · refine j_wk (ls' := [some (.ref (G.2.2 0))]) (And.intro rfl trivial) ?_
            exact (wX12_readLine h 5000).1 m
          · refine j_aload_n h dX12_readLine_71 rfl ?_
            refine j_callVV (q0 := 0) (ci := 12) h [] (kX12_readNoise _ G h.2.2.2.2.2.2.2.2.2.2 m) okX12_readNoise inX12_readNoise ml12_356 rfl rfl rfl rfl (by decide) (by decide) (Nat.le_of_ble_eq_true rfl) rfl dX12_readLine_72 (fun m31 hm31 => ?_)
            refine j_goto (tgt := 221) h dX12_readLine_75 (by decide) ?_
            refine j_wk (ls' := [some (.ref (G.2.2 0))]) (And.intro rfl trivial) ?_
            exact (wX12_readLine h 5000).2.2 m31
      · refine j_aload_n h dX12_readLine_36 rfl ?_
        refine gM_48 h dX12_readLine_37 ?_
        refine j_bipush (v := (10 : Int32)) h dX12_readLine_40 kbipush_10 ?_
        refine j_icmp_ge (tgt := 52) h dX12_readLine_42 (by decide) (fun c32 => ?_) (fun c32 => ?_)
        · refine j_aload_n h dX12_readLine_52 rfl ?_
          refine j_ldc2 (v := (474315584357 : Int64)) h dX12_readLine_53 cl12_214 ?_
          refine j_callVP (q0 := 0) (ci := 12) h [.long (474315584357 : Int64)] (kX12_isWord _ G h.2.2.2.2.2.2.2.2.2.2 m (474315584357 : Int64)) okX12_isWord inX12_isWord ml12_242 rfl rfl rfl rfl (by decide) (by decide) (Nat.le_of_ble_eq_true rfl) rfl dX12_readLine_56 (fun r33 hr33 => ?_)
          refine j_if_eq (tgt := 78) h dX12_readLine_59 (by decide) (fun c35 => ?_) (fun c35 => ?_)
          · refine j_wk (ls' := [some (.ref (G.2.2 0))]) (And.intro rfl trivial) ?_
            exact (wX12_readLine h 5000).1 m
          · refine j_aload_n h dX12_readLine_62 rfl ?_
            refine gM_49 h dX12_readLine_63 ?_
            refine j_bipush (v := (8 : Int32)) h dX12_readLine_66 kbipush_8 ?_
            refine j_icmp_ge (tgt := 78) h dX12_readLine_68 (by decide) (fun c36 => ?_) (fun c36 => ?_)
            · refine j_wk (ls' := [some (.ref (G.2.2 0))]) (And.intro rfl trivial) ?_
              exact (wX12_readLine h 5000).1 m
            · refine j_aload_n h dX12_readLine_71 rfl ?_
              refine j_callVV (q0 := 0) (ci := 12) h [] (kX12_readNoise _ G h.2.2.2.2.2.2.2.2.2.2 m) okX12_readNoise inX12_readNoise ml12_356 rfl rfl rfl rfl (by decide) (by decide) (Nat.le_of_ble_eq_true rfl) rfl dX12_readLine_72 (fun m38 hm38 => ?_)
              refine j_goto (tgt := 221) h dX12_readLine_75 (by decide) ?_
              refine j_wk (ls' := [some (.ref (G.2.2 0))]) (And.intro rfl trivial) ?_
              exact (wX12_readLine h 5000).2.2 m38
        · refine j_aload_n h dX12_readLine_45 rfl ?_
          refine j_callVV (q0 := 0) (ci := 12) h [] (kX12_readMeet _ G h.2.2.2.2.2.2.2.2.2.2 m) okX12_readMeet inX12_readMeet ml12_353 rfl rfl rfl rfl (by decide) (by decide) (Nat.le_of_ble_eq_true rfl) rfl dX12_readLine_46 (fun m40 hm40 => ?_)
          refine j_goto (tgt := 221) h dX12_readLine_49 (by decide) ?_
          refine j_wk (ls' := [some (.ref (G.2.2 0))]) (And.intro rfl trivial) ?_
          exact (wX12_readLine h 5000).2.2 m40
    · refine j_aload_n h dX12_readLine_19 rfl ?_
      refine j_callVV (q0 := 0) (ci := 12) h [] (kX12_readPerson _ G h.2.2.2.2.2.2.2.2.2.2 m) okX12_readPerson inX12_readPerson ml12_350 rfl rfl rfl rfl (by decide) (by decide) (Nat.le_of_ble_eq_true rfl) rfl dX12_readLine_20 (fun m42 hm42 => ?_)
      refine j_goto (tgt := 221) h dX12_readLine_23 (by decide) ?_
      refine j_wk (ls' := [some (.ref (G.2.2 0))]) (And.intro rfl trivial) ?_
      exact (wX12_readLine h 5000).2.2 m42
theorem dX12_readAll_0 : DD cX12_readAll 0 (.aload_n 0) 1 1 := ⟨by decide +kernel, rfl⟩
theorem dX12_readAll_1 : DD cX12_readAll 1 (.aload_n 0) 1 2 := ⟨by decide +kernel, rfl⟩
theorem dX12_readAll_2 : DD cX12_readAll 2 (.getfield 157) 3 5 := ⟨by decide +kernel, rfl⟩
theorem dX12_readAll_5 : DD cX12_readAll 5 (.putfield 167) 3 8 := ⟨by decide +kernel, rfl⟩
theorem dX12_readAll_8 : DD cX12_readAll 8 (.aload_n 0) 1 9 := ⟨by decide +kernel, rfl⟩
theorem dX12_readAll_9 : DD cX12_readAll 9 (.iconst 0) 1 10 := ⟨by decide +kernel, rfl⟩
theorem dX12_readAll_10 : DD cX12_readAll 10 (.putfield 157) 3 13 := ⟨by decide +kernel, rfl⟩
theorem dX12_readAll_13 : DD cX12_readAll 13 (.aload_n 0) 1 14 := ⟨by decide +kernel, rfl⟩
theorem dX12_readAll_14 : DD cX12_readAll 14 (.iconst 0) 1 15 := ⟨by decide +kernel, rfl⟩
theorem dX12_readAll_15 : DD cX12_readAll 15 (.putfield 164) 3 18 := ⟨by decide +kernel, rfl⟩
theorem dX12_readAll_18 : DD cX12_readAll 18 (.aload_n 0) 1 19 := ⟨by decide +kernel, rfl⟩
theorem dX12_readAll_19 : DD cX12_readAll 19 (.iconst 0) 1 20 := ⟨by decide +kernel, rfl⟩
theorem dX12_readAll_20 : DD cX12_readAll 20 (.putfield 197) 3 23 := ⟨by decide +kernel, rfl⟩
theorem dX12_readAll_23 : DD cX12_readAll 23 (.aload_n 0) 1 24 := ⟨by decide +kernel, rfl⟩
theorem dX12_readAll_24 : DD cX12_readAll 24 (.iconst (-1)) 1 25 := ⟨by decide +kernel, rfl⟩
theorem dX12_readAll_25 : DD cX12_readAll 25 (.putfield 13) 3 28 := ⟨by decide +kernel, rfl⟩
theorem dX12_readAll_28 : DD cX12_readAll 28 (.aload_n 0) 1 29 := ⟨by decide +kernel, rfl⟩
theorem dX12_readAll_29 : DD cX12_readAll 29 (.iconst 0) 1 30 := ⟨by decide +kernel, rfl⟩
theorem dX12_readAll_30 : DD cX12_readAll 30 (.putfield 260) 3 33 := ⟨by decide +kernel, rfl⟩
theorem dX12_readAll_33 : DD cX12_readAll 33 (.aload_n 0) 1 34 := ⟨by decide +kernel, rfl⟩
theorem dX12_readAll_34 : DD cX12_readAll 34 (.iconst 0) 1 35 := ⟨by decide +kernel, rfl⟩
theorem dX12_readAll_35 : DD cX12_readAll 35 (.putfield 334) 3 38 := ⟨by decide +kernel, rfl⟩
theorem dX12_readAll_38 : DD cX12_readAll 38 (.aload_n 0) 1 39 := ⟨by decide +kernel, rfl⟩
theorem dX12_readAll_39 : DD cX12_readAll 39 (.iconst 0) 1 40 := ⟨by decide +kernel, rfl⟩
theorem dX12_readAll_40 : DD cX12_readAll 40 (.putfield 344) 3 43 := ⟨by decide +kernel, rfl⟩
theorem dX12_readAll_43 : DD cX12_readAll 43 (.aload_n 0) 1 44 := ⟨by decide +kernel, rfl⟩
theorem dX12_readAll_44 : DD cX12_readAll 44 (.iconst 0) 1 45 := ⟨by decide +kernel, rfl⟩
theorem dX12_readAll_45 : DD cX12_readAll 45 (.putfield 369) 3 48 := ⟨by decide +kernel, rfl⟩
theorem dX12_readAll_48 : DD cX12_readAll 48 (.aload_n 0) 1 49 := ⟨by decide +kernel, rfl⟩
theorem dX12_readAll_49 : DD cX12_readAll 49 (.iconst 0) 1 50 := ⟨by decide +kernel, rfl⟩
theorem dX12_readAll_50 : DD cX12_readAll 50 (.putfield 365) 3 53 := ⟨by decide +kernel, rfl⟩
theorem dX12_readAll_53 : DD cX12_readAll 53 (.iconst 0) 1 54 := ⟨by decide +kernel, rfl⟩
theorem dX12_readAll_54 : DD cX12_readAll 54 (.istore_n 1) 1 55 := ⟨by decide +kernel, rfl⟩
theorem dX12_readAll_55 : DD cX12_readAll 55 (.iload_n 1) 1 56 := ⟨by decide +kernel, rfl⟩
theorem dX12_readAll_56 : DD cX12_readAll 56 (.iconst 3) 1 57 := ⟨by decide +kernel, rfl⟩
theorem dX12_readAll_57 : DD cX12_readAll 57 (.if_icmp .ge 16) 3 60 := ⟨by decide +kernel, rfl⟩
theorem dX12_readAll_60 : DD cX12_readAll 60 (.aload_n 0) 1 61 := ⟨by decide +kernel, rfl⟩
theorem dX12_readAll_61 : DD cX12_readAll 61 (.getfield 45) 3 64 := ⟨by decide +kernel, rfl⟩
theorem dX12_readAll_64 : DD cX12_readAll 64 (.iload_n 1) 1 65 := ⟨by decide +kernel, rfl⟩
theorem dX12_readAll_65 : DD cX12_readAll 65 (.iconst 0) 1 66 := ⟨by decide +kernel, rfl⟩
theorem dX12_readAll_66 : DD cX12_readAll 66 (.bastore) 1 67 := ⟨by decide +kernel, rfl⟩
theorem dX12_readAll_67 : DD cX12_readAll 67 (.iinc 1 1) 3 70 := ⟨by decide +kernel, rfl⟩
theorem dX12_readAll_70 : DD cX12_readAll 70 (.goto (-15)) 3 73 := ⟨by decide +kernel, rfl⟩
theorem dX12_readAll_73 : DD cX12_readAll 73 (.aload_n 0) 1 74 := ⟨by decide +kernel, rfl⟩
theorem dX12_readAll_74 : DD cX12_readAll 74 (.iconst 0) 1 75 := ⟨by decide +kernel, rfl⟩
theorem dX12_readAll_75 : DD cX12_readAll 75 (.putfield 286) 3 78 := ⟨by decide +kernel, rfl⟩
theorem dX12_readAll_78 : DD cX12_readAll 78 (.aload_n 0) 1 79 := ⟨by decide +kernel, rfl⟩
theorem dX12_readAll_79 : DD cX12_readAll 79 (.invokevirtual 249) 3 82 := ⟨by decide +kernel, rfl⟩
theorem dX12_readAll_82 : DD cX12_readAll 82 (.aload_n 0) 1 83 := ⟨by decide +kernel, rfl⟩
theorem dX12_readAll_83 : DD cX12_readAll 83 (.getfield 197) 3 86 := ⟨by decide +kernel, rfl⟩
theorem dX12_readAll_86 : DD cX12_readAll 86 (.ifCond .ne 17) 3 89 := ⟨by decide +kernel, rfl⟩
theorem dX12_readAll_89 : DD cX12_readAll 89 (.aload_n 0) 1 90 := ⟨by decide +kernel, rfl⟩
theorem dX12_readAll_90 : DD cX12_readAll 90 (.getfield 184) 3 93 := ⟨by decide +kernel, rfl⟩
theorem dX12_readAll_93 : DD cX12_readAll 93 (.ifCond .eq 10) 3 96 := ⟨by decide +kernel, rfl⟩
theorem dX12_readAll_96 : DD cX12_readAll 96 (.aload_n 0) 1 97 := ⟨by decide +kernel, rfl⟩
theorem dX12_readAll_97 : DD cX12_readAll 97 (.invokevirtual 372) 3 100 := ⟨by decide +kernel, rfl⟩
theorem dX12_readAll_100 : DD cX12_readAll 100 (.goto (-18)) 3 103 := ⟨by decide +kernel, rfl⟩
theorem dX12_readAll_103 : DD cX12_readAll 103 (.return_) 1 104 := ⟨by decide +kernel, rfl⟩
def gX12_readAll : Nat → Nat → Int32 → Mem → Option Mem
  | 0, _, _, _ => none
  | f + 1, 0, x1, m => (if (3 : Int32) ≤ x1 then (pt (sI m 0 23 (0 : Int32)) fun m2 => (cV (fX12_token m2) fun m4 => (gX12_readAll f 1 0 m4))) else (wr m 11 3 x1 (vp_nar .boolean (0 : Int32)) fun m5 => (gX12_readAll f 0 (x1 + (1 : Int32)) m5)))
  | f + 1, 1, x1, m => (if (m.1 0 2) = 0 then (if (m.1 0 6) = 0 then (some m) else (cV (fX12_readLine m) fun m4 => (gX12_readAll f 1 0 m4))) else (some m))
  | _ + 1, _ + 2, _, _ => none
def fX12_readAll (m : Mem) : Option Mem := (pt (sI m 0 5 (m.1 0 1)) fun m1 => (pt (sI m1 0 1 (0 : Int32)) fun m2 => (pt (sI m2 0 4 (0 : Int32)) fun m3 => (pt (sI m3 0 2 (0 : Int32)) fun m4 => (pt (sI m4 0 3 (-1 : Int32)) fun m5 => (pt (sI m5 0 47 (0 : Int32)) fun m6 => (pt (sI m6 0 48 (0 : Int32)) fun m7 => (pt (sI m7 0 49 (0 : Int32)) fun m8 => (pt (sI m8 0 50 (0 : Int32)) fun m9 => (pt (sI m9 0 54 (0 : Int32)) fun m10 => (gX12_readAll 5000 0 (0 : Int32) m10)))))))))))
set_option maxHeartbeats 4000000 in
set_option maxRecDepth 100000 in
theorem wX12_readAll {X : Cx} {G : Gt} (h : OkX (X, G, wM, nM) cX12_readAll RX12 2 none 7) : ∀ f : Nat, (∀ (x1 : Int32) (m : Mem), JR (X, G, wM, nM) cvV m 55 [some (.ref (G.2.2 0)), some (.int x1)] [] (gX12_readAll f 0 x1 m)) ∧ (∀ (x1 : Int32) (m : Mem), JR (X, G, wM, nM) cvV m 82 [some (.ref (G.2.2 0)), none] [] (gX12_readAll f 1 x1 m)) := by
  intro f
  induction f with
  | zero => exact ⟨(fun _ _ => j_none), (fun _ _ => j_none)⟩
  | succ f ih =>
    refine ⟨?_, ?_⟩
    · intro x1 m
      rw [gX12_readAll]
      refine j_iload_n h dX12_readAll_55 rfl ?_
      refine j_iconst (v := (3 : Int32)) h dX12_readAll_56 kiconst_3 ?_
      refine j_icmp_ge (tgt := 73) h dX12_readAll_57 (by decide) (fun c1 => ?_) (fun c1 => ?_)
      · refine j_aload_n h dX12_readAll_73 rfl ?_
        refine j_iconst (v := (0 : Int32)) h dX12_readAll_74 kiconst_0 ?_
        refine pM_23 h dX12_readAll_75 (fun m2 hm2 => ?_)
        refine j_aload_n h dX12_readAll_78 rfl ?_
        refine j_callVV (q0 := 0) (ci := 12) h [] (kX12_token _ G h.2.2.2.2.2.2.2.2.2.2 m2) okX12_token inX12_token ml12_249 rfl rfl rfl rfl (by decide) (by decide) (Nat.le_of_ble_eq_true rfl) rfl dX12_readAll_79 (fun m4 hm4 => ?_)
        refine j_wk (ls' := [some (.ref (G.2.2 0)), none]) (And.intro rfl trivial) ?_
        exact ih.2 0 m4
      · refine j_aload_n h dX12_readAll_60 rfl ?_
        refine gM_19 h dX12_readAll_61 ?_
        refine j_iload_n h dX12_readAll_64 rfl ?_
        refine j_iconst (v := (0 : Int32)) h dX12_readAll_65 kiconst_0 ?_
        refine bM_11 h dX12_readAll_66 (fun m5 hm5 => ?_)
        refine j_iinc (v := (x1 + (1 : Int32))) h dX12_readAll_67 rfl (by rw [kiconst_1]) rfl ?_
        refine j_goto (tgt := 55) h dX12_readAll_70 (by decide) ?_
        refine j_wk (ls' := [some (.ref (G.2.2 0)), some (.int (x1 + (1 : Int32)))]) (And.intro rfl (And.intro rfl trivial)) ?_
        exact ih.1 (x1 + (1 : Int32)) m5
    · intro x1 m
      rw [gX12_readAll]
      refine j_aload_n h dX12_readAll_82 rfl ?_
      refine gM_2 h dX12_readAll_83 ?_
      refine j_if_ne (tgt := 103) h dX12_readAll_86 (by decide) (fun c1 => ?_) (fun c1 => ?_)
      · exact j_vret h rfl dX12_readAll_103
      · refine j_aload_n h dX12_readAll_89 rfl ?_
        refine gM_6 h dX12_readAll_90 ?_
        refine j_if_eq (tgt := 103) h dX12_readAll_93 (by decide) (fun c2 => ?_) (fun c2 => ?_)
        · exact j_vret h rfl dX12_readAll_103
        · refine j_aload_n h dX12_readAll_96 rfl ?_
          refine j_callVV (q0 := 0) (ci := 12) h [] (kX12_readLine _ G h.2.2.2.2.2.2.2.2.2.2 m) okX12_readLine inX12_readLine ml12_372 rfl rfl rfl rfl (by decide) (by decide) (Nat.le_of_ble_eq_true rfl) rfl dX12_readAll_97 (fun m4 hm4 => ?_)
          refine j_goto (tgt := 82) h dX12_readAll_100 (by decide) ?_
          refine j_wk (ls' := [some (.ref (G.2.2 0)), none]) (And.intro rfl trivial) ?_
          exact ih.2 0 m4
set_option maxHeartbeats 4000000 in
set_option maxRecDepth 100000 in
theorem kX12_readAll (l : Launch) (G : Gt) (hD : ∀ m, va_D (inA G nM) (wM G m)) (m : Mem) : ∀ a, fX12_readAll m = some a → Ct l G wM nM yX12_readAll cX12_readAll 2 none 7 [.ref (G.2.2 0)] m (cvV a) := by
  refine ct_of (own := RX12) (ls0 := [some (.ref (G.2.2 0)), none]) (by decide) rfl rfl rfl (Nat.le_of_ble_eq_true rfl) hD (fun X h => ?_) l
  unfold fX12_readAll
  refine j_aload_n h dX12_readAll_0 rfl ?_
  refine j_aload_n h dX12_readAll_1 rfl ?_
  refine gM_1 h dX12_readAll_2 ?_
  refine pM_5 h dX12_readAll_5 (fun m1 hm1 => ?_)
  refine j_aload_n h dX12_readAll_8 rfl ?_
  refine j_iconst (v := (0 : Int32)) h dX12_readAll_9 kiconst_0 ?_
  refine pM_1 h dX12_readAll_10 (fun m2 hm2 => ?_)
  refine j_aload_n h dX12_readAll_13 rfl ?_
  refine j_iconst (v := (0 : Int32)) h dX12_readAll_14 kiconst_0 ?_
  refine pM_4 h dX12_readAll_15 (fun m3 hm3 => ?_)
  refine j_aload_n h dX12_readAll_18 rfl ?_
  refine j_iconst (v := (0 : Int32)) h dX12_readAll_19 kiconst_0 ?_
  refine pM_2 h dX12_readAll_20 (fun m4 hm4 => ?_)
  refine j_aload_n h dX12_readAll_23 rfl ?_
  refine j_iconst (v := (-1 : Int32)) h dX12_readAll_24 kiconst_m1 ?_
  refine pM_3 h dX12_readAll_25 (fun m5 hm5 => ?_)
  refine j_aload_n h dX12_readAll_28 rfl ?_
  refine j_iconst (v := (0 : Int32)) h dX12_readAll_29 kiconst_0 ?_
  refine pM_47 h dX12_readAll_30 (fun m6 hm6 => ?_)
  refine j_aload_n h dX12_readAll_33 rfl ?_
  refine j_iconst (v := (0 : Int32)) h dX12_readAll_34 kiconst_0 ?_
  refine pM_48 h dX12_readAll_35 (fun m7 hm7 => ?_)
  refine j_aload_n h dX12_readAll_38 rfl ?_
  refine j_iconst (v := (0 : Int32)) h dX12_readAll_39 kiconst_0 ?_
  refine pM_49 h dX12_readAll_40 (fun m8 hm8 => ?_)
  refine j_aload_n h dX12_readAll_43 rfl ?_
  refine j_iconst (v := (0 : Int32)) h dX12_readAll_44 kiconst_0 ?_
  refine pM_50 h dX12_readAll_45 (fun m9 hm9 => ?_)
  refine j_aload_n h dX12_readAll_48 rfl ?_
  refine j_iconst (v := (0 : Int32)) h dX12_readAll_49 kiconst_0 ?_
  refine pM_54 h rfl rfl dX12_readAll_50 (fun m10 hm10 => ?_)
  refine j_iconst (v := (0 : Int32)) h dX12_readAll_53 kiconst_0 ?_
  refine j_istore_n h dX12_readAll_54 rfl rfl ?_
  refine j_wk (ls' := [some (.ref (G.2.2 0)), some (.int (0 : Int32))]) (And.intro rfl (And.intro rfl trivial)) ?_
  exact (wX12_readAll h 5000).1 (0 : Int32) m10
theorem dX12_town_0 : DD cX12_town 0 (.aload_n 0) 1 1 := ⟨by decide +kernel, rfl⟩
theorem dX12_town_1 : DD cX12_town 1 (.invokevirtual 375) 3 4 := ⟨by decide +kernel, rfl⟩
theorem dX12_town_4 : DD cX12_town 4 (.aload_n 0) 1 5 := ⟨by decide +kernel, rfl⟩
theorem dX12_town_5 : DD cX12_town 5 (.getfield 197) 3 8 := ⟨by decide +kernel, rfl⟩
theorem dX12_town_8 : DD cX12_town 8 (.ifCond .le 5) 3 11 := ⟨by decide +kernel, rfl⟩
theorem dX12_town_11 : DD cX12_town 11 (.iconst (-1)) 1 12 := ⟨by decide +kernel, rfl⟩
theorem dX12_town_12 : DD cX12_town 12 (.ireturn) 1 13 := ⟨by decide +kernel, rfl⟩
theorem dX12_town_13 : DD cX12_town 13 (.aload_n 0) 1 14 := ⟨by decide +kernel, rfl⟩
theorem dX12_town_14 : DD cX12_town 14 (.aload_n 0) 1 15 := ⟨by decide +kernel, rfl⟩
theorem dX12_town_15 : DD cX12_town 15 (.getfield 260) 3 18 := ⟨by decide +kernel, rfl⟩
theorem dX12_town_18 : DD cX12_town 18 (.putfield 378) 3 21 := ⟨by decide +kernel, rfl⟩
theorem dX12_town_21 : DD cX12_town 21 (.aload_n 0) 1 22 := ⟨by decide +kernel, rfl⟩
theorem dX12_town_22 : DD cX12_town 22 (.aload_n 0) 1 23 := ⟨by decide +kernel, rfl⟩
theorem dX12_town_23 : DD cX12_town 23 (.getfield 334) 3 26 := ⟨by decide +kernel, rfl⟩
theorem dX12_town_26 : DD cX12_town 26 (.putfield 381) 3 29 := ⟨by decide +kernel, rfl⟩
theorem dX12_town_29 : DD cX12_town 29 (.aload_n 0) 1 30 := ⟨by decide +kernel, rfl⟩
theorem dX12_town_30 : DD cX12_town 30 (.aload_n 0) 1 31 := ⟨by decide +kernel, rfl⟩
theorem dX12_town_31 : DD cX12_town 31 (.getfield 344) 3 34 := ⟨by decide +kernel, rfl⟩
theorem dX12_town_34 : DD cX12_town 34 (.putfield 384) 3 37 := ⟨by decide +kernel, rfl⟩
theorem dX12_town_37 : DD cX12_town 37 (.aload_n 0) 1 38 := ⟨by decide +kernel, rfl⟩
theorem dX12_town_38 : DD cX12_town 38 (.aload_n 0) 1 39 := ⟨by decide +kernel, rfl⟩
theorem dX12_town_39 : DD cX12_town 39 (.getfield 286) 3 42 := ⟨by decide +kernel, rfl⟩
theorem dX12_town_42 : DD cX12_town 42 (.putfield 387) 3 45 := ⟨by decide +kernel, rfl⟩
theorem dX12_town_45 : DD cX12_town 45 (.iconst 0) 1 46 := ⟨by decide +kernel, rfl⟩
theorem dX12_town_46 : DD cX12_town 46 (.istore_n 1) 1 47 := ⟨by decide +kernel, rfl⟩
theorem dX12_town_47 : DD cX12_town 47 (.iload_n 1) 1 48 := ⟨by decide +kernel, rfl⟩
theorem dX12_town_48 : DD cX12_town 48 (.iconst 3) 1 49 := ⟨by decide +kernel, rfl⟩
theorem dX12_town_49 : DD cX12_town 49 (.if_icmp .ge 98) 3 52 := ⟨by decide +kernel, rfl⟩
theorem dX12_town_52 : DD cX12_town 52 (.aload_n 0) 1 53 := ⟨by decide +kernel, rfl⟩
theorem dX12_town_53 : DD cX12_town 53 (.getfield 49) 3 56 := ⟨by decide +kernel, rfl⟩
theorem dX12_town_56 : DD cX12_town 56 (.iload_n 1) 1 57 := ⟨by decide +kernel, rfl⟩
theorem dX12_town_57 : DD cX12_town 57 (.aload_n 0) 1 58 := ⟨by decide +kernel, rfl⟩
theorem dX12_town_58 : DD cX12_town 58 (.getfield 45) 3 61 := ⟨by decide +kernel, rfl⟩
theorem dX12_town_61 : DD cX12_town 61 (.iload_n 1) 1 62 := ⟨by decide +kernel, rfl⟩
theorem dX12_town_62 : DD cX12_town 62 (.baload) 1 63 := ⟨by decide +kernel, rfl⟩
theorem dX12_town_63 : DD cX12_town 63 (.bastore) 1 64 := ⟨by decide +kernel, rfl⟩
theorem dX12_town_64 : DD cX12_town 64 (.aload_n 0) 1 65 := ⟨by decide +kernel, rfl⟩
theorem dX12_town_65 : DD cX12_town 65 (.getfield 36) 3 68 := ⟨by decide +kernel, rfl⟩
theorem dX12_town_68 : DD cX12_town 68 (.iload_n 1) 1 69 := ⟨by decide +kernel, rfl⟩
theorem dX12_town_69 : DD cX12_town 69 (.aload_n 0) 1 70 := ⟨by decide +kernel, rfl⟩
theorem dX12_town_70 : DD cX12_town 70 (.getfield 49) 3 73 := ⟨by decide +kernel, rfl⟩
theorem dX12_town_73 : DD cX12_town 73 (.iload_n 1) 1 74 := ⟨by decide +kernel, rfl⟩
theorem dX12_town_74 : DD cX12_town 74 (.baload) 1 75 := ⟨by decide +kernel, rfl⟩
theorem dX12_town_75 : DD cX12_town 75 (.ifCond .eq 12) 3 78 := ⟨by decide +kernel, rfl⟩
theorem dX12_town_78 : DD cX12_town 78 (.aload_n 0) 1 79 := ⟨by decide +kernel, rfl⟩
theorem dX12_town_79 : DD cX12_town 79 (.getfield 27) 3 82 := ⟨by decide +kernel, rfl⟩
theorem dX12_town_82 : DD cX12_town 82 (.iload_n 1) 1 83 := ⟨by decide +kernel, rfl⟩
theorem dX12_town_83 : DD cX12_town 83 (.iaload) 1 84 := ⟨by decide +kernel, rfl⟩
theorem dX12_town_84 : DD cX12_town 84 (.goto 4) 3 87 := ⟨by decide +kernel, rfl⟩
theorem dX12_town_87 : DD cX12_town 87 (.iconst 0) 1 88 := ⟨by decide +kernel, rfl⟩
theorem dX12_town_88 : DD cX12_town 88 (.iastore) 1 89 := ⟨by decide +kernel, rfl⟩
theorem dX12_town_89 : DD cX12_town 89 (.sipush 320) 3 92 := ⟨by decide +kernel, rfl⟩
theorem dX12_town_92 : DD cX12_town 92 (.iload_n 1) 1 93 := ⟨by decide +kernel, rfl⟩
theorem dX12_town_93 : DD cX12_town 93 (.imul) 1 94 := ⟨by decide +kernel, rfl⟩
theorem dX12_town_94 : DD cX12_town 94 (.istore_n 2) 1 95 := ⟨by decide +kernel, rfl⟩
theorem dX12_town_95 : DD cX12_town 95 (.iload_n 2) 1 96 := ⟨by decide +kernel, rfl⟩
theorem dX12_town_96 : DD cX12_town 96 (.sipush 320) 3 99 := ⟨by decide +kernel, rfl⟩
theorem dX12_town_99 : DD cX12_town 99 (.iload_n 1) 1 100 := ⟨by decide +kernel, rfl⟩
theorem dX12_town_100 : DD cX12_town 100 (.imul) 1 101 := ⟨by decide +kernel, rfl⟩
theorem dX12_town_101 : DD cX12_town 101 (.aload_n 0) 1 102 := ⟨by decide +kernel, rfl⟩
theorem dX12_town_102 : DD cX12_town 102 (.getfield 36) 3 105 := ⟨by decide +kernel, rfl⟩
theorem dX12_town_105 : DD cX12_town 105 (.iload_n 1) 1 106 := ⟨by decide +kernel, rfl⟩
theorem dX12_town_106 : DD cX12_town 106 (.iaload) 1 107 := ⟨by decide +kernel, rfl⟩
theorem dX12_town_107 : DD cX12_town 107 (.iadd) 1 108 := ⟨by decide +kernel, rfl⟩
theorem dX12_town_108 : DD cX12_town 108 (.if_icmp .ge 33) 3 111 := ⟨by decide +kernel, rfl⟩
theorem dX12_town_111 : DD cX12_town 111 (.aload_n 0) 1 112 := ⟨by decide +kernel, rfl⟩
theorem dX12_town_112 : DD cX12_town 112 (.getfield 30) 3 115 := ⟨by decide +kernel, rfl⟩
theorem dX12_town_115 : DD cX12_town 115 (.iload_n 2) 1 116 := ⟨by decide +kernel, rfl⟩
theorem dX12_town_116 : DD cX12_town 116 (.aload_n 0) 1 117 := ⟨by decide +kernel, rfl⟩
theorem dX12_town_117 : DD cX12_town 117 (.getfield 21) 3 120 := ⟨by decide +kernel, rfl⟩
theorem dX12_town_120 : DD cX12_town 120 (.iload_n 2) 1 121 := ⟨by decide +kernel, rfl⟩
theorem dX12_town_121 : DD cX12_town 121 (.iaload) 1 122 := ⟨by decide +kernel, rfl⟩
theorem dX12_town_122 : DD cX12_town 122 (.iastore) 1 123 := ⟨by decide +kernel, rfl⟩
theorem dX12_town_123 : DD cX12_town 123 (.aload_n 0) 1 124 := ⟨by decide +kernel, rfl⟩
theorem dX12_town_124 : DD cX12_town 124 (.getfield 33) 3 127 := ⟨by decide +kernel, rfl⟩
theorem dX12_town_127 : DD cX12_town 127 (.iload_n 2) 1 128 := ⟨by decide +kernel, rfl⟩
theorem dX12_town_128 : DD cX12_town 128 (.aload_n 0) 1 129 := ⟨by decide +kernel, rfl⟩
theorem dX12_town_129 : DD cX12_town 129 (.getfield 24) 3 132 := ⟨by decide +kernel, rfl⟩
theorem dX12_town_132 : DD cX12_town 132 (.iload_n 2) 1 133 := ⟨by decide +kernel, rfl⟩
theorem dX12_town_133 : DD cX12_town 133 (.iaload) 1 134 := ⟨by decide +kernel, rfl⟩
theorem dX12_town_134 : DD cX12_town 134 (.iastore) 1 135 := ⟨by decide +kernel, rfl⟩
theorem dX12_town_135 : DD cX12_town 135 (.iinc 2 1) 3 138 := ⟨by decide +kernel, rfl⟩
theorem dX12_town_138 : DD cX12_town 138 (.goto (-43)) 3 141 := ⟨by decide +kernel, rfl⟩
theorem dX12_town_141 : DD cX12_town 141 (.iinc 1 1) 3 144 := ⟨by decide +kernel, rfl⟩
theorem dX12_town_144 : DD cX12_town 144 (.goto (-97)) 3 147 := ⟨by decide +kernel, rfl⟩
theorem dX12_town_147 : DD cX12_town 147 (.iconst 0) 1 148 := ⟨by decide +kernel, rfl⟩
theorem dX12_town_148 : DD cX12_town 148 (.istore_n 1) 1 149 := ⟨by decide +kernel, rfl⟩
theorem dX12_town_149 : DD cX12_town 149 (.iload_n 1) 1 150 := ⟨by decide +kernel, rfl⟩
theorem dX12_town_150 : DD cX12_town 150 (.bipush 37) 2 152 := ⟨by decide +kernel, rfl⟩
theorem dX12_town_152 : DD cX12_town 152 (.if_icmp .ge 16) 3 155 := ⟨by decide +kernel, rfl⟩
theorem dX12_town_155 : DD cX12_town 155 (.aload_n 0) 1 156 := ⟨by decide +kernel, rfl⟩
theorem dX12_town_156 : DD cX12_town 156 (.getfield 112) 3 159 := ⟨by decide +kernel, rfl⟩
theorem dX12_town_159 : DD cX12_town 159 (.iload_n 1) 1 160 := ⟨by decide +kernel, rfl⟩
theorem dX12_town_160 : DD cX12_town 160 (.iconst 0) 1 161 := ⟨by decide +kernel, rfl⟩
theorem dX12_town_161 : DD cX12_town 161 (.iastore) 1 162 := ⟨by decide +kernel, rfl⟩
theorem dX12_town_162 : DD cX12_town 162 (.iinc 1 1) 3 165 := ⟨by decide +kernel, rfl⟩
theorem dX12_town_165 : DD cX12_town 165 (.goto (-16)) 3 168 := ⟨by decide +kernel, rfl⟩
theorem dX12_town_168 : DD cX12_town 168 (.iconst 0) 1 169 := ⟨by decide +kernel, rfl⟩
theorem dX12_town_169 : DD cX12_town 169 (.istore_n 1) 1 170 := ⟨by decide +kernel, rfl⟩
theorem dX12_town_170 : DD cX12_town 170 (.iload_n 1) 1 171 := ⟨by decide +kernel, rfl⟩
theorem dX12_town_171 : DD cX12_town 171 (.bipush 7) 2 173 := ⟨by decide +kernel, rfl⟩
theorem dX12_town_173 : DD cX12_town 173 (.if_icmp .ge 70) 3 176 := ⟨by decide +kernel, rfl⟩
theorem dX12_town_176 : DD cX12_town 176 (.aload_n 0) 1 177 := ⟨by decide +kernel, rfl⟩
theorem dX12_town_177 : DD cX12_town 177 (.getfield 64) 3 180 := ⟨by decide +kernel, rfl⟩
theorem dX12_town_180 : DD cX12_town 180 (.iload_n 1) 1 181 := ⟨by decide +kernel, rfl⟩
theorem dX12_town_181 : DD cX12_town 181 (.aload_n 0) 1 182 := ⟨by decide +kernel, rfl⟩
theorem dX12_town_182 : DD cX12_town 182 (.getfield 55) 3 185 := ⟨by decide +kernel, rfl⟩
theorem dX12_town_185 : DD cX12_town 185 (.iload_n 1) 1 186 := ⟨by decide +kernel, rfl⟩
theorem dX12_town_186 : DD cX12_town 186 (.iaload) 1 187 := ⟨by decide +kernel, rfl⟩
theorem dX12_town_187 : DD cX12_town 187 (.iastore) 1 188 := ⟨by decide +kernel, rfl⟩
theorem dX12_town_188 : DD cX12_town 188 (.aload_n 0) 1 189 := ⟨by decide +kernel, rfl⟩
theorem dX12_town_189 : DD cX12_town 189 (.getfield 67) 3 192 := ⟨by decide +kernel, rfl⟩
theorem dX12_town_192 : DD cX12_town 192 (.iload_n 1) 1 193 := ⟨by decide +kernel, rfl⟩
theorem dX12_town_193 : DD cX12_town 193 (.aload_n 0) 1 194 := ⟨by decide +kernel, rfl⟩
theorem dX12_town_194 : DD cX12_town 194 (.getfield 61) 3 197 := ⟨by decide +kernel, rfl⟩
theorem dX12_town_197 : DD cX12_town 197 (.iload_n 1) 1 198 := ⟨by decide +kernel, rfl⟩
theorem dX12_town_198 : DD cX12_town 198 (.iaload) 1 199 := ⟨by decide +kernel, rfl⟩
theorem dX12_town_199 : DD cX12_town 199 (.ifCond .ge 7) 3 202 := ⟨by decide +kernel, rfl⟩
theorem dX12_town_202 : DD cX12_town 202 (.iconst 0) 1 203 := ⟨by decide +kernel, rfl⟩
theorem dX12_town_203 : DD cX12_town 203 (.goto 9) 3 206 := ⟨by decide +kernel, rfl⟩
theorem dX12_town_206 : DD cX12_town 206 (.aload_n 0) 1 207 := ⟨by decide +kernel, rfl⟩
theorem dX12_town_207 : DD cX12_town 207 (.getfield 61) 3 210 := ⟨by decide +kernel, rfl⟩
theorem dX12_town_210 : DD cX12_town 210 (.iload_n 1) 1 211 := ⟨by decide +kernel, rfl⟩
theorem dX12_town_211 : DD cX12_town 211 (.iaload) 1 212 := ⟨by decide +kernel, rfl⟩
theorem dX12_town_212 : DD cX12_town 212 (.iastore) 1 213 := ⟨by decide +kernel, rfl⟩
theorem dX12_town_213 : DD cX12_town 213 (.aload_n 0) 1 214 := ⟨by decide +kernel, rfl⟩
theorem dX12_town_214 : DD cX12_town 214 (.getfield 112) 3 217 := ⟨by decide +kernel, rfl⟩
theorem dX12_town_217 : DD cX12_town 217 (.iload_n 1) 1 218 := ⟨by decide +kernel, rfl⟩
theorem dX12_town_218 : DD cX12_town 218 (.iload_n 1) 1 219 := ⟨by decide +kernel, rfl⟩
theorem dX12_town_219 : DD cX12_town 219 (.aload_n 0) 1 220 := ⟨by decide +kernel, rfl⟩
theorem dX12_town_220 : DD cX12_town 220 (.getfield 378) 3 223 := ⟨by decide +kernel, rfl⟩
theorem dX12_town_223 : DD cX12_town 223 (.if_icmp .ge 12) 3 226 := ⟨by decide +kernel, rfl⟩
theorem dX12_town_226 : DD cX12_town 226 (.aload_n 0) 1 227 := ⟨by decide +kernel, rfl⟩
theorem dX12_town_227 : DD cX12_town 227 (.getfield 58) 3 230 := ⟨by decide +kernel, rfl⟩
theorem dX12_town_230 : DD cX12_town 230 (.iload_n 1) 1 231 := ⟨by decide +kernel, rfl⟩
theorem dX12_town_231 : DD cX12_town 231 (.iaload) 1 232 := ⟨by decide +kernel, rfl⟩
theorem dX12_town_232 : DD cX12_town 232 (.goto 4) 3 235 := ⟨by decide +kernel, rfl⟩
theorem dX12_town_235 : DD cX12_town 235 (.iconst 0) 1 236 := ⟨by decide +kernel, rfl⟩
theorem dX12_town_236 : DD cX12_town 236 (.iastore) 1 237 := ⟨by decide +kernel, rfl⟩
theorem dX12_town_237 : DD cX12_town 237 (.iinc 1 1) 3 240 := ⟨by decide +kernel, rfl⟩
theorem dX12_town_240 : DD cX12_town 240 (.goto (-70)) 3 243 := ⟨by decide +kernel, rfl⟩
theorem dX12_town_243 : DD cX12_town 243 (.iconst 0) 1 244 := ⟨by decide +kernel, rfl⟩
theorem dX12_town_244 : DD cX12_town 244 (.istore_n 1) 1 245 := ⟨by decide +kernel, rfl⟩
theorem dX12_town_245 : DD cX12_town 245 (.iload_n 1) 1 246 := ⟨by decide +kernel, rfl⟩
theorem dX12_town_246 : DD cX12_town 246 (.bipush 10) 2 248 := ⟨by decide +kernel, rfl⟩
theorem dX12_town_248 : DD cX12_town 248 (.if_icmp .ge 57) 3 251 := ⟨by decide +kernel, rfl⟩
theorem dX12_town_251 : DD cX12_town 251 (.aload_n 0) 1 252 := ⟨by decide +kernel, rfl⟩
theorem dX12_town_252 : DD cX12_town 252 (.getfield 82) 3 255 := ⟨by decide +kernel, rfl⟩
theorem dX12_town_255 : DD cX12_town 255 (.iload_n 1) 1 256 := ⟨by decide +kernel, rfl⟩
theorem dX12_town_256 : DD cX12_town 256 (.aload_n 0) 1 257 := ⟨by decide +kernel, rfl⟩
theorem dX12_town_257 : DD cX12_town 257 (.getfield 70) 3 260 := ⟨by decide +kernel, rfl⟩
theorem dX12_town_260 : DD cX12_town 260 (.iload_n 1) 1 261 := ⟨by decide +kernel, rfl⟩
theorem dX12_town_261 : DD cX12_town 261 (.iaload) 1 262 := ⟨by decide +kernel, rfl⟩
theorem dX12_town_262 : DD cX12_town 262 (.iastore) 1 263 := ⟨by decide +kernel, rfl⟩
theorem dX12_town_263 : DD cX12_town 263 (.aload_n 0) 1 264 := ⟨by decide +kernel, rfl⟩
theorem dX12_town_264 : DD cX12_town 264 (.getfield 85) 3 267 := ⟨by decide +kernel, rfl⟩
theorem dX12_town_267 : DD cX12_town 267 (.iload_n 1) 1 268 := ⟨by decide +kernel, rfl⟩
theorem dX12_town_268 : DD cX12_town 268 (.aload_n 0) 1 269 := ⟨by decide +kernel, rfl⟩
theorem dX12_town_269 : DD cX12_town 269 (.getfield 73) 3 272 := ⟨by decide +kernel, rfl⟩
theorem dX12_town_272 : DD cX12_town 272 (.iload_n 1) 1 273 := ⟨by decide +kernel, rfl⟩
theorem dX12_town_273 : DD cX12_town 273 (.iaload) 1 274 := ⟨by decide +kernel, rfl⟩
theorem dX12_town_274 : DD cX12_town 274 (.iastore) 1 275 := ⟨by decide +kernel, rfl⟩
theorem dX12_town_275 : DD cX12_town 275 (.aload_n 0) 1 276 := ⟨by decide +kernel, rfl⟩
theorem dX12_town_276 : DD cX12_town 276 (.getfield 88) 3 279 := ⟨by decide +kernel, rfl⟩
theorem dX12_town_279 : DD cX12_town 279 (.iload_n 1) 1 280 := ⟨by decide +kernel, rfl⟩
theorem dX12_town_280 : DD cX12_town 280 (.aload_n 0) 1 281 := ⟨by decide +kernel, rfl⟩
theorem dX12_town_281 : DD cX12_town 281 (.getfield 76) 3 284 := ⟨by decide +kernel, rfl⟩
theorem dX12_town_284 : DD cX12_town 284 (.iload_n 1) 1 285 := ⟨by decide +kernel, rfl⟩
theorem dX12_town_285 : DD cX12_town 285 (.iaload) 1 286 := ⟨by decide +kernel, rfl⟩
theorem dX12_town_286 : DD cX12_town 286 (.iastore) 1 287 := ⟨by decide +kernel, rfl⟩
theorem dX12_town_287 : DD cX12_town 287 (.aload_n 0) 1 288 := ⟨by decide +kernel, rfl⟩
theorem dX12_town_288 : DD cX12_town 288 (.getfield 91) 3 291 := ⟨by decide +kernel, rfl⟩
theorem dX12_town_291 : DD cX12_town 291 (.iload_n 1) 1 292 := ⟨by decide +kernel, rfl⟩
theorem dX12_town_292 : DD cX12_town 292 (.aload_n 0) 1 293 := ⟨by decide +kernel, rfl⟩
theorem dX12_town_293 : DD cX12_town 293 (.getfield 79) 3 296 := ⟨by decide +kernel, rfl⟩
theorem dX12_town_296 : DD cX12_town 296 (.iload_n 1) 1 297 := ⟨by decide +kernel, rfl⟩
theorem dX12_town_297 : DD cX12_town 297 (.iaload) 1 298 := ⟨by decide +kernel, rfl⟩
theorem dX12_town_298 : DD cX12_town 298 (.iastore) 1 299 := ⟨by decide +kernel, rfl⟩
theorem dX12_town_299 : DD cX12_town 299 (.iinc 1 1) 3 302 := ⟨by decide +kernel, rfl⟩
theorem dX12_town_302 : DD cX12_town 302 (.goto (-57)) 3 305 := ⟨by decide +kernel, rfl⟩
theorem dX12_town_305 : DD cX12_town 305 (.iconst 0) 1 306 := ⟨by decide +kernel, rfl⟩
theorem dX12_town_306 : DD cX12_town 306 (.istore_n 1) 1 307 := ⟨by decide +kernel, rfl⟩
theorem dX12_town_307 : DD cX12_town 307 (.iload_n 1) 1 308 := ⟨by decide +kernel, rfl⟩
theorem dX12_town_308 : DD cX12_town 308 (.bipush 8) 2 310 := ⟨by decide +kernel, rfl⟩
theorem dX12_town_310 : DD cX12_town 310 (.if_icmp .ge 45) 3 313 := ⟨by decide +kernel, rfl⟩
theorem dX12_town_313 : DD cX12_town 313 (.aload_n 0) 1 314 := ⟨by decide +kernel, rfl⟩
theorem dX12_town_314 : DD cX12_town 314 (.getfield 103) 3 317 := ⟨by decide +kernel, rfl⟩
theorem dX12_town_317 : DD cX12_town 317 (.iload_n 1) 1 318 := ⟨by decide +kernel, rfl⟩
theorem dX12_town_318 : DD cX12_town 318 (.aload_n 0) 1 319 := ⟨by decide +kernel, rfl⟩
theorem dX12_town_319 : DD cX12_town 319 (.getfield 94) 3 322 := ⟨by decide +kernel, rfl⟩
theorem dX12_town_322 : DD cX12_town 322 (.iload_n 1) 1 323 := ⟨by decide +kernel, rfl⟩
theorem dX12_town_323 : DD cX12_town 323 (.iaload) 1 324 := ⟨by decide +kernel, rfl⟩
theorem dX12_town_324 : DD cX12_town 324 (.iastore) 1 325 := ⟨by decide +kernel, rfl⟩
theorem dX12_town_325 : DD cX12_town 325 (.aload_n 0) 1 326 := ⟨by decide +kernel, rfl⟩
theorem dX12_town_326 : DD cX12_town 326 (.getfield 106) 3 329 := ⟨by decide +kernel, rfl⟩
theorem dX12_town_329 : DD cX12_town 329 (.iload_n 1) 1 330 := ⟨by decide +kernel, rfl⟩
theorem dX12_town_330 : DD cX12_town 330 (.aload_n 0) 1 331 := ⟨by decide +kernel, rfl⟩
theorem dX12_town_331 : DD cX12_town 331 (.getfield 97) 3 334 := ⟨by decide +kernel, rfl⟩
theorem dX12_town_334 : DD cX12_town 334 (.iload_n 1) 1 335 := ⟨by decide +kernel, rfl⟩
theorem dX12_town_335 : DD cX12_town 335 (.iaload) 1 336 := ⟨by decide +kernel, rfl⟩
theorem dX12_town_336 : DD cX12_town 336 (.iastore) 1 337 := ⟨by decide +kernel, rfl⟩
theorem dX12_town_337 : DD cX12_town 337 (.aload_n 0) 1 338 := ⟨by decide +kernel, rfl⟩
theorem dX12_town_338 : DD cX12_town 338 (.getfield 109) 3 341 := ⟨by decide +kernel, rfl⟩
theorem dX12_town_341 : DD cX12_town 341 (.iload_n 1) 1 342 := ⟨by decide +kernel, rfl⟩
theorem dX12_town_342 : DD cX12_town 342 (.aload_n 0) 1 343 := ⟨by decide +kernel, rfl⟩
theorem dX12_town_343 : DD cX12_town 343 (.getfield 100) 3 346 := ⟨by decide +kernel, rfl⟩
theorem dX12_town_346 : DD cX12_town 346 (.iload_n 1) 1 347 := ⟨by decide +kernel, rfl⟩
theorem dX12_town_347 : DD cX12_town 347 (.iaload) 1 348 := ⟨by decide +kernel, rfl⟩
theorem dX12_town_348 : DD cX12_town 348 (.iastore) 1 349 := ⟨by decide +kernel, rfl⟩
theorem dX12_town_349 : DD cX12_town 349 (.iinc 1 1) 3 352 := ⟨by decide +kernel, rfl⟩
theorem dX12_town_352 : DD cX12_town 352 (.goto (-45)) 3 355 := ⟨by decide +kernel, rfl⟩
theorem dX12_town_355 : DD cX12_town 355 (.aload_n 0) 1 356 := ⟨by decide +kernel, rfl⟩
theorem dX12_town_356 : DD cX12_town 356 (.getfield 112) 3 359 := ⟨by decide +kernel, rfl⟩
theorem dX12_town_359 : DD cX12_town 359 (.bipush 36) 2 361 := ⟨by decide +kernel, rfl⟩
theorem dX12_town_361 : DD cX12_town 361 (.aload_n 0) 1 362 := ⟨by decide +kernel, rfl⟩
theorem dX12_town_362 : DD cX12_town 362 (.getfield 369) 3 365 := ⟨by decide +kernel, rfl⟩
theorem dX12_town_365 : DD cX12_town 365 (.iastore) 1 366 := ⟨by decide +kernel, rfl⟩
theorem dX12_town_366 : DD cX12_town 366 (.aload_n 0) 1 367 := ⟨by decide +kernel, rfl⟩
theorem dX12_town_367 : DD cX12_town 367 (.iconst 0) 1 368 := ⟨by decide +kernel, rfl⟩
theorem dX12_town_368 : DD cX12_town 368 (.putfield 390) 3 371 := ⟨by decide +kernel, rfl⟩
theorem dX12_town_371 : DD cX12_town 371 (.aload_n 0) 1 372 := ⟨by decide +kernel, rfl⟩
theorem dX12_town_372 : DD cX12_town 372 (.iconst 0) 1 373 := ⟨by decide +kernel, rfl⟩
theorem dX12_town_373 : DD cX12_town 373 (.putfield 393) 3 376 := ⟨by decide +kernel, rfl⟩
theorem dX12_town_376 : DD cX12_town 376 (.aload_n 0) 1 377 := ⟨by decide +kernel, rfl⟩
theorem dX12_town_377 : DD cX12_town 377 (.iconst 0) 1 378 := ⟨by decide +kernel, rfl⟩
theorem dX12_town_378 : DD cX12_town 378 (.putfield 396) 3 381 := ⟨by decide +kernel, rfl⟩
theorem dX12_town_381 : DD cX12_town 381 (.aload_n 0) 1 382 := ⟨by decide +kernel, rfl⟩
theorem dX12_town_382 : DD cX12_town 382 (.iconst 0) 1 383 := ⟨by decide +kernel, rfl⟩
theorem dX12_town_383 : DD cX12_town 383 (.putfield 399) 3 386 := ⟨by decide +kernel, rfl⟩
theorem dX12_town_386 : DD cX12_town 386 (.iconst 0) 1 387 := ⟨by decide +kernel, rfl⟩
theorem dX12_town_387 : DD cX12_town 387 (.istore_n 1) 1 388 := ⟨by decide +kernel, rfl⟩
theorem dX12_town_388 : DD cX12_town 388 (.iload_n 1) 1 389 := ⟨by decide +kernel, rfl⟩
theorem dX12_town_389 : DD cX12_town 389 (.iconst 3) 1 390 := ⟨by decide +kernel, rfl⟩
theorem dX12_town_390 : DD cX12_town 390 (.if_icmp .ge 16) 3 393 := ⟨by decide +kernel, rfl⟩
theorem dX12_town_393 : DD cX12_town 393 (.aload_n 0) 1 394 := ⟨by decide +kernel, rfl⟩
theorem dX12_town_394 : DD cX12_town 394 (.getfield 151) 3 397 := ⟨by decide +kernel, rfl⟩
theorem dX12_town_397 : DD cX12_town 397 (.iload_n 1) 1 398 := ⟨by decide +kernel, rfl⟩
theorem dX12_town_398 : DD cX12_town 398 (.iconst 0) 1 399 := ⟨by decide +kernel, rfl⟩
theorem dX12_town_399 : DD cX12_town 399 (.bastore) 1 400 := ⟨by decide +kernel, rfl⟩
theorem dX12_town_400 : DD cX12_town 400 (.iinc 1 1) 3 403 := ⟨by decide +kernel, rfl⟩
theorem dX12_town_403 : DD cX12_town 403 (.goto (-15)) 3 406 := ⟨by decide +kernel, rfl⟩
theorem dX12_town_406 : DD cX12_town 406 (.aload_n 0) 1 407 := ⟨by decide +kernel, rfl⟩
theorem dX12_town_407 : DD cX12_town 407 (.getfield 378) 3 410 := ⟨by decide +kernel, rfl⟩
theorem dX12_town_410 : DD cX12_town 410 (.ireturn) 1 411 := ⟨by decide +kernel, rfl⟩
def gX12_town : Nat → Nat → Int32 → Int32 → Mem → Option (Int32 × Mem)
  | 0, _, _, _, _ => none
  | f + 1, 0, x1, x2, m => (if (3 : Int32) ≤ x1 then (gX12_town f 2 (0 : Int32) 0 m) else (rd (m.1 11) 3 x1 fun v2 => (wr m 12 3 x1 (vp_nar .boolean v2) fun m3 => (rd (m3.1 12) 3 x1 fun v4 => (if v4 = 0 then (wr m3 8 3 x1 (0 : Int32) fun m6 => (nm ((320 : Int32) * x1) fun v7 => (gX12_town f 1 x1 v7 m6))) else (rd (m3.1 5) 3 x1 fun v8 => (wr m3 8 3 x1 v8 fun m9 => (nm ((320 : Int32) * x1) fun v10 => (gX12_town f 1 x1 v10 m9)))))))))
  | f + 1, 1, x1, x2, m => (rd (m.1 8) 3 x1 fun v1 => (if (((320 : Int32) * x1) + v1) ≤ x2 then (gX12_town f 0 (x1 + (1 : Int32)) 0 m) else (rd (m.1 3) 960 x2 fun v3 => (wr m 6 960 x2 v3 fun m4 => (rd (m4.1 4) 960 x2 fun v5 => (wr m4 7 960 x2 v5 fun m6 => (gX12_town f 1 x1 (x2 + (1 : Int32)) m6)))))))
  | f + 1, 2, x1, x2, m => (if (37 : Int32) ≤ x1 then (gX12_town f 3 (0 : Int32) 0 m) else (wr m 33 37 x1 (0 : Int32) fun m2 => (gX12_town f 2 (x1 + (1 : Int32)) 0 m2)))
  | f + 1, 3, x1, x2, m => (if (7 : Int32) ≤ x1 then (gX12_town f 4 (0 : Int32) 0 m) else (rd (m.1 14) 7 x1 fun v2 => (wr m 17 7 x1 v2 fun m3 => (rd (m3.1 16) 7 x1 fun v4 => (if 0 ≤ v4 then (rd (m3.1 16) 7 x1 fun v6 => (wr m3 18 7 x1 v6 fun m7 => (if (m7.1 0 51) ≤ x1 then (wr m7 33 37 x1 (0 : Int32) fun m9 => (gX12_town f 3 (x1 + (1 : Int32)) 0 m9)) else (rd (m7.1 15) 7 x1 fun v10 => (wr m7 33 37 x1 v10 fun m11 => (gX12_town f 3 (x1 + (1 : Int32)) 0 m11)))))) else (wr m3 18 7 x1 (0 : Int32) fun m12 => (if (m12.1 0 51) ≤ x1 then (wr m12 33 37 x1 (0 : Int32) fun m14 => (gX12_town f 3 (x1 + (1 : Int32)) 0 m14)) else (rd (m12.1 15) 7 x1 fun v15 => (wr m12 33 37 x1 v15 fun m16 => (gX12_town f 3 (x1 + (1 : Int32)) 0 m16))))))))))
  | f + 1, 4, x1, x2, m => (if (10 : Int32) ≤ x1 then (gX12_town f 5 (0 : Int32) 0 m) else (rd (m.1 19) 10 x1 fun v2 => (wr m 23 10 x1 v2 fun m3 => (rd (m3.1 20) 10 x1 fun v4 => (wr m3 24 10 x1 v4 fun m5 => (rd (m5.1 21) 10 x1 fun v6 => (wr m5 25 10 x1 v6 fun m7 => (rd (m7.1 22) 10 x1 fun v8 => (wr m7 26 10 x1 v8 fun m9 => (gX12_town f 4 (x1 + (1 : Int32)) 0 m9))))))))))
  | f + 1, 5, x1, x2, m => (if (8 : Int32) ≤ x1 then (wr m 33 37 (36 : Int32) (m.1 0 50) fun m2 => (pt (sI m2 0 60 (0 : Int32)) fun m3 => (pt (sI m3 0 61 (0 : Int32)) fun m4 => (pt (sI m4 0 69 (0 : Int32)) fun m5 => (pt (sI m5 0 63 (0 : Int32)) fun m6 => (gX12_town f 6 (0 : Int32) 0 m6)))))) else (rd (m.1 27) 8 x1 fun v7 => (wr m 30 8 x1 v7 fun m8 => (rd (m8.1 28) 8 x1 fun v9 => (wr m8 31 8 x1 v9 fun m10 => (rd (m10.1 29) 8 x1 fun v11 => (wr m10 32 8 x1 v11 fun m12 => (gX12_town f 5 (x1 + (1 : Int32)) 0 m12))))))))
  | f + 1, 6, x1, x2, m => (if (3 : Int32) ≤ x1 then (some ((m.1 0 51), m)) else (wr m 46 3 x1 (vp_nar .boolean (0 : Int32)) fun m2 => (gX12_town f 6 (x1 + (1 : Int32)) 0 m2)))
  | _ + 1, _ + 7, _, _, _ => none
def fX12_town (m : Mem) : Option (Int32 × Mem) := (cV (fX12_readAll m) fun m2 => (if (m2.1 0 2) ≤ 0 then (pt (sI m2 0 51 (m2.1 0 47)) fun m4 => (pt (sI m4 0 52 (m4.1 0 48)) fun m5 => (pt (sI m5 0 53 (m5.1 0 49)) fun m6 => (pt (sI m6 0 24 (m6.1 0 23)) fun m7 => (gX12_town 5000 0 (0 : Int32) 0 m7))))) else (some ((-1 : Int32), m2))))
set_option maxHeartbeats 4000000 in
set_option maxRecDepth 100000 in
theorem wX12_town {X : Cx} {G : Gt} (h : OkX (X, G, wM, nM) cX12_town RX12 3 (some .int) 8) : ∀ f : Nat, (∀ (x1 : Int32) (x2 : Int32) (m : Mem), JR (X, G, wM, nM) cvI m 47 [some (.ref (G.2.2 0)), some (.int x1), none] [] (gX12_town f 0 x1 x2 m)) ∧ (∀ (x1 : Int32) (x2 : Int32) (m : Mem), JR (X, G, wM, nM) cvI m 95 [some (.ref (G.2.2 0)), some (.int x1), some (.int x2)] [] (gX12_town f 1 x1 x2 m)) ∧ (∀ (x1 : Int32) (x2 : Int32) (m : Mem), JR (X, G, wM, nM) cvI m 149 [some (.ref (G.2.2 0)), some (.int x1), none] [] (gX12_town f 2 x1 x2 m)) ∧ (∀ (x1 : Int32) (x2 : Int32) (m : Mem), JR (X, G, wM, nM) cvI m 170 [some (.ref (G.2.2 0)), some (.int x1), none] [] (gX12_town f 3 x1 x2 m)) ∧ (∀ (x1 : Int32) (x2 : Int32) (m : Mem), JR (X, G, wM, nM) cvI m 245 [some (.ref (G.2.2 0)), some (.int x1), none] [] (gX12_town f 4 x1 x2 m)) ∧ (∀ (x1 : Int32) (x2 : Int32) (m : Mem), JR (X, G, wM, nM) cvI m 307 [some (.ref (G.2.2 0)), some (.int x1), none] [] (gX12_town f 5 x1 x2 m)) ∧ (∀ (x1 : Int32) (x2 : Int32) (m : Mem), JR (X, G, wM, nM) cvI m 388 [some (.ref (G.2.2 0)), some (.int x1), none] [] (gX12_town f 6 x1 x2 m)) := by
  intro f
  induction f with
  | zero => exact ⟨(fun _ _ _ => j_none), (fun _ _ _ => j_none), (fun _ _ _ => j_none), (fun _ _ _ => j_none), (fun _ _ _ => j_none), (fun _ _ _ => j_none), (fun _ _ _ => j_none)⟩
  | succ f ih =>
    refine ⟨?_, ?_, ?_, ?_, ?_, ?_, ?_⟩
    · intro x1 x2 m
      rw [gX12_town]
      refine j_iload_n h dX12_town_47 rfl ?_
      refine j_iconst (v := (3 : Int32)) h dX12_town_48 kiconst_3 ?_
      refine j_icmp_ge (tgt := 147) h dX12_town_49 (by decide) (fun c1 => ?_) (fun c1 => ?_)
      · refine j_iconst (v := (0 : Int32)) h dX12_town_147 kiconst_0 ?_
        refine j_istore_n h dX12_town_148 rfl rfl ?_
        refine j_wk (ls' := [some (.ref (G.2.2 0)), some (.int (0 : Int32)), none]) (And.intro rfl (And.intro rfl trivial)) ?_
        exact ih.2.2.1 (0 : Int32) 0 m
      · refine j_aload_n h dX12_town_52 rfl ?_
        refine gM_20 h dX12_town_53 ?_
        refine j_iload_n h dX12_town_56 rfl ?_
        refine j_aload_n h dX12_town_57 rfl ?_
        refine gM_19 h dX12_town_58 ?_
        refine j_iload_n h dX12_town_61 rfl ?_
        refine aM_11 h dX12_town_62 (fun v2 hv2 => ?_)
        refine bM_12 h dX12_town_63 (fun m3 hm3 => ?_)
        refine j_aload_n h dX12_town_64 rfl ?_
        refine gM_16 h dX12_town_65 ?_
        refine j_iload_n h dX12_town_68 rfl ?_
        refine j_aload_n h dX12_town_69 rfl ?_
        refine gM_20 h dX12_town_70 ?_
        refine j_iload_n h dX12_town_73 rfl ?_
        refine aM_12 h dX12_town_74 (fun v4 hv4 => ?_)
        refine j_if_eq (tgt := 87) h dX12_town_75 (by decide) (fun c5 => ?_) (fun c5 => ?_)
        · refine j_iconst (v := (0 : Int32)) h dX12_town_87 kiconst_0 ?_
          refine bM_8 h dX12_town_88 (fun m6 hm6 => ?_)
          refine j_sipush (v := (320 : Int32)) h dX12_town_89 ksipush_320 ?_
          refine j_iload_n h dX12_town_92 rfl ?_
          refine j_imul h dX12_town_93 ?_
          refine j_nm (fun v7 hv7 => ?_)
          refine j_istore_n h dX12_town_94 rfl rfl ?_
          refine j_wk (ls' := [some (.ref (G.2.2 0)), some (.int x1), some (.int v7)]) (And.intro rfl (And.intro rfl (And.intro rfl trivial))) ?_
          exact ih.2.1 x1 v7 m6
        · refine j_aload_n h dX12_town_78 rfl ?_
          refine gM_13 h dX12_town_79 ?_
          refine j_iload_n h dX12_town_82 rfl ?_
          refine aM_5 h dX12_town_83 (fun v8 hv8 => ?_)
          refine j_goto (tgt := 88) h dX12_town_84 (by decide) ?_
          refine bM_8 h dX12_town_88 (fun m9 hm9 => ?_)
          refine j_sipush (v := (320 : Int32)) h dX12_town_89 ksipush_320 ?_
          refine j_iload_n h dX12_town_92 rfl ?_
          refine j_imul h dX12_town_93 ?_
          refine j_nm (fun v10 hv10 => ?_)
          refine j_istore_n h dX12_town_94 rfl rfl ?_
          refine j_wk (ls' := [some (.ref (G.2.2 0)), some (.int x1), some (.int v10)]) (And.intro rfl (And.intro rfl (And.intro rfl trivial))) ?_
          exact ih.2.1 x1 v10 m9
    · intro x1 x2 m
      rw [gX12_town]
      refine j_iload_n h dX12_town_95 rfl ?_
      refine j_sipush (v := (320 : Int32)) h dX12_town_96 ksipush_320 ?_
      refine j_iload_n h dX12_town_99 rfl ?_
      refine j_imul h dX12_town_100 ?_
      refine j_aload_n h dX12_town_101 rfl ?_
      refine gM_16 h dX12_town_102 ?_
      refine j_iload_n h dX12_town_105 rfl ?_
      refine aM_8 h dX12_town_106 (fun v1 hv1 => ?_)
      refine j_iadd h dX12_town_107 ?_
      refine j_icmp_ge (tgt := 141) h dX12_town_108 (by decide) (fun c2 => ?_) (fun c2 => ?_)
      · refine j_iinc (v := (x1 + (1 : Int32))) h dX12_town_141 rfl (by rw [kiconst_1]) rfl ?_
        refine j_goto (tgt := 47) h dX12_town_144 (by decide) ?_
        refine j_wk (ls' := [some (.ref (G.2.2 0)), some (.int (x1 + (1 : Int32))), none]) (And.intro rfl (And.intro rfl trivial)) ?_
        exact ih.1 (x1 + (1 : Int32)) 0 m
      · refine j_aload_n h dX12_town_111 rfl ?_
        refine gM_14 h dX12_town_112 ?_
        refine j_iload_n h dX12_town_115 rfl ?_
        refine j_aload_n h dX12_town_116 rfl ?_
        refine gM_11 h dX12_town_117 ?_
        refine j_iload_n h dX12_town_120 rfl ?_
        refine aM_3 h dX12_town_121 (fun v3 hv3 => ?_)
        refine bM_6 h dX12_town_122 (fun m4 hm4 => ?_)
        refine j_aload_n h dX12_town_123 rfl ?_
        refine gM_15 h dX12_town_124 ?_
        refine j_iload_n h dX12_town_127 rfl ?_
        refine j_aload_n h dX12_town_128 rfl ?_
        refine gM_12 h dX12_town_129 ?_
        refine j_iload_n h dX12_town_132 rfl ?_
        refine aM_4 h dX12_town_133 (fun v5 hv5 => ?_)
        refine bM_7 h dX12_town_134 (fun m6 hm6 => ?_)
        refine j_iinc (v := (x2 + (1 : Int32))) h dX12_town_135 rfl (by rw [kiconst_1]) rfl ?_
        refine j_goto (tgt := 95) h dX12_town_138 (by decide) ?_
        refine j_wk (ls' := [some (.ref (G.2.2 0)), some (.int x1), some (.int (x2 + (1 : Int32)))]) (And.intro rfl (And.intro rfl (And.intro rfl trivial))) ?_
        exact ih.2.1 x1 (x2 + (1 : Int32)) m6
    · intro x1 x2 m
      rw [gX12_town]
      refine j_iload_n h dX12_town_149 rfl ?_
      refine j_bipush (v := (37 : Int32)) h dX12_town_150 kbipush_37 ?_
      refine j_icmp_ge (tgt := 168) h dX12_town_152 (by decide) (fun c1 => ?_) (fun c1 => ?_)
      · refine j_iconst (v := (0 : Int32)) h dX12_town_168 kiconst_0 ?_
        refine j_istore_n h dX12_town_169 rfl rfl ?_
        refine j_wk (ls' := [some (.ref (G.2.2 0)), some (.int (0 : Int32)), none]) (And.intro rfl (And.intro rfl trivial)) ?_
        exact ih.2.2.2.1 (0 : Int32) 0 m
      · refine j_aload_n h dX12_town_155 rfl ?_
        refine gM_55 h dX12_town_156 ?_
        refine j_iload_n h dX12_town_159 rfl ?_
        refine j_iconst (v := (0 : Int32)) h dX12_town_160 kiconst_0 ?_
        refine bM_33 h dX12_town_161 (fun m2 hm2 => ?_)
        refine j_iinc (v := (x1 + (1 : Int32))) h dX12_town_162 rfl (by rw [kiconst_1]) rfl ?_
        refine j_goto (tgt := 149) h dX12_town_165 (by decide) ?_
        refine j_wk (ls' := [some (.ref (G.2.2 0)), some (.int (x1 + (1 : Int32))), none]) (And.intro rfl (And.intro rfl trivial)) ?_
        exact ih.2.2.1 (x1 + (1 : Int32)) 0 m2
    · intro x1 x2 m
      rw [gX12_town]
      refine j_iload_n h dX12_town_170 rfl ?_
      refine j_bipush (v := (7 : Int32)) h dX12_town_171 kbipush_7 ?_
      refine j_icmp_ge (tgt := 243) h dX12_town_173 (by decide) (fun c1 => ?_) (fun c1 => ?_)
      · refine j_iconst (v := (0 : Int32)) h dX12_town_243 kiconst_0 ?_
        refine j_istore_n h dX12_town_244 rfl rfl ?_
        refine j_wk (ls' := [some (.ref (G.2.2 0)), some (.int (0 : Int32)), none]) (And.intro rfl (And.intro rfl trivial)) ?_
        exact ih.2.2.2.2.1 (0 : Int32) 0 m
      · refine j_aload_n h dX12_town_176 rfl ?_
        refine gM_31 h dX12_town_177 ?_
        refine j_iload_n h dX12_town_180 rfl ?_
        refine j_aload_n h dX12_town_181 rfl ?_
        refine gM_28 h dX12_town_182 ?_
        refine j_iload_n h dX12_town_185 rfl ?_
        refine aM_14 h dX12_town_186 (fun v2 hv2 => ?_)
        refine bM_17 h dX12_town_187 (fun m3 hm3 => ?_)
        refine j_aload_n h dX12_town_188 rfl ?_
        refine gM_32 h dX12_town_189 ?_
        refine j_iload_n h dX12_town_192 rfl ?_
        refine j_aload_n h dX12_town_193 rfl ?_
        refine gM_30 h dX12_town_194 ?_
        refine j_iload_n h dX12_town_197 rfl ?_
        refine aM_16 h dX12_town_198 (fun v4 hv4 => ?_)
        refine j_if_ge (tgt := 206) h dX12_town_199 (by decide) (fun c5 => ?_) (fun c5 => ?_)
        · refine j_aload_n h dX12_town_206 rfl ?_
          refine gM_30 h dX12_town_207 ?_
          refine j_iload_n h dX12_town_210 rfl ?_
          refine aM_16 h dX12_town_211 (fun v6 hv6 => ?_)
          refine bM_18 h dX12_town_212 (fun m7 hm7 => ?_)
          refine j_aload_n h dX12_town_213 rfl ?_
          refine gM_55 h dX12_town_214 ?_
          refine j_iload_n h dX12_town_217 rfl ?_
          refine j_iload_n h dX12_town_218 rfl ?_
          refine j_aload_n h dX12_town_219 rfl ?_
          refine gM_51 h dX12_town_220 ?_
          refine j_icmp_ge (tgt := 235) h dX12_town_223 (by decide) (fun c8 => ?_) (fun c8 => ?_)
          · refine j_iconst (v := (0 : Int32)) h dX12_town_235 kiconst_0 ?_
            refine bM_33 h dX12_town_236 (fun m9 hm9 => ?_)
            refine j_iinc (v := (x1 + (1 : Int32))) h dX12_town_237 rfl (by rw [kiconst_1]) rfl ?_
            refine j_goto (tgt := 170) h dX12_town_240 (by decide) ?_
            refine j_wk (ls' := [some (.ref (G.2.2 0)), some (.int (x1 + (1 : Int32))), none]) (And.intro rfl (And.intro rfl trivial)) ?_
            exact ih.2.2.2.1 (x1 + (1 : Int32)) 0 m9
          · refine j_aload_n h dX12_town_226 rfl ?_
            refine gM_29 h dX12_town_227 ?_
            refine j_iload_n h dX12_town_230 rfl ?_
            refine aM_15 h dX12_town_231 (fun v10 hv10 => ?_)
            refine j_goto (tgt := 236) h dX12_town_232 (by decide) ?_
            refine bM_33 h dX12_town_236 (fun m11 hm11 => ?_)
            refine j_iinc (v := (x1 + (1 : Int32))) h dX12_town_237 rfl (by rw [kiconst_1]) rfl ?_
            refine j_goto (tgt := 170) h dX12_town_240 (by decide) ?_
            refine j_wk (ls' := [some (.ref (G.2.2 0)), some (.int (x1 + (1 : Int32))), none]) (And.intro rfl (And.intro rfl trivial)) ?_
            exact ih.2.2.2.1 (x1 + (1 : Int32)) 0 m11
        · refine j_iconst (v := (0 : Int32)) h dX12_town_202 kiconst_0 ?_
          refine j_goto (tgt := 212) h dX12_town_203 (by decide) ?_
          refine bM_18 h dX12_town_212 (fun m12 hm12 => ?_)
          refine j_aload_n h dX12_town_213 rfl ?_
          refine gM_55 h dX12_town_214 ?_
          refine j_iload_n h dX12_town_217 rfl ?_
          refine j_iload_n h dX12_town_218 rfl ?_
          refine j_aload_n h dX12_town_219 rfl ?_
          refine gM_51 h dX12_town_220 ?_
          refine j_icmp_ge (tgt := 235) h dX12_town_223 (by decide) (fun c13 => ?_) (fun c13 => ?_)
          · refine j_iconst (v := (0 : Int32)) h dX12_town_235 kiconst_0 ?_
            refine bM_33 h dX12_town_236 (fun m14 hm14 => ?_)
            refine j_iinc (v := (x1 + (1 : Int32))) h dX12_town_237 rfl (by rw [kiconst_1]) rfl ?_
            refine j_goto (tgt := 170) h dX12_town_240 (by decide) ?_
            refine j_wk (ls' := [some (.ref (G.2.2 0)), some (.int (x1 + (1 : Int32))), none]) (And.intro rfl (And.intro rfl trivial)) ?_
            exact ih.2.2.2.1 (x1 + (1 : Int32)) 0 m14
          · refine j_aload_n h dX12_town_226 rfl ?_
            refine gM_29 h dX12_town_227 ?_
            refine j_iload_n h dX12_town_230 rfl ?_
            refine aM_15 h dX12_town_231 (fun v15 hv15 => ?_)
            refine j_goto (tgt := 236) h dX12_town_232 (by decide) ?_
            refine bM_33 h dX12_town_236 (fun m16 hm16 => ?_)
            refine j_iinc (v := (x1 + (1 : Int32))) h dX12_town_237 rfl (by rw [kiconst_1]) rfl ?_
            refine j_goto (tgt := 170) h dX12_town_240 (by decide) ?_
            refine j_wk (ls' := [some (.ref (G.2.2 0)), some (.int (x1 + (1 : Int32))), none]) (And.intro rfl (And.intro rfl trivial)) ?_
            exact ih.2.2.2.1 (x1 + (1 : Int32)) 0 m16
    · intro x1 x2 m
      rw [gX12_town]
      refine j_iload_n h dX12_town_245 rfl ?_
      refine j_bipush (v := (10 : Int32)) h dX12_town_246 kbipush_10 ?_
      refine j_icmp_ge (tgt := 305) h dX12_town_248 (by decide) (fun c1 => ?_) (fun c1 => ?_)
      · refine j_iconst (v := (0 : Int32)) h dX12_town_305 kiconst_0 ?_
        refine j_istore_n h dX12_town_306 rfl rfl ?_
        refine j_wk (ls' := [some (.ref (G.2.2 0)), some (.int (0 : Int32)), none]) (And.intro rfl (And.intro rfl trivial)) ?_
        exact ih.2.2.2.2.2.1 (0 : Int32) 0 m
      · refine j_aload_n h dX12_town_251 rfl ?_
        refine gM_37 h dX12_town_252 ?_
        refine j_iload_n h dX12_town_255 rfl ?_
        refine j_aload_n h dX12_town_256 rfl ?_
        refine gM_33 h dX12_town_257 ?_
        refine j_iload_n h dX12_town_260 rfl ?_
        refine aM_19 h dX12_town_261 (fun v2 hv2 => ?_)
        refine bM_23 h dX12_town_262 (fun m3 hm3 => ?_)
        refine j_aload_n h dX12_town_263 rfl ?_
        refine gM_38 h dX12_town_264 ?_
        refine j_iload_n h dX12_town_267 rfl ?_
        refine j_aload_n h dX12_town_268 rfl ?_
        refine gM_34 h dX12_town_269 ?_
        refine j_iload_n h dX12_town_272 rfl ?_
        refine aM_20 h dX12_town_273 (fun v4 hv4 => ?_)
        refine bM_24 h dX12_town_274 (fun m5 hm5 => ?_)
        refine j_aload_n h dX12_town_275 rfl ?_
        refine gM_39 h dX12_town_276 ?_
        refine j_iload_n h dX12_town_279 rfl ?_
        refine j_aload_n h dX12_town_280 rfl ?_
        refine gM_35 h dX12_town_281 ?_
        refine j_iload_n h dX12_town_284 rfl ?_
        refine aM_21 h dX12_town_285 (fun v6 hv6 => ?_)
        refine bM_25 h dX12_town_286 (fun m7 hm7 => ?_)
        refine j_aload_n h dX12_town_287 rfl ?_
        refine gM_40 h dX12_town_288 ?_
        refine j_iload_n h dX12_town_291 rfl ?_
        refine j_aload_n h dX12_town_292 rfl ?_
        refine gM_36 h dX12_town_293 ?_
        refine j_iload_n h dX12_town_296 rfl ?_
        refine aM_22 h dX12_town_297 (fun v8 hv8 => ?_)
        refine bM_26 h dX12_town_298 (fun m9 hm9 => ?_)
        refine j_iinc (v := (x1 + (1 : Int32))) h dX12_town_299 rfl (by rw [kiconst_1]) rfl ?_
        refine j_goto (tgt := 245) h dX12_town_302 (by decide) ?_
        refine j_wk (ls' := [some (.ref (G.2.2 0)), some (.int (x1 + (1 : Int32))), none]) (And.intro rfl (And.intro rfl trivial)) ?_
        exact ih.2.2.2.2.1 (x1 + (1 : Int32)) 0 m9
    · intro x1 x2 m
      rw [gX12_town]
      refine j_iload_n h dX12_town_307 rfl ?_
      refine j_bipush (v := (8 : Int32)) h dX12_town_308 kbipush_8 ?_
      refine j_icmp_ge (tgt := 355) h dX12_town_310 (by decide) (fun c1 => ?_) (fun c1 => ?_)
      · refine j_aload_n h dX12_town_355 rfl ?_
        refine gM_55 h dX12_town_356 ?_
        refine j_bipush (v := (36 : Int32)) h dX12_town_359 kbipush_36 ?_
        refine j_aload_n h dX12_town_361 rfl ?_
        refine gM_50 h dX12_town_362 ?_
        refine bM_33 h dX12_town_365 (fun m2 hm2 => ?_)
        refine j_aload_n h dX12_town_366 rfl ?_
        refine j_iconst (v := (0 : Int32)) h dX12_town_367 kiconst_0 ?_
        refine pM_60 h dX12_town_368 (fun m3 hm3 => ?_)
        refine j_aload_n h dX12_town_371 rfl ?_
        refine j_iconst (v := (0 : Int32)) h dX12_town_372 kiconst_0 ?_
        refine pM_61 h dX12_town_373 (fun m4 hm4 => ?_)
        refine j_aload_n h dX12_town_376 rfl ?_
        refine j_iconst (v := (0 : Int32)) h dX12_town_377 kiconst_0 ?_
        refine pM_69 h dX12_town_378 (fun m5 hm5 => ?_)
        refine j_aload_n h dX12_town_381 rfl ?_
        refine j_iconst (v := (0 : Int32)) h dX12_town_382 kiconst_0 ?_
        refine pM_63 h dX12_town_383 (fun m6 hm6 => ?_)
        refine j_iconst (v := (0 : Int32)) h dX12_town_386 kiconst_0 ?_
        refine j_istore_n h dX12_town_387 rfl rfl ?_
        refine j_wk (ls' := [some (.ref (G.2.2 0)), some (.int (0 : Int32)), none]) (And.intro rfl (And.intro rfl trivial)) ?_
        exact ih.2.2.2.2.2.2 (0 : Int32) 0 m6
      · refine j_aload_n h dX12_town_313 rfl ?_
        refine gM_44 h dX12_town_314 ?_
        refine j_iload_n h dX12_town_317 rfl ?_
        refine j_aload_n h dX12_town_318 rfl ?_
        refine gM_41 h dX12_town_319 ?_
        refine j_iload_n h dX12_town_322 rfl ?_
        refine aM_27 h dX12_town_323 (fun v7 hv7 => ?_)
        refine bM_30 h dX12_town_324 (fun m8 hm8 => ?_)
        refine j_aload_n h dX12_town_325 rfl ?_
        refine gM_45 h dX12_town_326 ?_
        refine j_iload_n h dX12_town_329 rfl ?_
        refine j_aload_n h dX12_town_330 rfl ?_
        refine gM_42 h dX12_town_331 ?_
        refine j_iload_n h dX12_town_334 rfl ?_
        refine aM_28 h dX12_town_335 (fun v9 hv9 => ?_)
        refine bM_31 h dX12_town_336 (fun m10 hm10 => ?_)
        refine j_aload_n h dX12_town_337 rfl ?_
        refine gM_46 h dX12_town_338 ?_
        refine j_iload_n h dX12_town_341 rfl ?_
        refine j_aload_n h dX12_town_342 rfl ?_
        refine gM_43 h dX12_town_343 ?_
        refine j_iload_n h dX12_town_346 rfl ?_
        refine aM_29 h dX12_town_347 (fun v11 hv11 => ?_)
        refine bM_32 h dX12_town_348 (fun m12 hm12 => ?_)
        refine j_iinc (v := (x1 + (1 : Int32))) h dX12_town_349 rfl (by rw [kiconst_1]) rfl ?_
        refine j_goto (tgt := 307) h dX12_town_352 (by decide) ?_
        refine j_wk (ls' := [some (.ref (G.2.2 0)), some (.int (x1 + (1 : Int32))), none]) (And.intro rfl (And.intro rfl trivial)) ?_
        exact ih.2.2.2.2.2.1 (x1 + (1 : Int32)) 0 m12
    · intro x1 x2 m
      rw [gX12_town]
      refine j_iload_n h dX12_town_388 rfl ?_
      refine j_iconst (v := (3 : Int32)) h dX12_town_389 kiconst_3 ?_
      refine j_icmp_ge (tgt := 406) h dX12_town_390 (by decide) (fun c1 => ?_) (fun c1 => ?_)
      · refine j_aload_n h dX12_town_406 rfl ?_
        refine gM_51 h dX12_town_407 ?_
        exact j_iret h rfl dX12_town_410
      · refine j_aload_n h dX12_town_393 rfl ?_
        refine gM_73 h dX12_town_394 ?_
        refine j_iload_n h dX12_town_397 rfl ?_
        refine j_iconst (v := (0 : Int32)) h dX12_town_398 kiconst_0 ?_
        refine bM_46 h dX12_town_399 (fun m2 hm2 => ?_)
        refine j_iinc (v := (x1 + (1 : Int32))) h dX12_town_400 rfl (by rw [kiconst_1]) rfl ?_
        refine j_goto (tgt := 388) h dX12_town_403 (by decide) ?_
        refine j_wk (ls' := [some (.ref (G.2.2 0)), some (.int (x1 + (1 : Int32))), none]) (And.intro rfl (And.intro rfl trivial)) ?_
        exact ih.2.2.2.2.2.2 (x1 + (1 : Int32)) 0 m2
set_option maxHeartbeats 4000000 in
set_option maxRecDepth 100000 in
theorem kX12_town (l : Launch) (G : Gt) (hD : ∀ m, va_D (inA G nM) (wM G m)) (m : Mem) : ∀ a, fX12_town m = some a → Ct l G wM nM yX12_town cX12_town 3 (some .int) 8 [.ref (G.2.2 0)] m (cvI a) := by
  refine ct_of (own := RX12) (ls0 := [some (.ref (G.2.2 0)), none, none]) (by decide) rfl rfl rfl (Nat.le_of_ble_eq_true rfl) hD (fun X h => ?_) l
  unfold fX12_town
  refine j_aload_n h dX12_town_0 rfl ?_
  refine j_callVV (q0 := 0) (ci := 12) h [] (kX12_readAll _ G h.2.2.2.2.2.2.2.2.2.2 m) okX12_readAll inX12_readAll ml12_375 rfl rfl rfl rfl (by decide) (by decide) (Nat.le_of_ble_eq_true rfl) rfl dX12_town_1 (fun m2 hm2 => ?_)
  refine j_aload_n h dX12_town_4 rfl ?_
  refine gM_2 h dX12_town_5 ?_
  refine j_if_le (tgt := 13) h dX12_town_8 (by decide) (fun c3 => ?_) (fun c3 => ?_)
  · refine j_aload_n h dX12_town_13 rfl ?_
    refine j_aload_n h dX12_town_14 rfl ?_
    refine gM_47 h dX12_town_15 ?_
    refine pM_51 h dX12_town_18 (fun m4 hm4 => ?_)
    refine j_aload_n h dX12_town_21 rfl ?_
    refine j_aload_n h dX12_town_22 rfl ?_
    refine gM_48 h dX12_town_23 ?_
    refine pM_52 h dX12_town_26 (fun m5 hm5 => ?_)
    refine j_aload_n h dX12_town_29 rfl ?_
    refine j_aload_n h dX12_town_30 rfl ?_
    refine gM_49 h dX12_town_31 ?_
    refine pM_53 h dX12_town_34 (fun m6 hm6 => ?_)
    refine j_aload_n h dX12_town_37 rfl ?_
    refine j_aload_n h dX12_town_38 rfl ?_
    refine gM_23 h dX12_town_39 ?_
    refine pM_24 h dX12_town_42 (fun m7 hm7 => ?_)
    refine j_iconst (v := (0 : Int32)) h dX12_town_45 kiconst_0 ?_
    refine j_istore_n h dX12_town_46 rfl rfl ?_
    refine j_wk (ls' := [some (.ref (G.2.2 0)), some (.int (0 : Int32)), none]) (And.intro rfl (And.intro rfl trivial)) ?_
    exact (wX12_town h 5000).1 (0 : Int32) 0 m7
  · refine j_iconst (v := (-1 : Int32)) h dX12_town_11 kiconst_m1 ?_
    exact j_iret h rfl dX12_town_12
