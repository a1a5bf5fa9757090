theorem dX12_handedOn_0 : DD cX12_handedOn 0 (.iload_n 1) 1 1 := ⟨by decide +kernel, rfl⟩
theorem dX12_handedOn_1 : DD cX12_handedOn 1 (.istore_n 3) 1 2 := ⟨by decide +kernel, rfl⟩
theorem dX12_handedOn_2 : DD cX12_handedOn 2 (.iconst 0) 1 3 := ⟨by decide +kernel, rfl⟩
theorem dX12_handedOn_3 : DD cX12_handedOn 3 (.istore 4) 2 5 := ⟨by decide +kernel, rfl⟩
theorem dX12_handedOn_5 : DD cX12_handedOn 5 (.iload 4) 2 7 := ⟨by decide +kernel, rfl⟩
theorem dX12_handedOn_7 : DD cX12_handedOn 7 (.aload_n 0) 1 8 := ⟨by decide +kernel, rfl⟩
theorem dX12_handedOn_8 : DD cX12_handedOn 8 (.getfield 378) 3 11 := ⟨by decide +kernel, rfl⟩
theorem dX12_handedOn_11 : DD cX12_handedOn 11 (.if_icmp .ge 87) 3 14 := ⟨by decide +kernel, rfl⟩
theorem dX12_handedOn_14 : DD cX12_handedOn 14 (.iconst 0) 1 15 := ⟨by decide +kernel, rfl⟩
theorem dX12_handedOn_15 : DD cX12_handedOn 15 (.istore 5) 2 17 := ⟨by decide +kernel, rfl⟩
theorem dX12_handedOn_17 : DD cX12_handedOn 17 (.iload 5) 2 19 := ⟨by decide +kernel, rfl⟩
theorem dX12_handedOn_19 : DD cX12_handedOn 19 (.aload_n 0) 1 20 := ⟨by decide +kernel, rfl⟩
theorem dX12_handedOn_20 : DD cX12_handedOn 20 (.getfield 378) 3 23 := ⟨by decide +kernel, rfl⟩
theorem dX12_handedOn_23 : DD cX12_handedOn 23 (.if_icmp .ge 69) 3 26 := ⟨by decide +kernel, rfl⟩
theorem dX12_handedOn_26 : DD cX12_handedOn 26 (.iload_n 3) 1 27 := ⟨by decide +kernel, rfl⟩
theorem dX12_handedOn_27 : DD cX12_handedOn 27 (.iload_n 2) 1 28 := ⟨by decide +kernel, rfl⟩
theorem dX12_handedOn_28 : DD cX12_handedOn 28 (.iand) 1 29 := ⟨by decide +kernel, rfl⟩
theorem dX12_handedOn_29 : DD cX12_handedOn 29 (.iconst 1) 1 30 := ⟨by decide +kernel, rfl⟩
theorem dX12_handedOn_30 : DD cX12_handedOn 30 (.iload 5) 2 32 := ⟨by decide +kernel, rfl⟩
theorem dX12_handedOn_32 : DD cX12_handedOn 32 (.ishl) 1 33 := ⟨by decide +kernel, rfl⟩
theorem dX12_handedOn_33 : DD cX12_handedOn 33 (.iand) 1 34 := ⟨by decide +kernel, rfl⟩
theorem dX12_handedOn_34 : DD cX12_handedOn 34 (.ifCond .ne 6) 3 37 := ⟨by decide +kernel, rfl⟩
theorem dX12_handedOn_37 : DD cX12_handedOn 37 (.goto 49) 3 40 := ⟨by decide +kernel, rfl⟩
theorem dX12_handedOn_40 : DD cX12_handedOn 40 (.iconst 0) 1 41 := ⟨by decide +kernel, rfl⟩
theorem dX12_handedOn_41 : DD cX12_handedOn 41 (.istore 6) 2 43 := ⟨by decide +kernel, rfl⟩
theorem dX12_handedOn_43 : DD cX12_handedOn 43 (.iload 6) 2 45 := ⟨by decide +kernel, rfl⟩
theorem dX12_handedOn_45 : DD cX12_handedOn 45 (.aload_n 0) 1 46 := ⟨by decide +kernel, rfl⟩
theorem dX12_handedOn_46 : DD cX12_handedOn 46 (.getfield 378) 3 49 := ⟨by decide +kernel, rfl⟩
theorem dX12_handedOn_49 : DD cX12_handedOn 49 (.if_icmp .ge 37) 3 52 := ⟨by decide +kernel, rfl⟩
theorem dX12_handedOn_52 : DD cX12_handedOn 52 (.iload_n 2) 1 53 := ⟨by decide +kernel, rfl⟩
theorem dX12_handedOn_53 : DD cX12_handedOn 53 (.iload 6) 2 55 := ⟨by decide +kernel, rfl⟩
theorem dX12_handedOn_55 : DD cX12_handedOn 55 (.ishr) 1 56 := ⟨by decide +kernel, rfl⟩
theorem dX12_handedOn_56 : DD cX12_handedOn 56 (.iconst 1) 1 57 := ⟨by decide +kernel, rfl⟩
theorem dX12_handedOn_57 : DD cX12_handedOn 57 (.iand) 1 58 := ⟨by decide +kernel, rfl⟩
theorem dX12_handedOn_58 : DD cX12_handedOn 58 (.iconst 1) 1 59 := ⟨by decide +kernel, rfl⟩
theorem dX12_handedOn_59 : DD cX12_handedOn 59 (.if_icmp .ne 21) 3 62 := ⟨by decide +kernel, rfl⟩
theorem dX12_handedOn_62 : DD cX12_handedOn 62 (.aload_n 0) 1 63 := ⟨by decide +kernel, rfl⟩
theorem dX12_handedOn_63 : DD cX12_handedOn 63 (.iload 5) 2 65 := ⟨by decide +kernel, rfl⟩
theorem dX12_handedOn_65 : DD cX12_handedOn 65 (.iload 6) 2 67 := ⟨by decide +kernel, rfl⟩
theorem dX12_handedOn_67 : DD cX12_handedOn 67 (.invokevirtual 506) 3 70 := ⟨by decide +kernel, rfl⟩
theorem dX12_handedOn_70 : DD cX12_handedOn 70 (.ifCond .eq 10) 3 73 := ⟨by decide +kernel, rfl⟩
theorem dX12_handedOn_73 : DD cX12_handedOn 73 (.iload_n 3) 1 74 := ⟨by decide +kernel, rfl⟩
theorem dX12_handedOn_74 : DD cX12_handedOn 74 (.iconst 1) 1 75 := ⟨by decide +kernel, rfl⟩
theorem dX12_handedOn_75 : DD cX12_handedOn 75 (.iload 6) 2 77 := ⟨by decide +kernel, rfl⟩
theorem dX12_handedOn_77 : DD cX12_handedOn 77 (.ishl) 1 78 := ⟨by decide +kernel, rfl⟩
theorem dX12_handedOn_78 : DD cX12_handedOn 78 (.ior) 1 79 := ⟨by decide +kernel, rfl⟩
theorem dX12_handedOn_79 : DD cX12_handedOn 79 (.istore_n 3) 1 80 := ⟨by decide +kernel, rfl⟩
theorem dX12_handedOn_80 : DD cX12_handedOn 80 (.iinc 6 1) 3 83 := ⟨by decide +kernel, rfl⟩
theorem dX12_handedOn_83 : DD cX12_handedOn 83 (.goto (-40)) 3 86 := ⟨by decide +kernel, rfl⟩
theorem dX12_handedOn_86 : DD cX12_handedOn 86 (.iinc 5 1) 3 89 := ⟨by decide +kernel, rfl⟩
theorem dX12_handedOn_89 : DD cX12_handedOn 89 (.goto (-72)) 3 92 := ⟨by decide +kernel, rfl⟩
theorem dX12_handedOn_92 : DD cX12_handedOn 92 (.iinc 4 1) 3 95 := ⟨by decide +kernel, rfl⟩
theorem dX12_handedOn_95 : DD cX12_handedOn 95 (.goto (-90)) 3 98 := ⟨by decide +kernel, rfl⟩
theorem dX12_handedOn_98 : DD cX12_handedOn 98 (.iload_n 3) 1 99 := ⟨by decide +kernel, rfl⟩
theorem dX12_handedOn_99 : DD cX12_handedOn 99 (.ireturn) 1 100 := ⟨by decide +kernel, rfl⟩
def gX12_handedOn (m : Mem) : Nat → Nat → Int32 → Int32 → Int32 → Int32 → Int32 → Option Int32
  | 0, _, _, _, _, _, _ => none
  | f + 1, 0, x2, x3, x4, x5, x6 => (if (m.1 0 51) ≤ x4 then (some x3) else (gX12_handedOn m f 1 x2 x3 x4 (0 : Int32) 0))
  | f + 1, 1, x2, x3, x4, x5, x6 => (if (m.1 0 51) ≤ x5 then (gX12_handedOn m f 0 x2 x3 (x4 + (1 : Int32)) 0 0) else (if ((x3 &&& x2) &&& ((1 : Int32) <<< (x5 &&& 31))) = 0 then (gX12_handedOn m f 1 x2 x3 x4 (x5 + (1 : Int32)) 0) else (gX12_handedOn m f 2 x2 x3 x4 x5 (0 : Int32))))
  | f + 1, 2, x2, x3, x4, x5, x6 => (if (m.1 0 51) ≤ x6 then (gX12_handedOn m f 1 x2 x3 x4 (x5 + (1 : Int32)) 0) else (if ((x2 >>> (x6 &&& 31)) &&& (1 : Int32)) = (1 : Int32) then (cP (fX12_haveMeet m x5 x6) fun r3 => (if r3 = 0 then (gX12_handedOn m f 2 x2 x3 x4 x5 (x6 + (1 : Int32))) else (nm (x3 ||| ((1 : Int32) <<< (x6 &&& 31))) fun v6 => (gX12_handedOn m f 2 x2 v6 x4 x5 (x6 + (1 : Int32)))))) else (gX12_handedOn m f 2 x2 x3 x4 x5 (x6 + (1 : Int32)))))
  | _ + 1, _ + 3, _, _, _, _, _ => none
def fX12_handedOn (m : Mem) (x1 : Int32) (x2 : Int32) : Option Int32 := (gX12_handedOn m 5000 0 x2 x1 (0 : Int32) 0 0)
set_option maxHeartbeats 4000000 in
set_option maxRecDepth 100000 in
theorem wX12_handedOn {X : Cx} {G : Gt} (h : OkX (X, G, wM, nM) cX12_handedOn RX12 7 (some .int) 2) (m : Mem) : ∀ f : Nat, (∀ (x2 : Int32) (x3 : Int32) (x4 : Int32) (x5 : Int32) (x6 : Int32), JR (X, G, wM, nM) (cvP m) m 5 [some (.ref (G.2.2 0)), none, some (.int x2), some (.int x3), some (.int x4), none, none] [] (gX12_handedOn m f 0 x2 x3 x4 x5 x6)) ∧ (∀ (x2 : Int32) (x3 : Int32) (x4 : Int32) (x5 : Int32) (x6 : Int32), JR (X, G, wM, nM) (cvP m) m 17 [some (.ref (G.2.2 0)), none, some (.int x2), some (.int x3), some (.int x4), some (.int x5), none] [] (gX12_handedOn m f 1 x2 x3 x4 x5 x6)) ∧ (∀ (x2 : Int32) (x3 : Int32) (x4 : Int32) (x5 : Int32) (x6 : Int32), JR (X, G, wM, nM) (cvP m) m 43 [some (.ref (G.2.2 0)), none, some (.int x2), some (.int x3), some (.int x4), some (.int x5), some (.int x6)] [] (gX12_handedOn m f 2 x2 x3 x4 x5 x6)) := by
  intro f
  induction f with
  | zero => exact ⟨(fun _ _ _ _ _ => j_none), (fun _ _ _ _ _ => j_none), (fun _ _ _ _ _ => j_none)⟩
  | succ f ih =>
    refine ⟨?_, ?_, ?_⟩
    · intro x2 x3 x4 x5 x6
      rw [gX12_handedOn]
      refine j_iload h dX12_handedOn_5 rfl ?_
      refine j_aload_n h dX12_handedOn_7 rfl ?_
      refine gM_51 h dX12_handedOn_8 ?_
      refine j_icmp_ge (tgt := 98) h dX12_handedOn_11 (by decide) (fun c1 => ?_) (fun c1 => ?_)
      · refine j_iload_n h dX12_handedOn_98 rfl ?_
        exact j_iret h rfl dX12_handedOn_99
      · refine j_iconst (v := (0 : Int32)) h dX12_handedOn_14 kiconst_0 ?_
        refine j_istore h dX12_handedOn_15 rfl rfl ?_
        refine j_wk (ls' := [some (.ref (G.2.2 0)), none, some (.int x2), some (.int x3), some (.int x4), some (.int (0 : Int32)), none]) (And.intro rfl (And.intro rfl (And.intro rfl (And.intro rfl (And.intro rfl trivial))))) ?_
        exact ih.2.1 x2 x3 x4 (0 : Int32) 0
    · intro x2 x3 x4 x5 x6
      rw [gX12_handedOn]
      refine j_iload h dX12_handedOn_17 rfl ?_
      refine j_aload_n h dX12_handedOn_19 rfl ?_
      refine gM_51 h dX12_handedOn_20 ?_
      refine j_icmp_ge (tgt := 92) h dX12_handedOn_23 (by decide) (fun c1 => ?_) (fun c1 => ?_)
      · refine j_iinc (v := (x4 + (1 : Int32))) h dX12_handedOn_92 rfl (by rw [kiconst_1]) rfl ?_
        refine j_goto (tgt := 5) h dX12_handedOn_95 (by decide) ?_
        refine j_wk (ls' := [some (.ref (G.2.2 0)), none, some (.int x2), some (.int x3), some (.int (x4 + (1 : Int32))), none, none]) (And.intro rfl (And.intro rfl (And.intro rfl (And.intro rfl trivial)))) ?_
        exact ih.1 x2 x3 (x4 + (1 : Int32)) 0 0
      · refine j_iload_n h dX12_handedOn_26 rfl ?_
        refine j_iload_n h dX12_handedOn_27 rfl ?_
        refine j_iand h dX12_handedOn_28 ?_
        refine j_iconst (v := (1 : Int32)) h dX12_handedOn_29 kiconst_1 ?_
        refine j_iload h dX12_handedOn_30 rfl ?_
        refine j_ishl h dX12_handedOn_32 ?_
        refine j_iand h dX12_handedOn_33 ?_
        refine j_if_ne (tgt := 40) h dX12_handedOn_34 (by decide) (fun c2 => ?_) (fun c2 => ?_)
        · refine j_iconst (v := (0 : Int32)) h dX12_handedOn_40 kiconst_0 ?_
          refine j_istore h dX12_handedOn_41 rfl rfl ?_
          refine j_wk (ls' := [some (.ref (G.2.2 0)), none, some (.int x2), some (.int x3), some (.int x4), some (.int x5), some (.int (0 : Int32))]) (And.intro rfl (And.intro rfl (And.intro rfl (And.intro rfl (And.intro rfl (And.intro rfl trivial)))))) ?_
          exact ih.2.2 x2 x3 x4 x5 (0 : Int32)
        · refine j_goto (tgt := 86) h dX12_handedOn_37 (by decide) ?_
          refine j_iinc (v := (x5 + (1 : Int32))) h dX12_handedOn_86 rfl (by rw [kiconst_1]) rfl ?_
          refine j_goto (tgt := 17) h dX12_handedOn_89 (by decide) ?_
          refine j_wk (ls' := [some (.ref (G.2.2 0)), none, some (.int x2), some (.int x3), some (.int x4), some (.int (x5 + (1 : Int32))), none]) (And.intro rfl (And.intro rfl (And.intro rfl (And.intro rfl (And.intro rfl trivial))))) ?_
          exact ih.2.1 x2 x3 x4 (x5 + (1 : Int32)) 0
    · intro x2 x3 x4 x5 x6
      rw [gX12_handedOn]
      refine j_iload h dX12_handedOn_43 rfl ?_
      refine j_aload_n h dX12_handedOn_45 rfl ?_
      refine gM_51 h dX12_handedOn_46 ?_
      refine j_icmp_ge (tgt := 86) h dX12_handedOn_49 (by decide) (fun c1 => ?_) (fun c1 => ?_)
      · refine j_iinc (v := (x5 + (1 : Int32))) h dX12_handedOn_86 rfl (by rw [kiconst_1]) rfl ?_
        refine j_goto (tgt := 17) h dX12_handedOn_89 (by decide) ?_
        refine j_wk (ls' := [some (.ref (G.2.2 0)), none, some (.int x2), some (.int x3), some (.int x4), some (.int (x5 + (1 : Int32))), none]) (And.intro rfl (And.intro rfl (And.intro rfl (And.intro rfl (And.intro rfl trivial))))) ?_
        exact ih.2.1 x2 x3 x4 (x5 + (1 : Int32)) 0
      · refine j_iload_n h dX12_handedOn_52 rfl ?_
        refine j_iload h dX12_handedOn_53 rfl ?_
        refine j_ishr h dX12_handedOn_55 ?_
        refine j_iconst (v := (1 : Int32)) h dX12_handedOn_56 kiconst_1 ?_
        refine j_iand h dX12_handedOn_57 ?_
        refine j_iconst (v := (1 : Int32)) h dX12_handedOn_58 kiconst_1 ?_
        refine j_icmp_ne (tgt := 80) h dX12_handedOn_59 (by decide) (fun c2 => ?_) (fun c2 => ?_)
        · refine j_iinc (v := (x6 + (1 : Int32))) h dX12_handedOn_80 rfl (by rw [kiconst_1]) rfl ?_
          refine j_goto (tgt := 43) h dX12_handedOn_83 (by decide) ?_
          refine j_wk (ls' := [some (.ref (G.2.2 0)), none, some (.int x2), some (.int x3), some (.int x4), some (.int x5), some (.int (x6 + (1 : Int32)))]) (And.intro rfl (And.intro rfl (And.intro rfl (And.intro rfl (And.intro rfl (And.intro rfl trivial)))))) ?_
          exact ih.2.2 x2 x3 x4 x5 (x6 + (1 : Int32))
        · refine j_aload_n h dX12_handedOn_62 rfl ?_
          refine j_iload h dX12_handedOn_63 rfl ?_
          refine j_iload h dX12_handedOn_65 rfl ?_
          refine j_callVP (q0 := 0) (ci := 12) h [.int x5, .int x6] (kX12_haveMeet _ G h.2.2.2.2.2.2.2.2.2.2 m x5 x6) okX12_haveMeet inX12_haveMeet ml12_506 rfl rfl rfl rfl (by decide) (by decide) (Nat.le_of_ble_eq_true rfl) rfl dX12_handedOn_67 (fun r3 hr3 => ?_)
          refine j_if_eq (tgt := 80) h dX12_handedOn_70 (by decide) (fun c5 => ?_) (fun c5 => ?_)
          · refine j_iinc (v := (x6 + (1 : Int32))) h dX12_handedOn_80 rfl (by rw [kiconst_1]) rfl ?_
            refine j_goto (tgt := 43) h dX12_handedOn_83 (by decide) ?_
            refine j_wk (ls' := [some (.ref (G.2.2 0)), none, some (.int x2), some (.int x3), some (.int x4), some (.int x5), some (.int (x6 + (1 : Int32)))]) (And.intro rfl (And.intro rfl (And.intro rfl (And.intro rfl (And.intro rfl (And.intro rfl trivial)))))) ?_
            exact ih.2.2 x2 x3 x4 x5 (x6 + (1 : Int32))
          · refine j_iload_n h dX12_handedOn_73 rfl ?_
            refine j_iconst (v := (1 : Int32)) h dX12_handedOn_74 kiconst_1 ?_
            refine j_iload h dX12_handedOn_75 rfl ?_
            refine j_ishl h dX12_handedOn_77 ?_
            refine j_ior h dX12_handedOn_78 ?_
            refine j_nm (fun v6 hv6 => ?_)
            refine j_istore_n h dX12_handedOn_79 rfl rfl ?_
            refine j_iinc (v := (x6 + (1 : Int32))) h dX12_handedOn_80 rfl (by rw [kiconst_1]) rfl ?_
            refine j_goto (tgt := 43) h dX12_handedOn_83 (by decide) ?_
            refine j_wk (ls' := [some (.ref (G.2.2 0)), none, some (.int x2), some (.int v6), some (.int x4), some (.int x5), some (.int (x6 + (1 : Int32)))]) (And.intro rfl (And.intro rfl (And.intro rfl (And.intro rfl (And.intro rfl (And.intro rfl trivial)))))) ?_
            exact ih.2.2 x2 v6 x4 x5 (x6 + (1 : Int32))
set_option maxHeartbeats 4000000 in
set_option maxRecDepth 100000 in
theorem kX12_handedOn (l : Launch) (G : Gt) (hD : ∀ m, va_D (inA G nM) (wM G m)) (m : Mem) (x1 : Int32) (x2 : Int32) : ∀ a, fX12_handedOn m x1 x2 = some a → Ct l G wM nM yX12_handedOn cX12_handedOn 7 (some .int) 2 [.ref (G.2.2 0), .int x1, .int x2] m ((cvP m) a) := by
  refine ct_of (own := RX12) (ls0 := [some (.ref (G.2.2 0)), some (.int x1), some (.int x2), none, none, none, none]) (by decide) rfl rfl rfl (Nat.le_of_ble_eq_true rfl) hD (fun X h => ?_) l
  unfold fX12_handedOn
  refine j_iload_n h dX12_handedOn_0 rfl ?_
  refine j_istore_n h dX12_handedOn_1 rfl rfl ?_
  refine j_iconst (v := (0 : Int32)) h dX12_handedOn_2 kiconst_0 ?_
  refine j_istore h dX12_handedOn_3 rfl rfl ?_
  refine j_wk (ls' := [some (.ref (G.2.2 0)), none, some (.int x2), some (.int x1), some (.int (0 : Int32)), none, none]) (And.intro rfl (And.intro rfl (And.intro rfl (And.intro rfl trivial)))) ?_
  exact (wX12_handedOn h m 5000).1 x2 x1 (0 : Int32) 0 0
theorem dX12_goLetters_0 : DD cX12_goLetters 0 (.aload_n 0) 1 1 := ⟨by decide +kernel, rfl⟩
theorem dX12_goLetters_1 : DD cX12_goLetters 1 (.iload_n 1) 1 2 := ⟨by decide +kernel, rfl⟩
theorem dX12_goLetters_2 : DD cX12_goLetters 2 (.aload_n 0) 1 3 := ⟨by decide +kernel, rfl⟩
theorem dX12_goLetters_3 : DD cX12_goLetters 3 (.aload_n 0) 1 4 := ⟨by decide +kernel, rfl⟩
theorem dX12_goLetters_4 : DD cX12_goLetters 4 (.getfield 115) 3 7 := ⟨by decide +kernel, rfl⟩
theorem dX12_goLetters_7 : DD cX12_goLetters 7 (.bipush 35) 2 9 := ⟨by decide +kernel, rfl⟩
theorem dX12_goLetters_9 : DD cX12_goLetters 9 (.iaload) 1 10 := ⟨by decide +kernel, rfl⟩
theorem dX12_goLetters_10 : DD cX12_goLetters 10 (.invokevirtual 465) 3 13 := ⟨by decide +kernel, rfl⟩
theorem dX12_goLetters_13 : DD cX12_goLetters 13 (.invokevirtual 509) 3 16 := ⟨by decide +kernel, rfl⟩
theorem dX12_goLetters_16 : DD cX12_goLetters 16 (.istore_n 2) 1 17 := ⟨by decide +kernel, rfl⟩
theorem dX12_goLetters_17 : DD cX12_goLetters 17 (.aload_n 0) 1 18 := ⟨by decide +kernel, rfl⟩
theorem dX12_goLetters_18 : DD cX12_goLetters 18 (.getfield 115) 3 21 := ⟨by decide +kernel, rfl⟩
theorem dX12_goLetters_21 : DD cX12_goLetters 21 (.bipush 35) 2 23 := ⟨by decide +kernel, rfl⟩
theorem dX12_goLetters_23 : DD cX12_goLetters 23 (.dup2) 1 24 := ⟨by decide +kernel, rfl⟩
theorem dX12_goLetters_24 : DD cX12_goLetters 24 (.iaload) 1 25 := ⟨by decide +kernel, rfl⟩
theorem dX12_goLetters_25 : DD cX12_goLetters 25 (.iconst 1) 1 26 := ⟨by decide +kernel, rfl⟩
theorem dX12_goLetters_26 : DD cX12_goLetters 26 (.iadd) 1 27 := ⟨by decide +kernel, rfl⟩
theorem dX12_goLetters_27 : DD cX12_goLetters 27 (.iastore) 1 28 := ⟨by decide +kernel, rfl⟩
theorem dX12_goLetters_28 : DD cX12_goLetters 28 (.aload_n 0) 1 29 := ⟨by decide +kernel, rfl⟩
theorem dX12_goLetters_29 : DD cX12_goLetters 29 (.getfield 115) 3 32 := ⟨by decide +kernel, rfl⟩
theorem dX12_goLetters_32 : DD cX12_goLetters 32 (.bipush 35) 2 34 := ⟨by decide +kernel, rfl⟩
theorem dX12_goLetters_34 : DD cX12_goLetters 34 (.iaload) 1 35 := ⟨by decide +kernel, rfl⟩
theorem dX12_goLetters_35 : DD cX12_goLetters 35 (.bipush 24) 2 37 := ⟨by decide +kernel, rfl⟩
theorem dX12_goLetters_37 : DD cX12_goLetters 37 (.if_icmp .ne 42) 3 40 := ⟨by decide +kernel, rfl⟩
theorem dX12_goLetters_40 : DD cX12_goLetters 40 (.aload_n 0) 1 41 := ⟨by decide +kernel, rfl⟩
theorem dX12_goLetters_41 : DD cX12_goLetters 41 (.getfield 115) 3 44 := ⟨by decide +kernel, rfl⟩
theorem dX12_goLetters_44 : DD cX12_goLetters 44 (.bipush 35) 2 46 := ⟨by decide +kernel, rfl⟩
theorem dX12_goLetters_46 : DD cX12_goLetters 46 (.iconst 0) 1 47 := ⟨by decide +kernel, rfl⟩
theorem dX12_goLetters_47 : DD cX12_goLetters 47 (.iastore) 1 48 := ⟨by decide +kernel, rfl⟩
theorem dX12_goLetters_48 : DD cX12_goLetters 48 (.aload_n 0) 1 49 := ⟨by decide +kernel, rfl⟩
theorem dX12_goLetters_49 : DD cX12_goLetters 49 (.getfield 115) 3 52 := ⟨by decide +kernel, rfl⟩
theorem dX12_goLetters_52 : DD cX12_goLetters 52 (.bipush 36) 2 54 := ⟨by decide +kernel, rfl⟩
theorem dX12_goLetters_54 : DD cX12_goLetters 54 (.aload_n 0) 1 55 := ⟨by decide +kernel, rfl⟩
theorem dX12_goLetters_55 : DD cX12_goLetters 55 (.getfield 115) 3 58 := ⟨by decide +kernel, rfl⟩
theorem dX12_goLetters_58 : DD cX12_goLetters 58 (.bipush 36) 2 60 := ⟨by decide +kernel, rfl⟩
theorem dX12_goLetters_60 : DD cX12_goLetters 60 (.iaload) 1 61 := ⟨by decide +kernel, rfl⟩
theorem dX12_goLetters_61 : DD cX12_goLetters 61 (.iconst 1) 1 62 := ⟨by decide +kernel, rfl⟩
theorem dX12_goLetters_62 : DD cX12_goLetters 62 (.iadd) 1 63 := ⟨by decide +kernel, rfl⟩
theorem dX12_goLetters_63 : DD cX12_goLetters 63 (.sipush 365) 3 66 := ⟨by decide +kernel, rfl⟩
theorem dX12_goLetters_66 : DD cX12_goLetters 66 (.irem) 1 67 := ⟨by decide +kernel, rfl⟩
theorem dX12_goLetters_67 : DD cX12_goLetters 67 (.iastore) 1 68 := ⟨by decide +kernel, rfl⟩
theorem dX12_goLetters_68 : DD cX12_goLetters 68 (.aload_n 0) 1 69 := ⟨by decide +kernel, rfl⟩
theorem dX12_goLetters_69 : DD cX12_goLetters 69 (.aload_n 0) 1 70 := ⟨by decide +kernel, rfl⟩
theorem dX12_goLetters_70 : DD cX12_goLetters 70 (.getfield 115) 3 73 := ⟨by decide +kernel, rfl⟩
theorem dX12_goLetters_73 : DD cX12_goLetters 73 (.bipush 36) 2 75 := ⟨by decide +kernel, rfl⟩
theorem dX12_goLetters_75 : DD cX12_goLetters 75 (.iaload) 1 76 := ⟨by decide +kernel, rfl⟩
theorem dX12_goLetters_76 : DD cX12_goLetters 76 (.invokevirtual 429) 3 79 := ⟨by decide +kernel, rfl⟩
theorem dX12_goLetters_79 : DD cX12_goLetters 79 (.iload_n 2) 1 80 := ⟨by decide +kernel, rfl⟩
theorem dX12_goLetters_80 : DD cX12_goLetters 80 (.ireturn) 1 81 := ⟨by decide +kernel, rfl⟩
def fX12_goLetters (m : Mem) (x1 : Int32) : Option (Int32 × Mem) := (rd (m.1 34) 37 (35 : Int32) fun v1 => (cP (fX12_awakeSet m v1) fun r2 => (cP (fX12_handedOn m x1 r2) fun r4 => (rd (m.1 34) 37 (35 : Int32) fun v6 => (wr m 34 37 (35 : Int32) (v6 + (1 : Int32)) fun m7 => (rd (m7.1 34) 37 (35 : Int32) fun v8 => (if v8 = (24 : Int32) then (wr m7 34 37 (35 : Int32) (0 : Int32) fun m10 => (rd (m10.1 34) 37 (36 : Int32) fun v11 => (wr m10 34 37 (36 : Int32) ((v11 + (1 : Int32)) - (v11 + (1 : Int32)) / (365 : Int32) * (365 : Int32)) fun m12 => (rd (m12.1 34) 37 (36 : Int32) fun v13 => (cV (fX12_layDate m12 v13) fun m15 => (some (r4, m15))))))) else (some (r4, m7)))))))))
set_option maxHeartbeats 4000000 in
set_option maxRecDepth 100000 in
theorem kX12_goLetters (l : Launch) (G : Gt) (hD : ∀ m, va_D (inA G nM) (wM G m)) (m : Mem) (x1 : Int32) : ∀ a, fX12_goLetters m x1 = some a → Ct l G wM nM yX12_goLetters cX12_goLetters 3 (some .int) 6 [.ref (G.2.2 0), .int x1] m (cvI a) := by
  refine ct_of (own := RX12) (ls0 := [some (.ref (G.2.2 0)), some (.int x1), none]) (by decide) rfl rfl rfl (Nat.le_of_ble_eq_true rfl) hD (fun X h => ?_) l
  unfold fX12_goLetters
  refine j_aload_n h dX12_goLetters_0 rfl ?_
  refine j_iload_n h dX12_goLetters_1 rfl ?_
  refine j_aload_n h dX12_goLetters_2 rfl ?_
  refine j_aload_n h dX12_goLetters_3 rfl ?_
  refine gM_56 h dX12_goLetters_4 ?_
  refine j_bipush (v := (35 : Int32)) h dX12_goLetters_7 kbipush_35 ?_
  refine aM_34 h dX12_goLetters_9 (fun v1 hv1 => ?_)
  refine j_callVP (q0 := 0) (ci := 12) h [.int v1] (kX12_awakeSet _ G h.2.2.2.2.2.2.2.2.2.2 m v1) okX12_awakeSet inX12_awakeSet ml12_465 rfl rfl rfl rfl (by decide) (by decide) (Nat.le_of_ble_eq_true rfl) rfl dX12_goLetters_10 (fun r2 hr2 => ?_)
  refine j_callVP (q0 := 0) (ci := 12) h [.int x1, .int r2] (kX12_handedOn _ G h.2.2.2.2.2.2.2.2.2.2 m x1 r2) okX12_handedOn inX12_handedOn ml12_509 rfl rfl rfl rfl (by decide) (by decide) (Nat.le_of_ble_eq_true rfl) rfl dX12_goLetters_13 (fun r4 hr4 => ?_)
  refine j_istore_n h dX12_goLetters_16 rfl rfl ?_
  refine j_aload_n h dX12_goLetters_17 rfl ?_
  refine gM_56 h dX12_goLetters_18 ?_
  refine j_bipush (v := (35 : Int32)) h dX12_goLetters_21 kbipush_35 ?_
  refine j_dup2 h dX12_goLetters_23 rfl rfl ?_
  refine aM_34 h dX12_goLetters_24 (fun v6 hv6 => ?_)
  refine j_iconst (v := (1 : Int32)) h dX12_goLetters_25 kiconst_1 ?_
  refine j_iadd h dX12_goLetters_26 ?_
  refine bM_34 h dX12_goLetters_27 (fun m7 hm7 => ?_)
  refine j_aload_n h dX12_goLetters_28 rfl ?_
  refine gM_56 h dX12_goLetters_29 ?_
  refine j_bipush (v := (35 : Int32)) h dX12_goLetters_32 kbipush_35 ?_
  refine aM_34 h dX12_goLetters_34 (fun v8 hv8 => ?_)
  refine j_bipush (v := (24 : Int32)) h dX12_goLetters_35 kbipush_24 ?_
  refine j_icmp_ne (tgt := 79) h dX12_goLetters_37 (by decide) (fun c9 => ?_) (fun c9 => ?_)
  · refine j_iload_n h dX12_goLetters_79 rfl ?_
    exact j_iret h rfl dX12_goLetters_80
  · refine j_aload_n h dX12_goLetters_40 rfl ?_
    refine gM_56 h dX12_goLetters_41 ?_
    refine j_bipush (v := (35 : Int32)) h dX12_goLetters_44 kbipush_35 ?_
    refine j_iconst (v := (0 : Int32)) h dX12_goLetters_46 kiconst_0 ?_
    refine bM_34 h dX12_goLetters_47 (fun m10 hm10 => ?_)
    refine j_aload_n h dX12_goLetters_48 rfl ?_
    refine gM_56 h dX12_goLetters_49 ?_
    refine j_bipush (v := (36 : Int32)) h dX12_goLetters_52 kbipush_36 ?_
    refine j_aload_n h dX12_goLetters_54 rfl ?_
    refine gM_56 h dX12_goLetters_55 ?_
    refine j_bipush (v := (36 : Int32)) h dX12_goLetters_58 kbipush_36 ?_
    refine aM_34 h dX12_goLetters_60 (fun v11 hv11 => ?_)
    refine j_iconst (v := (1 : Int32)) h dX12_goLetters_61 kiconst_1 ?_
    refine j_iadd h dX12_goLetters_62 ?_
    refine j_sipush (v := (365 : Int32)) h dX12_goLetters_63 ksipush_365 ?_
    refine j_iremB h dX12_goLetters_66 (by decide) ?_
    refine bM_34 h dX12_goLetters_67 (fun m12 hm12 => ?_)
    refine j_aload_n h dX12_goLetters_68 rfl ?_
    refine j_aload_n h dX12_goLetters_69 rfl ?_
    refine gM_56 h dX12_goLetters_70 ?_
    refine j_bipush (v := (36 : Int32)) h dX12_goLetters_73 kbipush_36 ?_
    refine aM_34 h dX12_goLetters_75 (fun v13 hv13 => ?_)
    refine j_callVV (q0 := 0) (ci := 12) h [.int v13] (kX12_layDate _ G h.2.2.2.2.2.2.2.2.2.2 m12 v13) okX12_layDate inX12_layDate ml12_429 rfl rfl rfl rfl (by decide) (by decide) (Nat.le_of_ble_eq_true rfl) rfl dX12_goLetters_76 (fun m15 hm15 => ?_)
    refine j_iload_n h dX12_goLetters_79 rfl ?_
    exact j_iret h rfl dX12_goLetters_80
theorem dX12_post_0 : DD cX12_post 0 (.aload_n 0) 1 1 := ⟨by decide +kernel, rfl⟩
theorem dX12_post_1 : DD cX12_post 1 (.iload_n 1) 1 2 := ⟨by decide +kernel, rfl⟩
theorem dX12_post_2 : DD cX12_post 2 (.invokevirtual 450) 3 5 := ⟨by decide +kernel, rfl⟩
theorem dX12_post_5 : DD cX12_post 5 (.ifCond .eq 11) 3 8 := ⟨by decide +kernel, rfl⟩
theorem dX12_post_8 : DD cX12_post 8 (.aload_n 0) 1 9 := ⟨by decide +kernel, rfl⟩
theorem dX12_post_9 : DD cX12_post 9 (.iload_n 2) 1 10 := ⟨by decide +kernel, rfl⟩
theorem dX12_post_10 : DD cX12_post 10 (.invokevirtual 450) 3 13 := ⟨by decide +kernel, rfl⟩
theorem dX12_post_13 : DD cX12_post 13 (.ifCond .ne 5) 3 16 := ⟨by decide +kernel, rfl⟩
theorem dX12_post_16 : DD cX12_post 16 (.iconst (-1)) 1 17 := ⟨by decide +kernel, rfl⟩
theorem dX12_post_17 : DD cX12_post 17 (.ireturn) 1 18 := ⟨by decide +kernel, rfl⟩
theorem dX12_post_18 : DD cX12_post 18 (.aload_n 0) 1 19 := ⟨by decide +kernel, rfl⟩
theorem dX12_post_19 : DD cX12_post 19 (.aload_n 0) 1 20 := ⟨by decide +kernel, rfl⟩
theorem dX12_post_20 : DD cX12_post 20 (.getfield 112) 3 23 := ⟨by decide +kernel, rfl⟩
theorem dX12_post_23 : DD cX12_post 23 (.bipush 36) 2 25 := ⟨by decide +kernel, rfl⟩
theorem dX12_post_25 : DD cX12_post 25 (.iaload) 1 26 := ⟨by decide +kernel, rfl⟩
theorem dX12_post_26 : DD cX12_post 26 (.invokevirtual 453) 3 29 := ⟨by decide +kernel, rfl⟩
theorem dX12_post_29 : DD cX12_post 29 (.iconst 1) 1 30 := ⟨by decide +kernel, rfl⟩
theorem dX12_post_30 : DD cX12_post 30 (.iload_n 1) 1 31 := ⟨by decide +kernel, rfl⟩
theorem dX12_post_31 : DD cX12_post 31 (.ishl) 1 32 := ⟨by decide +kernel, rfl⟩
theorem dX12_post_32 : DD cX12_post 32 (.istore_n 3) 1 33 := ⟨by decide +kernel, rfl⟩
theorem dX12_post_33 : DD cX12_post 33 (.iconst 0) 1 34 := ⟨by decide +kernel, rfl⟩
theorem dX12_post_34 : DD cX12_post 34 (.istore 4) 2 36 := ⟨by decide +kernel, rfl⟩
theorem dX12_post_36 : DD cX12_post 36 (.iload 4) 2 38 := ⟨by decide +kernel, rfl⟩
theorem dX12_post_38 : DD cX12_post 38 (.sipush 240) 3 41 := ⟨by decide +kernel, rfl⟩
theorem dX12_post_41 : DD cX12_post 41 (.if_icmp .gt 27) 3 44 := ⟨by decide +kernel, rfl⟩
theorem dX12_post_44 : DD cX12_post 44 (.iload_n 3) 1 45 := ⟨by decide +kernel, rfl⟩
theorem dX12_post_45 : DD cX12_post 45 (.iload_n 2) 1 46 := ⟨by decide +kernel, rfl⟩
theorem dX12_post_46 : DD cX12_post 46 (.ishr) 1 47 := ⟨by decide +kernel, rfl⟩
theorem dX12_post_47 : DD cX12_post 47 (.iconst 1) 1 48 := ⟨by decide +kernel, rfl⟩
theorem dX12_post_48 : DD cX12_post 48 (.iand) 1 49 := ⟨by decide +kernel, rfl⟩
theorem dX12_post_49 : DD cX12_post 49 (.iconst 1) 1 50 := ⟨by decide +kernel, rfl⟩
theorem dX12_post_50 : DD cX12_post 50 (.if_icmp .ne 6) 3 53 := ⟨by decide +kernel, rfl⟩
theorem dX12_post_53 : DD cX12_post 53 (.iload 4) 2 55 := ⟨by decide +kernel, rfl⟩
theorem dX12_post_55 : DD cX12_post 55 (.ireturn) 1 56 := ⟨by decide +kernel, rfl⟩
theorem dX12_post_56 : DD cX12_post 56 (.aload_n 0) 1 57 := ⟨by decide +kernel, rfl⟩
theorem dX12_post_57 : DD cX12_post 57 (.iload_n 3) 1 58 := ⟨by decide +kernel, rfl⟩
theorem dX12_post_58 : DD cX12_post 58 (.invokevirtual 512) 3 61 := ⟨by decide +kernel, rfl⟩
theorem dX12_post_61 : DD cX12_post 61 (.istore_n 3) 1 62 := ⟨by decide +kernel, rfl⟩
theorem dX12_post_62 : DD cX12_post 62 (.iinc 4 1) 3 65 := ⟨by decide +kernel, rfl⟩
theorem dX12_post_65 : DD cX12_post 65 (.goto (-29)) 3 68 := ⟨by decide +kernel, rfl⟩
theorem dX12_post_68 : DD cX12_post 68 (.iconst (-1)) 1 69 := ⟨by decide +kernel, rfl⟩
theorem dX12_post_69 : DD cX12_post 69 (.ireturn) 1 70 := ⟨by decide +kernel, rfl⟩
def gX12_post : Nat → Int32 → Int32 → Int32 → Mem → Option (Int32 × Mem)
  | 0, _, _, _, _ => none
  | f + 1, x2, x3, x4, m => (if (240 : Int32) < x4 then (some ((-1 : Int32), m)) else (if ((x3 >>> (x2 &&& 31)) &&& (1 : Int32)) = (1 : Int32) then (some (x4, m)) else (cI (fX12_goLetters m x3) fun r3 m4 => (gX12_post f x2 r3 (x4 + (1 : Int32)) m4))))
def fX12_post (m : Mem) (x1 : Int32) (x2 : Int32) : Option (Int32 × Mem) := (cP (fX12_isPerson m x1) fun r1 => (if r1 = 0 then (some ((-1 : Int32), m)) else (cP (fX12_isPerson m x2) fun r4 => (if r4 = 0 then (some ((-1 : Int32), m)) else (rd (m.1 33) 37 (36 : Int32) fun v7 => (cV (fX12_loadDate m v7) fun m9 => (nm ((1 : Int32) <<< (x1 &&& 31)) fun v10 => (gX12_post 5000 x2 v10 (0 : Int32) m9))))))))
set_option maxHeartbeats 4000000 in
set_option maxRecDepth 100000 in
theorem wX12_post {X : Cx} {G : Gt} (h : OkX (X, G, wM, nM) cX12_post RX12 5 (some .int) 7) : ∀ f : Nat, (∀ (x2 : Int32) (x3 : Int32) (x4 : Int32) (m : Mem), JR (X, G, wM, nM) cvI m 36 [some (.ref (G.2.2 0)), none, some (.int x2), some (.int x3), some (.int x4)] [] (gX12_post f x2 x3 x4 m)) := by
  intro f
  induction f with
  | zero => exact (fun _ _ _ _ => j_none)
  | succ f ih =>
    intro x2 x3 x4 m
    rw [gX12_post]
    refine j_iload h dX12_post_36 rfl ?_
    refine j_sipush (v := (240 : Int32)) h dX12_post_38 ksipush_240 ?_
    refine j_icmp_gt (tgt := 68) h dX12_post_41 (by decide) (fun c1 => ?_) (fun c1 => ?_)
    · refine j_iconst (v := (-1 : Int32)) h dX12_post_68 kiconst_m1 ?_
      exact j_iret h rfl dX12_post_69
    · refine j_iload_n h dX12_post_44 rfl ?_
      refine j_iload_n h dX12_post_45 rfl ?_
      refine j_ishr h dX12_post_46 ?_
      refine j_iconst (v := (1 : Int32)) h dX12_post_47 kiconst_1 ?_
      refine j_iand h dX12_post_48 ?_
      refine j_iconst (v := (1 : Int32)) h dX12_post_49 kiconst_1 ?_
      refine j_icmp_ne (tgt := 56) h dX12_post_50 (by decide) (fun c2 => ?_) (fun c2 => ?_)
      · refine j_aload_n h dX12_post_56 rfl ?_
        refine j_iload_n h dX12_post_57 rfl ?_
        refine j_callVI (q0 := 0) (ci := 12) h [.int x3] (kX12_goLetters _ G h.2.2.2.2.2.2.2.2.2.2 m x3) okX12_goLetters inX12_goLetters ml12_512 rfl rfl rfl rfl (by decide) (by decide) (Nat.le_of_ble_eq_true rfl) rfl dX12_post_58 (fun r3 m4 hr3 => ?_)
        refine j_istore_n h dX12_post_61 rfl rfl ?_
        refine j_iinc (v := (x4 + (1 : Int32))) h dX12_post_62 rfl (by rw [kiconst_1]) rfl ?_
        refine j_goto (tgt := 36) h dX12_post_65 (by decide) ?_
        refine j_wk (ls' := [some (.ref (G.2.2 0)), none, some (.int x2), some (.int r3), some (.int (x4 + (1 : Int32)))]) (And.intro rfl (And.intro rfl (And.intro rfl (And.intro rfl trivial)))) ?_
        exact ih x2 r3 (x4 + (1 : Int32)) m4
      · refine j_iload h dX12_post_53 rfl ?_
        exact j_iret h rfl dX12_post_55
set_option maxHeartbeats 4000000 in
set_option maxRecDepth 100000 in
theorem kX12_post (l : Launch) (G : Gt) (hD : ∀ m, va_D (inA G nM) (wM G m)) (m : Mem) (x1 : Int32) (x2 : Int32) : ∀ a, fX12_post m x1 x2 = some a → Ct l G wM nM yX12_post cX12_post 5 (some .int) 7 [.ref (G.2.2 0), .int x1, .int x2] m (cvI a) := by
  refine ct_of (own := RX12) (ls0 := [some (.ref (G.2.2 0)), some (.int x1), some (.int x2), none, none]) (by decide) rfl rfl rfl (Nat.le_of_ble_eq_true rfl) hD (fun X h => ?_) l
  unfold fX12_post
  refine j_aload_n h dX12_post_0 rfl ?_
  refine j_iload_n h dX12_post_1 rfl ?_
  refine j_callVP (q0 := 0) (ci := 12) h [.int x1] (kX12_isPerson _ G h.2.2.2.2.2.2.2.2.2.2 m x1) okX12_isPerson inX12_isPerson ml12_450 rfl rfl rfl rfl (by decide) (by decide) (Nat.le_of_ble_eq_true rfl) rfl dX12_post_2 (fun r1 hr1 => ?_)
  refine j_if_eq (tgt := 16) h dX12_post_5 (by decide) (fun c3 => ?_) (fun c3 => ?_)
  · refine j_iconst (v := (-1 : Int32)) h dX12_post_16 kiconst_m1 ?_
    exact j_iret h rfl dX12_post_17
  · refine j_aload_n h dX12_post_8 rfl ?_
    refine j_iload_n h dX12_post_9 rfl ?_
    refine j_callVP (q0 := 0) (ci := 12) h [.int x2] (kX12_isPerson _ G h.2.2.2.2.2.2.2.2.2.2 m x2) okX12_isPerson inX12_isPerson ml12_450 rfl rfl rfl rfl (by decide) (by decide) (Nat.le_of_ble_eq_true rfl) rfl dX12_post_10 (fun r4 hr4 => ?_)
    refine j_if_ne (tgt := 18) h dX12_post_13 (by decide) (fun c6 => ?_) (fun c6 => ?_)
    · refine j_aload_n h dX12_post_18 rfl ?_
      refine j_aload_n h dX12_post_19 rfl ?_
      refine gM_55 h dX12_post_20 ?_
      refine j_bipush (v := (36 : Int32)) h dX12_post_23 kbipush_36 ?_
      refine aM_33 h dX12_post_25 (fun v7 hv7 => ?_)
      refine j_callVV (q0 := 0) (ci := 12) h [.int v7] (kX12_loadDate _ G h.2.2.2.2.2.2.2.2.2.2 m v7) okX12_loadDate inX12_loadDate ml12_453 rfl rfl rfl rfl (by decide) (by decide) (Nat.le_of_ble_eq_true rfl) rfl dX12_post_26 (fun m9 hm9 => ?_)
      refine j_iconst (v := (1 : Int32)) h dX12_post_29 kiconst_1 ?_
      refine j_iload_n h dX12_post_30 rfl ?_
      refine j_ishl h dX12_post_31 ?_
      refine j_nm (fun v10 hv10 => ?_)
      refine j_istore_n h dX12_post_32 rfl rfl ?_
      refine j_iconst (v := (0 : Int32)) h dX12_post_33 kiconst_0 ?_
      refine j_istore h dX12_post_34 rfl rfl ?_
      refine j_wk (ls' := [some (.ref (G.2.2 0)), none, some (.int x2), some (.int v10), some (.int (0 : Int32))]) (And.intro rfl (And.intro rfl (And.intro rfl (And.intro rfl trivial)))) ?_
      exact (wX12_post h 5000) x2 v10 (0 : Int32) m9
    · refine j_iconst (v := (-1 : Int32)) h dX12_post_16 kiconst_m1 ?_
      exact j_iret h rfl dX12_post_17
theorem dX12_spread_0 : DD cX12_spread 0 (.aload_n 0) 1 1 := ⟨by decide +kernel, rfl⟩
theorem dX12_spread_1 : DD cX12_spread 1 (.iload_n 1) 1 2 := ⟨by decide +kernel, rfl⟩
theorem dX12_spread_2 : DD cX12_spread 2 (.invokevirtual 450) 3 5 := ⟨by decide +kernel, rfl⟩
theorem dX12_spread_5 : DD cX12_spread 5 (.ifCond .eq 14) 3 8 := ⟨by decide +kernel, rfl⟩
theorem dX12_spread_8 : DD cX12_spread 8 (.iload_n 2) 1 9 := ⟨by decide +kernel, rfl⟩
theorem dX12_spread_9 : DD cX12_spread 9 (.iconst 0) 1 10 := ⟨by decide +kernel, rfl⟩
theorem dX12_spread_10 : DD cX12_spread 10 (.sipush 240) 3 13 := ⟨by decide +kernel, rfl⟩
theorem dX12_spread_13 : DD cX12_spread 13 (.invokestatic 402) 3 16 := ⟨by decide +kernel, rfl⟩
theorem dX12_spread_16 : DD cX12_spread 16 (.ifCond .ne 5) 3 19 := ⟨by decide +kernel, rfl⟩
theorem dX12_spread_19 : DD cX12_spread 19 (.iconst (-1)) 1 20 := ⟨by decide +kernel, rfl⟩
theorem dX12_spread_20 : DD cX12_spread 20 (.ireturn) 1 21 := ⟨by decide +kernel, rfl⟩
theorem dX12_spread_21 : DD cX12_spread 21 (.aload_n 0) 1 22 := ⟨by decide +kernel, rfl⟩
theorem dX12_spread_22 : DD cX12_spread 22 (.aload_n 0) 1 23 := ⟨by decide +kernel, rfl⟩
theorem dX12_spread_23 : DD cX12_spread 23 (.getfield 112) 3 26 := ⟨by decide +kernel, rfl⟩
theorem dX12_spread_26 : DD cX12_spread 26 (.bipush 36) 2 28 := ⟨by decide +kernel, rfl⟩
theorem dX12_spread_28 : DD cX12_spread 28 (.iaload) 1 29 := ⟨by decide +kernel, rfl⟩
theorem dX12_spread_29 : DD cX12_spread 29 (.invokevirtual 453) 3 32 := ⟨by decide +kernel, rfl⟩
theorem dX12_spread_32 : DD cX12_spread 32 (.iconst 1) 1 33 := ⟨by decide +kernel, rfl⟩
theorem dX12_spread_33 : DD cX12_spread 33 (.iload_n 1) 1 34 := ⟨by decide +kernel, rfl⟩
theorem dX12_spread_34 : DD cX12_spread 34 (.ishl) 1 35 := ⟨by decide +kernel, rfl⟩
theorem dX12_spread_35 : DD cX12_spread 35 (.istore_n 3) 1 36 := ⟨by decide +kernel, rfl⟩
theorem dX12_spread_36 : DD cX12_spread 36 (.iconst 0) 1 37 := ⟨by decide +kernel, rfl⟩
theorem dX12_spread_37 : DD cX12_spread 37 (.istore 4) 2 39 := ⟨by decide +kernel, rfl⟩
theorem dX12_spread_39 : DD cX12_spread 39 (.iload 4) 2 41 := ⟨by decide +kernel, rfl⟩
theorem dX12_spread_41 : DD cX12_spread 41 (.iload_n 2) 1 42 := ⟨by decide +kernel, rfl⟩
theorem dX12_spread_42 : DD cX12_spread 42 (.if_icmp .ge 15) 3 45 := ⟨by decide +kernel, rfl⟩
theorem dX12_spread_45 : DD cX12_spread 45 (.aload_n 0) 1 46 := ⟨by decide +kernel, rfl⟩
theorem dX12_spread_46 : DD cX12_spread 46 (.iload_n 3) 1 47 := ⟨by decide +kernel, rfl⟩
theorem dX12_spread_47 : DD cX12_spread 47 (.invokevirtual 512) 3 50 := ⟨by decide +kernel, rfl⟩
theorem dX12_spread_50 : DD cX12_spread 50 (.istore_n 3) 1 51 := ⟨by decide +kernel, rfl⟩
theorem dX12_spread_51 : DD cX12_spread 51 (.iinc 4 1) 3 54 := ⟨by decide +kernel, rfl⟩
theorem dX12_spread_54 : DD cX12_spread 54 (.goto (-15)) 3 57 := ⟨by decide +kernel, rfl⟩
theorem dX12_spread_57 : DD cX12_spread 57 (.iload_n 3) 1 58 := ⟨by decide +kernel, rfl⟩
theorem dX12_spread_58 : DD cX12_spread 58 (.ireturn) 1 59 := ⟨by decide +kernel, rfl⟩
def gX12_spread : Nat → Int32 → Int32 → Int32 → Mem → Option (Int32 × Mem)
  | 0, _, _, _, _ => none
  | f + 1, x2, x3, x4, m => (if x2 ≤ x4 then (some (x3, m)) else (cI (fX12_goLetters m x3) fun r2 m3 => (gX12_spread f x2 r2 (x4 + (1 : Int32)) m3)))
def fX12_spread (m : Mem) (x1 : Int32) (x2 : Int32) : Option (Int32 × Mem) := (cP (fX12_isPerson m x1) fun r1 => (if r1 = 0 then (some ((-1 : Int32), m)) else (cP (fX12_isIn x2 (0 : Int32) (240 : Int32)) fun r4 => (if r4 = 0 then (some ((-1 : Int32), m)) else (rd (m.1 33) 37 (36 : Int32) fun v7 => (cV (fX12_loadDate m v7) fun m9 => (nm ((1 : Int32) <<< (x1 &&& 31)) fun v10 => (gX12_spread 5000 x2 v10 (0 : Int32) m9))))))))
set_option maxHeartbeats 4000000 in
set_option maxRecDepth 100000 in
theorem wX12_spread {X : Cx} {G : Gt} (h : OkX (X, G, wM, nM) cX12_spread RX12 5 (some .int) 7) : ∀ f : Nat, (∀ (x2 : Int32) (x3 : Int32) (x4 : Int32) (m : Mem), JR (X, G, wM, nM) cvI m 39 [some (.ref (G.2.2 0)), none, some (.int x2), some (.int x3), some (.int x4)] [] (gX12_spread f x2 x3 x4 m)) := by
  intro f
  induction f with
  | zero => exact (fun _ _ _ _ => j_none)
  | succ f ih =>
    intro x2 x3 x4 m
    rw [gX12_spread]
    refine j_iload h dX12_spread_39 rfl ?_
    refine j_iload_n h dX12_spread_41 rfl ?_
    refine j_icmp_ge (tgt := 57) h dX12_spread_42 (by decide) (fun c1 => ?_) (fun c1 => ?_)
    · refine j_iload_n h dX12_spread_57 rfl ?_
      exact j_iret h rfl dX12_spread_58
    · refine j_aload_n h dX12_spread_45 rfl ?_
      refine j_iload_n h dX12_spread_46 rfl ?_
      refine j_callVI (q0 := 0) (ci := 12) h [.int x3] (kX12_goLetters _ G h.2.2.2.2.2.2.2.2.2.2 m x3) okX12_goLetters inX12_goLetters ml12_512 rfl rfl rfl rfl (by decide) (by decide) (Nat.le_of_ble_eq_true rfl) rfl dX12_spread_47 (fun r2 m3 hr2 => ?_)
      refine j_istore_n h dX12_spread_50 rfl rfl ?_
      refine j_iinc (v := (x4 + (1 : Int32))) h dX12_spread_51 rfl (by rw [kiconst_1]) rfl ?_
      refine j_goto (tgt := 39) h dX12_spread_54 (by decide) ?_
      refine j_wk (ls' := [some (.ref (G.2.2 0)), none, some (.int x2), some (.int r2), some (.int (x4 + (1 : Int32)))]) (And.intro rfl (And.intro rfl (And.intro rfl (And.intro rfl trivial)))) ?_
      exact ih x2 r2 (x4 + (1 : Int32)) m3
set_option maxHeartbeats 4000000 in
set_option maxRecDepth 100000 in
theorem kX12_spread (l : Launch) (G : Gt) (hD : ∀ m, va_D (inA G nM) (wM G m)) (m : Mem) (x1 : Int32) (x2 : Int32) : ∀ a, fX12_spread m x1 x2 = some a → Ct l G wM nM yX12_spread cX12_spread 5 (some .int) 7 [.ref (G.2.2 0), .int x1, .int x2] m (cvI a) := by
  refine ct_of (own := RX12) (ls0 := [some (.ref (G.2.2 0)), some (.int x1), some (.int x2), none, none]) (by decide) rfl rfl rfl (Nat.le_of_ble_eq_true rfl) hD (fun X h => ?_) l
  unfold fX12_spread
  refine j_aload_n h dX12_spread_0 rfl ?_
  refine j_iload_n h dX12_spread_1 rfl ?_
  refine j_callVP (q0 := 0) (ci := 12) h [.int x1] (kX12_isPerson _ G h.2.2.2.2.2.2.2.2.2.2 m x1) okX12_isPerson inX12_isPerson ml12_450 rfl rfl rfl rfl (by decide) (by decide) (Nat.le_of_ble_eq_true rfl) rfl dX12_spread_2 (fun r1 hr1 => ?_)
  refine j_if_eq (tgt := 19) h dX12_spread_5 (by decide) (fun c3 => ?_) (fun c3 => ?_)
  · refine j_iconst (v := (-1 : Int32)) h dX12_spread_19 kiconst_m1 ?_
    exact j_iret h rfl dX12_spread_20
  · refine j_iload_n h dX12_spread_8 rfl ?_
    refine j_iconst (v := (0 : Int32)) h dX12_spread_9 kiconst_0 ?_
    refine j_sipush (v := (240 : Int32)) h dX12_spread_10 ksipush_240 ?_
    refine j_callSP h [.int x2, .int (0 : Int32), .int (240 : Int32)] (kX12_isIn _ G h.2.2.2.2.2.2.2.2.2.2 m x2 (0 : Int32) (240 : Int32)) okX12_isIn stX12_isIn ml12_402 rfl rfl (by decide) (by decide) (Nat.le_of_ble_eq_true rfl) rfl dX12_spread_13 (fun r4 hr4 => ?_)
    refine j_if_ne (tgt := 21) h dX12_spread_16 (by decide) (fun c6 => ?_) (fun c6 => ?_)
    · refine j_aload_n h dX12_spread_21 rfl ?_
      refine j_aload_n h dX12_spread_22 rfl ?_
      refine gM_55 h dX12_spread_23 ?_
      refine j_bipush (v := (36 : Int32)) h dX12_spread_26 kbipush_36 ?_
      refine aM_33 h dX12_spread_28 (fun v7 hv7 => ?_)
      refine j_callVV (q0 := 0) (ci := 12) h [.int v7] (kX12_loadDate _ G h.2.2.2.2.2.2.2.2.2.2 m v7) okX12_loadDate inX12_loadDate ml12_453 rfl rfl rfl rfl (by decide) (by decide) (Nat.le_of_ble_eq_true rfl) rfl dX12_spread_29 (fun m9 hm9 => ?_)
      refine j_iconst (v := (1 : Int32)) h dX12_spread_32 kiconst_1 ?_
      refine j_iload_n h dX12_spread_33 rfl ?_
      refine j_ishl h dX12_spread_34 ?_
      refine j_nm (fun v10 hv10 => ?_)
      refine j_istore_n h dX12_spread_35 rfl rfl ?_
      refine j_iconst (v := (0 : Int32)) h dX12_spread_36 kiconst_0 ?_
      refine j_istore h dX12_spread_37 rfl rfl ?_
      refine j_wk (ls' := [some (.ref (G.2.2 0)), none, some (.int x2), some (.int v10), some (.int (0 : Int32))]) (And.intro rfl (And.intro rfl (And.intro rfl (And.intro rfl trivial)))) ?_
      exact (wX12_spread h 5000) x2 v10 (0 : Int32) m9
    · refine j_iconst (v := (-1 : Int32)) h dX12_spread_19 kiconst_m1 ?_
      exact j_iret h rfl dX12_spread_20
theorem dX12_wake_0 : DD cX12_wake 0 (.aload_n 0) 1 1 := ⟨by decide +kernel, rfl⟩
theorem dX12_wake_1 : DD cX12_wake 1 (.iload_n 1) 1 2 := ⟨by decide +kernel, rfl⟩
theorem dX12_wake_2 : DD cX12_wake 2 (.invokevirtual 450) 3 5 := ⟨by decide +kernel, rfl⟩
theorem dX12_wake_5 : DD cX12_wake 5 (.ifCond .eq 25) 3 8 := ⟨by decide +kernel, rfl⟩
theorem dX12_wake_8 : DD cX12_wake 8 (.aload_n 0) 1 9 := ⟨by decide +kernel, rfl⟩
theorem dX12_wake_9 : DD cX12_wake 9 (.iload_n 2) 1 10 := ⟨by decide +kernel, rfl⟩
theorem dX12_wake_10 : DD cX12_wake 10 (.invokevirtual 450) 3 13 := ⟨by decide +kernel, rfl⟩
theorem dX12_wake_13 : DD cX12_wake 13 (.ifCond .eq 17) 3 16 := ⟨by decide +kernel, rfl⟩
theorem dX12_wake_16 : DD cX12_wake 16 (.iload_n 1) 1 17 := ⟨by decide +kernel, rfl⟩
theorem dX12_wake_17 : DD cX12_wake 17 (.iload_n 2) 1 18 := ⟨by decide +kernel, rfl⟩
theorem dX12_wake_18 : DD cX12_wake 18 (.if_icmp .eq 12) 3 21 := ⟨by decide +kernel, rfl⟩
theorem dX12_wake_21 : DD cX12_wake 21 (.iload_n 3) 1 22 := ⟨by decide +kernel, rfl⟩
theorem dX12_wake_22 : DD cX12_wake 22 (.iconst 0) 1 23 := ⟨by decide +kernel, rfl⟩
theorem dX12_wake_23 : DD cX12_wake 23 (.iconst 1) 1 24 := ⟨by decide +kernel, rfl⟩
theorem dX12_wake_24 : DD cX12_wake 24 (.invokestatic 402) 3 27 := ⟨by decide +kernel, rfl⟩
theorem dX12_wake_27 : DD cX12_wake 27 (.ifCond .ne 5) 3 30 := ⟨by decide +kernel, rfl⟩
theorem dX12_wake_30 : DD cX12_wake 30 (.iconst (-1)) 1 31 := ⟨by decide +kernel, rfl⟩
theorem dX12_wake_31 : DD cX12_wake 31 (.ireturn) 1 32 := ⟨by decide +kernel, rfl⟩
theorem dX12_wake_32 : DD cX12_wake 32 (.aload_n 0) 1 33 := ⟨by decide +kernel, rfl⟩
theorem dX12_wake_33 : DD cX12_wake 33 (.aload_n 0) 1 34 := ⟨by decide +kernel, rfl⟩
theorem dX12_wake_34 : DD cX12_wake 34 (.getfield 112) 3 37 := ⟨by decide +kernel, rfl⟩
theorem dX12_wake_37 : DD cX12_wake 37 (.bipush 36) 2 39 := ⟨by decide +kernel, rfl⟩
theorem dX12_wake_39 : DD cX12_wake 39 (.iaload) 1 40 := ⟨by decide +kernel, rfl⟩
theorem dX12_wake_40 : DD cX12_wake 40 (.invokevirtual 453) 3 43 := ⟨by decide +kernel, rfl⟩
theorem dX12_wake_43 : DD cX12_wake 43 (.aload_n 0) 1 44 := ⟨by decide +kernel, rfl⟩
theorem dX12_wake_44 : DD cX12_wake 44 (.aload_n 0) 1 45 := ⟨by decide +kernel, rfl⟩
theorem dX12_wake_45 : DD cX12_wake 45 (.getfield 115) 3 48 := ⟨by decide +kernel, rfl⟩
theorem dX12_wake_48 : DD cX12_wake 48 (.bipush 35) 2 50 := ⟨by decide +kernel, rfl⟩
theorem dX12_wake_50 : DD cX12_wake 50 (.iaload) 1 51 := ⟨by decide +kernel, rfl⟩
theorem dX12_wake_51 : DD cX12_wake 51 (.invokevirtual 465) 3 54 := ⟨by decide +kernel, rfl⟩
theorem dX12_wake_54 : DD cX12_wake 54 (.istore 4) 2 56 := ⟨by decide +kernel, rfl⟩
theorem dX12_wake_56 : DD cX12_wake 56 (.iconst (-1)) 1 57 := ⟨by decide +kernel, rfl⟩
theorem dX12_wake_57 : DD cX12_wake 57 (.istore 5) 2 59 := ⟨by decide +kernel, rfl⟩
theorem dX12_wake_59 : DD cX12_wake 59 (.iconst 0) 1 60 := ⟨by decide +kernel, rfl⟩
theorem dX12_wake_60 : DD cX12_wake 60 (.istore 6) 2 62 := ⟨by decide +kernel, rfl⟩
theorem dX12_wake_62 : DD cX12_wake 62 (.iload 6) 2 64 := ⟨by decide +kernel, rfl⟩
theorem dX12_wake_64 : DD cX12_wake 64 (.iconst 1) 1 65 := ⟨by decide +kernel, rfl⟩
theorem dX12_wake_65 : DD cX12_wake 65 (.aload_n 0) 1 66 := ⟨by decide +kernel, rfl⟩
theorem dX12_wake_66 : DD cX12_wake 66 (.getfield 378) 3 69 := ⟨by decide +kernel, rfl⟩
theorem dX12_wake_69 : DD cX12_wake 69 (.ishl) 1 70 := ⟨by decide +kernel, rfl⟩
theorem dX12_wake_70 : DD cX12_wake 70 (.if_icmp .ge 62) 3 73 := ⟨by decide +kernel, rfl⟩
theorem dX12_wake_73 : DD cX12_wake 73 (.iload 6) 2 75 := ⟨by decide +kernel, rfl⟩
theorem dX12_wake_75 : DD cX12_wake 75 (.iload 4) 2 77 := ⟨by decide +kernel, rfl⟩
theorem dX12_wake_77 : DD cX12_wake 77 (.iand) 1 78 := ⟨by decide +kernel, rfl⟩
theorem dX12_wake_78 : DD cX12_wake 78 (.ifCond .ne 48) 3 81 := ⟨by decide +kernel, rfl⟩
theorem dX12_wake_81 : DD cX12_wake 81 (.iload 5) 2 83 := ⟨by decide +kernel, rfl⟩
theorem dX12_wake_83 : DD cX12_wake 83 (.ifCond .lt 19) 3 86 := ⟨by decide +kernel, rfl⟩
theorem dX12_wake_86 : DD cX12_wake 86 (.iload 6) 2 88 := ⟨by decide +kernel, rfl⟩
theorem dX12_wake_88 : DD cX12_wake 88 (.invokestatic 441) 3 91 := ⟨by decide +kernel, rfl⟩
theorem dX12_wake_91 : DD cX12_wake 91 (.iload 5) 2 93 := ⟨by decide +kernel, rfl⟩
theorem dX12_wake_93 : DD cX12_wake 93 (.invokestatic 441) 3 96 := ⟨by decide +kernel, rfl⟩
theorem dX12_wake_96 : DD cX12_wake 96 (.if_icmp .lt 6) 3 99 := ⟨by decide +kernel, rfl⟩
theorem dX12_wake_99 : DD cX12_wake 99 (.goto 27) 3 102 := ⟨by decide +kernel, rfl⟩
theorem dX12_wake_102 : DD cX12_wake 102 (.aload_n 0) 1 103 := ⟨by decide +kernel, rfl⟩
theorem dX12_wake_103 : DD cX12_wake 103 (.iconst 1) 1 104 := ⟨by decide +kernel, rfl⟩
theorem dX12_wake_104 : DD cX12_wake 104 (.iload_n 1) 1 105 := ⟨by decide +kernel, rfl⟩
theorem dX12_wake_105 : DD cX12_wake 105 (.ishl) 1 106 := ⟨by decide +kernel, rfl⟩
theorem dX12_wake_106 : DD cX12_wake 106 (.iload 4) 2 108 := ⟨by decide +kernel, rfl⟩
theorem dX12_wake_108 : DD cX12_wake 108 (.iload 6) 2 110 := ⟨by decide +kernel, rfl⟩
theorem dX12_wake_110 : DD cX12_wake 110 (.ior) 1 111 := ⟨by decide +kernel, rfl⟩
theorem dX12_wake_111 : DD cX12_wake 111 (.invokevirtual 509) 3 114 := ⟨by decide +kernel, rfl⟩
theorem dX12_wake_114 : DD cX12_wake 114 (.iload_n 2) 1 115 := ⟨by decide +kernel, rfl⟩
theorem dX12_wake_115 : DD cX12_wake 115 (.ishr) 1 116 := ⟨by decide +kernel, rfl⟩
theorem dX12_wake_116 : DD cX12_wake 116 (.iconst 1) 1 117 := ⟨by decide +kernel, rfl⟩
theorem dX12_wake_117 : DD cX12_wake 117 (.iand) 1 118 := ⟨by decide +kernel, rfl⟩
theorem dX12_wake_118 : DD cX12_wake 118 (.iconst 1) 1 119 := ⟨by decide +kernel, rfl⟩
theorem dX12_wake_119 : DD cX12_wake 119 (.if_icmp .ne 7) 3 122 := ⟨by decide +kernel, rfl⟩
theorem dX12_wake_122 : DD cX12_wake 122 (.iload 6) 2 124 := ⟨by decide +kernel, rfl⟩
theorem dX12_wake_124 : DD cX12_wake 124 (.istore 5) 2 126 := ⟨by decide +kernel, rfl⟩
theorem dX12_wake_126 : DD cX12_wake 126 (.iinc 6 1) 3 129 := ⟨by decide +kernel, rfl⟩
theorem dX12_wake_129 : DD cX12_wake 129 (.goto (-67)) 3 132 := ⟨by decide +kernel, rfl⟩
theorem dX12_wake_132 : DD cX12_wake 132 (.iload 5) 2 134 := ⟨by decide +kernel, rfl⟩
theorem dX12_wake_134 : DD cX12_wake 134 (.ifCond .ge 7) 3 137 := ⟨by decide +kernel, rfl⟩
theorem dX12_wake_137 : DD cX12_wake 137 (.iconst (-1)) 1 138 := ⟨by decide +kernel, rfl⟩
theorem dX12_wake_138 : DD cX12_wake 138 (.goto 17) 3 141 := ⟨by decide +kernel, rfl⟩
theorem dX12_wake_141 : DD cX12_wake 141 (.iload_n 3) 1 142 := ⟨by decide +kernel, rfl⟩
theorem dX12_wake_142 : DD cX12_wake 142 (.ifCond .ne 11) 3 145 := ⟨by decide +kernel, rfl⟩
theorem dX12_wake_145 : DD cX12_wake 145 (.iload 5) 2 147 := ⟨by decide +kernel, rfl⟩
theorem dX12_wake_147 : DD cX12_wake 147 (.invokestatic 441) 3 150 := ⟨by decide +kernel, rfl⟩
theorem dX12_wake_150 : DD cX12_wake 150 (.goto 5) 3 153 := ⟨by decide +kernel, rfl⟩
theorem dX12_wake_153 : DD cX12_wake 153 (.iload 5) 2 155 := ⟨by decide +kernel, rfl⟩
theorem dX12_wake_155 : DD cX12_wake 155 (.ireturn) 1 156 := ⟨by decide +kernel, rfl⟩
def gX12_wake : Nat → Int32 → Int32 → Int32 → Int32 → Int32 → Int32 → Mem → Option (Int32 × Mem)
  | 0, _, _, _, _, _, _, _ => none
  | f + 1, x1, x2, x3, x4, x5, x6, m => (if ((1 : Int32) <<< ((m.1 0 51) &&& 31)) ≤ x6 then (if 0 ≤ x5 then (if x3 = 0 then (cP (fX12_members x5) fun r4 => (some (r4, m))) else (some (x5, m))) else (some ((-1 : Int32), m))) else (if (x6 &&& x4) = 0 then (if x5 < 0 then (cP (fX12_handedOn m ((1 : Int32) <<< (x1 &&& 31)) (x4 ||| x6)) fun r8 => (if ((r8 >>> (x2 &&& 31)) &&& (1 : Int32)) = (1 : Int32) then (gX12_wake f x1 x2 x3 x4 x6 (x6 + (1 : Int32)) m) else (gX12_wake f x1 x2 x3 x4 x5 (x6 + (1 : Int32)) m))) else (cP (fX12_members x6) fun r11 => (cP (fX12_members x5) fun r13 => (if r11 < r13 then (cP (fX12_handedOn m ((1 : Int32) <<< (x1 &&& 31)) (x4 ||| x6)) fun r16 => (if ((r16 >>> (x2 &&& 31)) &&& (1 : Int32)) = (1 : Int32) then (gX12_wake f x1 x2 x3 x4 x6 (x6 + (1 : Int32)) m) else (gX12_wake f x1 x2 x3 x4 x5 (x6 + (1 : Int32)) m))) else (gX12_wake f x1 x2 x3 x4 x5 (x6 + (1 : Int32)) m))))) else (gX12_wake f x1 x2 x3 x4 x5 (x6 + (1 : Int32)) m)))
def fX12_wake (m : Mem) (x1 : Int32) (x2 : Int32) (x3 : Int32) : Option (Int32 × Mem) := (cP (fX12_isPerson m x1) fun r1 => (if r1 = 0 then (some ((-1 : Int32), m)) else (cP (fX12_isPerson m x2) fun r4 => (if r4 = 0 then (some ((-1 : Int32), m)) else (if x1 = x2 then (some ((-1 : Int32), m)) else (cP (fX12_isIn x3 (0 : Int32) (1 : Int32)) fun r8 => (if r8 = 0 then (some ((-1 : Int32), m)) else (rd (m.1 33) 37 (36 : Int32) fun v11 => (cV (fX12_loadDate m v11) fun m13 => (rd (m13.1 34) 37 (35 : Int32) fun v14 => (cP (fX12_awakeSet m13 v14) fun r15 => (gX12_wake 5000 x1 x2 x3 r15 (-1 : Int32) (0 : Int32) m13))))))))))))
set_option maxHeartbeats 4000000 in
set_option maxRecDepth 100000 in
theorem wX12_wake {X : Cx} {G : Gt} (h : OkX (X, G, wM, nM) cX12_wake RX12 7 (some .int) 7) : ∀ f : Nat, (∀ (x1 : Int32) (x2 : Int32) (x3 : Int32) (x4 : Int32) (x5 : Int32) (x6 : Int32) (m : Mem), JR (X, G, wM, nM) cvI m 62 [some (.ref (G.2.2 0)), some (.int x1), some (.int x2), some (.int x3), some (.int x4), some (.int x5), some (.int x6)] [] (gX12_wake f x1 x2 x3 x4 x5 x6 m)) := by
  intro f
  induction f with
  | zero => exact (fun _ _ _ _ _ _ _ => j_none)
  | succ f ih =>
    intro x1 x2 x3 x4 x5 x6 m
    rw [gX12_wake]
    refine j_iload h dX12_wake_62 rfl ?_
    refine j_iconst (v := (1 : Int32)) h dX12_wake_64 kiconst_1 ?_
    refine j_aload_n h dX12_wake_65 rfl ?_
    refine gM_51 h dX12_wake_66 ?_
    refine j_ishl h dX12_wake_69 ?_
    refine j_icmp_ge (tgt := 132) h dX12_wake_70 (by decide) (fun c1 => ?_) (fun c1 => ?_)
    · refine j_iload h dX12_wake_132 rfl ?_
      refine j_if_ge (tgt := 141) h dX12_wake_134 (by decide) (fun c2 => ?_) (fun c2 => ?_)
      · refine j_iload_n h dX12_wake_141 rfl ?_
        refine j_if_ne (tgt := 153) h dX12_wake_142 (by decide) (fun c3 => ?_) (fun c3 => ?_)
        · refine j_iload h dX12_wake_153 rfl ?_
          exact j_iret h rfl dX12_wake_155
        · refine j_iload h dX12_wake_145 rfl ?_
          refine j_callSP h [.int x5] (kX12_members _ G h.2.2.2.2.2.2.2.2.2.2 m x5) okX12_members stX12_members ml12_441 rfl rfl (by decide) (by decide) (Nat.le_of_ble_eq_true rfl) rfl dX12_wake_147 (fun r4 hr4 => ?_)
          refine j_goto (tgt := 155) h dX12_wake_150 (by decide) ?_
          exact j_iret h rfl dX12_wake_155
      · refine j_iconst (v := (-1 : Int32)) h dX12_wake_137 kiconst_m1 ?_
        refine j_goto (tgt := 155) h dX12_wake_138 (by decide) ?_
        exact j_iret h rfl dX12_wake_155
    · refine j_iload h dX12_wake_73 rfl ?_
      refine j_iload h dX12_wake_75 rfl ?_
      refine j_iand h dX12_wake_77 ?_
      refine j_if_ne (tgt := 126) h dX12_wake_78 (by decide) (fun c6 => ?_) (fun c6 => ?_)
      · refine j_iinc (v := (x6 + (1 : Int32))) h dX12_wake_126 rfl (by rw [kiconst_1]) rfl ?_
        refine j_goto (tgt := 62) h dX12_wake_129 (by decide) ?_
        refine j_wk (ls' := [some (.ref (G.2.2 0)), some (.int x1), some (.int x2), some (.int x3), some (.int x4), some (.int x5), some (.int (x6 + (1 : Int32)))]) (And.intro rfl (And.intro rfl (And.intro rfl (And.intro rfl (And.intro rfl (And.intro rfl (And.intro rfl trivial))))))) ?_
        exact ih x1 x2 x3 x4 x5 (x6 + (1 : Int32)) m
      · refine j_iload h dX12_wake_81 rfl ?_
        refine j_if_lt (tgt := 102) h dX12_wake_83 (by decide) (fun c7 => ?_) (fun c7 => ?_)
        · refine j_aload_n h dX12_wake_102 rfl ?_
          refine j_iconst (v := (1 : Int32)) h dX12_wake_103 kiconst_1 ?_
          refine j_iload_n h dX12_wake_104 rfl ?_
          refine j_ishl h dX12_wake_105 ?_
          refine j_iload h dX12_wake_106 rfl ?_
          refine j_iload h dX12_wake_108 rfl ?_
          refine j_ior h dX12_wake_110 ?_
          refine j_callVP (q0 := 0) (ci := 12) h [.int ((1 : Int32) <<< (x1 &&& 31)), .int (x4 ||| x6)] (kX12_handedOn _ G h.2.2.2.2.2.2.2.2.2.2 m ((1 : Int32) <<< (x1 &&& 31)) (x4 ||| x6)) okX12_handedOn inX12_handedOn ml12_509 rfl rfl rfl rfl (by decide) (by decide) (Nat.le_of_ble_eq_true rfl) rfl dX12_wake_111 (fun r8 hr8 => ?_)
          refine j_iload_n h dX12_wake_114 rfl ?_
          refine j_ishr h dX12_wake_115 ?_
          refine j_iconst (v := (1 : Int32)) h dX12_wake_116 kiconst_1 ?_
          refine j_iand h dX12_wake_117 ?_
          refine j_iconst (v := (1 : Int32)) h dX12_wake_118 kiconst_1 ?_
          refine j_icmp_ne (tgt := 126) h dX12_wake_119 (by decide) (fun c10 => ?_) (fun c10 => ?_)
          · refine j_iinc (v := (x6 + (1 : Int32))) h dX12_wake_126 rfl (by rw [kiconst_1]) rfl ?_
            refine j_goto (tgt := 62) h dX12_wake_129 (by decide) ?_
            refine j_wk (ls' := [some (.ref (G.2.2 0)), some (.int x1), some (.int x2), some (.int x3), some (.int x4), some (.int x5), some (.int (x6 + (1 : Int32)))]) (And.intro rfl (And.intro rfl (And.intro rfl (And.intro rfl (And.intro rfl (And.intro rfl (And.intro rfl trivial))))))) ?_
            exact ih x1 x2 x3 x4 x5 (x6 + (1 : Int32)) m
          · refine j_iload h dX12_wake_122 rfl ?_
            refine j_istore h dX12_wake_124 rfl rfl ?_
            refine j_iinc (v := (x6 + (1 : Int32))) h dX12_wake_126 rfl (by rw [kiconst_1]) rfl ?_
            refine j_goto (tgt := 62) h dX12_wake_129 (by decide) ?_
            refine j_wk (ls' := [some (.ref (G.2.2 0)), some (.int x1), some (.int x2), some (.int x3), some (.int x4), some (.int x6), some (.int (x6 + (1 : Int32)))]) (And.intro rfl (And.intro rfl (And.intro rfl (And.intro rfl (And.intro rfl (And.intro rfl (And.intro rfl trivial))))))) ?_
            exact ih x1 x2 x3 x4 x6 (x6 + (1 : Int32)) m
        · refine j_iload h dX12_wake_86 rfl ?_
          refine j_callSP h [.int x6] (kX12_members _ G h.2.2.2.2.2.2.2.2.2.2 m x6) okX12_members stX12_members ml12_441 rfl rfl (by decide) (by decide) (Nat.le_of_ble_eq_true rfl) rfl dX12_wake_88 (fun r11 hr11 => ?_)
          refine j_iload h dX12_wake_91 rfl ?_
          refine j_callSP h [.int x5] (kX12_members _ G h.2.2.2.2.2.2.2.2.2.2 m x5) okX12_members stX12_members ml12_441 rfl rfl (by decide) (by decide) (Nat.le_of_ble_eq_true rfl) rfl dX12_wake_93 (fun r13 hr13 => ?_)
          refine j_icmp_lt (tgt := 102) h dX12_wake_96 (by decide) (fun c15 => ?_) (fun c15 => ?_)
          · refine j_aload_n h dX12_wake_102 rfl ?_
            refine j_iconst (v := (1 : Int32)) h dX12_wake_103 kiconst_1 ?_
            refine j_iload_n h dX12_wake_104 rfl ?_
            refine j_ishl h dX12_wake_105 ?_
            refine j_iload h dX12_wake_106 rfl ?_
            refine j_iload h dX12_wake_108 rfl ?_
            refine j_ior h dX12_wake_110 ?_
            refine j_callVP (q0 := 0) (ci := 12) h [.int ((1 : Int32) <<< (x1 &&& 31)), .int (x4 ||| x6)] (kX12_handedOn _ G h.2.2.2.2.2.2.2.2.2.2 m ((1 : Int32) <<< (x1 &&& 31)) (x4 ||| x6)) okX12_handedOn inX12_handedOn ml12_509 rfl rfl rfl rfl (by decide) (by decide) (Nat.le_of_ble_eq_true rfl) rfl dX12_wake_111 (fun r16 hr16 => ?_)
            refine j_iload_n h dX12_wake_114 rfl ?_
            refine j_ishr h dX12_wake_115 ?_
            refine j_iconst (v := (1 : Int32)) h dX12_wake_116 kiconst_1 ?_
            refine j_iand h dX12_wake_117 ?_
            refine j_iconst (v := (1 : Int32)) h dX12_wake_118 kiconst_1 ?_
            refine j_icmp_ne (tgt := 126) h dX12_wake_119 (by decide) (fun c18 => ?_) (fun c18 => ?_)
            · refine j_iinc (v := (x6 + (1 : Int32))) h dX12_wake_126 rfl (by rw [kiconst_1]) rfl ?_
              refine j_goto (tgt := 62) h dX12_wake_129 (by decide) ?_
              refine j_wk (ls' := [some (.ref (G.2.2 0)), some (.int x1), some (.int x2), some (.int x3), some (.int x4), some (.int x5), some (.int (x6 + (1 : Int32)))]) (And.intro rfl (And.intro rfl (And.intro rfl (And.intro rfl (And.intro rfl (And.intro rfl (And.intro rfl trivial))))))) ?_
              exact ih x1 x2 x3 x4 x5 (x6 + (1 : Int32)) m
            · refine j_iload h dX12_wake_122 rfl ?_
              refine j_istore h dX12_wake_124 rfl rfl ?_
              refine j_iinc (v := (x6 + (1 : Int32))) h dX12_wake_126 rfl (by rw [kiconst_1]) rfl ?_
              refine j_goto (tgt := 62) h dX12_wake_129 (by decide) ?_
              refine j_wk (ls' := [some (.ref (G.2.2 0)), some (.int x1), some (.int x2), some (.int x3), some (.int x4), some (.int x6), some (.int (x6 + (1 : Int32)))]) (And.intro rfl (And.intro rfl (And.intro rfl (And.intro rfl (And.intro rfl (And.intro rfl (And.intro rfl trivial))))))) ?_
              exact ih x1 x2 x3 x4 x6 (x6 + (1 : Int32)) m
          · refine j_goto (tgt := 126) h dX12_wake_99 (by decide) ?_
            refine j_iinc (v := (x6 + (1 : Int32))) h dX12_wake_126 rfl (by rw [kiconst_1]) rfl ?_
            refine j_goto (tgt := 62) h dX12_wake_129 (by decide) ?_
            refine j_wk (ls' := [some (.ref (G.2.2 0)), some (.int x1), some (.int x2), some (.int x3), some (.int x4), some (.int x5), some (.int (x6 + (1 : Int32)))]) (And.intro rfl (And.intro rfl (And.intro rfl (And.intro rfl (And.intro rfl (And.intro rfl (And.intro rfl trivial))))))) ?_
            exact ih x1 x2 x3 x4 x5 (x6 + (1 : Int32)) m
set_option maxHeartbeats 4000000 in
set_option maxRecDepth 100000 in
theorem kX12_wake (l : Launch) (G : Gt) (hD : ∀ m, va_D (inA G nM) (wM G m)) (m : Mem) (x1 : Int32) (x2 : Int32) (x3 : Int32) : ∀ a, fX12_wake m x1 x2 x3 = some a → Ct l G wM nM yX12_wake cX12_wake 7 (some .int) 7 [.ref (G.2.2 0), .int x1, .int x2, .int x3] m (cvI a) := by
  refine ct_of (own := RX12) (ls0 := [some (.ref (G.2.2 0)), some (.int x1), some (.int x2), some (.int x3), none, none, none]) (by decide) rfl rfl rfl (Nat.le_of_ble_eq_true rfl) hD (fun X h => ?_) l
  unfold fX12_wake
  refine j_aload_n h dX12_wake_0 rfl ?_
  refine j_iload_n h dX12_wake_1 rfl ?_
  refine j_callVP (q0 := 0) (ci := 12) h [.int x1] (kX12_isPerson _ G h.2.2.2.2.2.2.2.2.2.2 m x1) okX12_isPerson inX12_isPerson ml12_450 rfl rfl rfl rfl (by decide) (by decide) (Nat.le_of_ble_eq_true rfl) rfl dX12_wake_2 (fun r1 hr1 => ?_)
  refine j_if_eq (tgt := 30) h dX12_wake_5 (by decide) (fun c3 => ?_) (fun c3 => ?_)
  · refine j_iconst (v := (-1 : Int32)) h dX12_wake_30 kiconst_m1 ?_
    exact j_iret h rfl dX12_wake_31
  · refine j_aload_n h dX12_wake_8 rfl ?_
    refine j_iload_n h dX12_wake_9 rfl ?_
    refine j_callVP (q0 := 0) (ci := 12) h [.int x2] (kX12_isPerson _ G h.2.2.2.2.2.2.2.2.2.2 m x2) okX12_isPerson inX12_isPerson ml12_450 rfl rfl rfl rfl (by decide) (by decide) (Nat.le_of_ble_eq_true rfl) rfl dX12_wake_10 (fun r4 hr4 => ?_)
    refine j_if_eq (tgt := 30) h dX12_wake_13 (by decide) (fun c6 => ?_) (fun c6 => ?_)
    · refine j_iconst (v := (-1 : Int32)) h dX12_wake_30 kiconst_m1 ?_
      exact j_iret h rfl dX12_wake_31
    · refine j_iload_n h dX12_wake_16 rfl ?_
      refine j_iload_n h dX12_wake_17 rfl ?_
      refine j_icmp_eq (tgt := 30) h dX12_wake_18 (by decide) (fun c7 => ?_) (fun c7 => ?_)
      · refine j_iconst (v := (-1 : Int32)) h dX12_wake_30 kiconst_m1 ?_
        exact j_iret h rfl dX12_wake_31
      · refine j_iload_n h dX12_wake_21 rfl ?_
        refine j_iconst (v := (0 : Int32)) h dX12_wake_22 kiconst_0 ?_
        refine j_iconst (v := (1 : Int32)) h dX12_wake_23 kiconst_1 ?_
        refine j_callSP h [.int x3, .int (0 : Int32), .int (1 : Int32)] (kX12_isIn _ G h.2.2.2.2.2.2.2.2.2.2 m x3 (0 : Int32) (1 : Int32)) okX12_isIn stX12_isIn ml12_402 rfl rfl (by decide) (by decide) (Nat.le_of_ble_eq_true rfl) rfl dX12_wake_24 (fun r8 hr8 => ?_)
        refine j_if_ne (tgt := 32) h dX12_wake_27 (by decide) (fun c10 => ?_) (fun c10 => ?_)
        · refine j_aload_n h dX12_wake_32 rfl ?_
          refine j_aload_n h dX12_wake_33 rfl ?_
          refine gM_55 h dX12_wake_34 ?_
          refine j_bipush (v := (36 : Int32)) h dX12_wake_37 kbipush_36 ?_
          refine aM_33 h dX12_wake_39 (fun v11 hv11 => ?_)
          refine j_callVV (q0 := 0) (ci := 12) h [.int v11] (kX12_loadDate _ G h.2.2.2.2.2.2.2.2.2.2 m v11) okX12_loadDate inX12_loadDate ml12_453 rfl rfl rfl rfl (by decide) (by decide) (Nat.le_of_ble_eq_true rfl) rfl dX12_wake_40 (fun m13 hm13 => ?_)
          refine j_aload_n h dX12_wake_43 rfl ?_
          refine j_aload_n h dX12_wake_44 rfl ?_
          refine gM_56 h dX12_wake_45 ?_
          refine j_bipush (v := (35 : Int32)) h dX12_wake_48 kbipush_35 ?_
          refine aM_34 h dX12_wake_50 (fun v14 hv14 => ?_)
          refine j_callVP (q0 := 0) (ci := 12) h [.int v14] (kX12_awakeSet _ G h.2.2.2.2.2.2.2.2.2.2 m13 v14) okX12_awakeSet inX12_awakeSet ml12_465 rfl rfl rfl rfl (by decide) (by decide) (Nat.le_of_ble_eq_true rfl) rfl dX12_wake_51 (fun r15 hr15 => ?_)
          refine j_istore h dX12_wake_54 rfl rfl ?_
          refine j_iconst (v := (-1 : Int32)) h dX12_wake_56 kiconst_m1 ?_
          refine j_istore h dX12_wake_57 rfl rfl ?_
          refine j_iconst (v := (0 : Int32)) h dX12_wake_59 kiconst_0 ?_
          refine j_istore h dX12_wake_60 rfl rfl ?_
          refine j_wk (ls' := [some (.ref (G.2.2 0)), some (.int x1), some (.int x2), some (.int x3), some (.int r15), some (.int (-1 : Int32)), some (.int (0 : Int32))]) (And.intro rfl (And.intro rfl (And.intro rfl (And.intro rfl (And.intro rfl (And.intro rfl (And.intro rfl trivial))))))) ?_
          exact (wX12_wake h 5000) x1 x2 x3 r15 (-1 : Int32) (0 : Int32) m13
        · refine j_iconst (v := (-1 : Int32)) h dX12_wake_30 kiconst_m1 ?_
          exact j_iret h rfl dX12_wake_31
theorem dX12_divisor_0 : DD cX12_divisor 0 (.iload_n 0) 1 1 := ⟨by decide +kernel, rfl⟩
theorem dX12_divisor_1 : DD cX12_divisor 1 (.istore_n 2) 1 2 := ⟨by decide +kernel, rfl⟩
theorem dX12_divisor_2 : DD cX12_divisor 2 (.iload_n 1) 1 3 := ⟨by decide +kernel, rfl⟩
theorem dX12_divisor_3 : DD cX12_divisor 3 (.istore_n 3) 1 4 := ⟨by decide +kernel, rfl⟩
theorem dX12_divisor_4 : DD cX12_divisor 4 (.iload_n 3) 1 5 := ⟨by decide +kernel, rfl⟩
theorem dX12_divisor_5 : DD cX12_divisor 5 (.ifCond .le 16) 3 8 := ⟨by decide +kernel, rfl⟩
theorem dX12_divisor_8 : DD cX12_divisor 8 (.iload_n 2) 1 9 := ⟨by decide +kernel, rfl⟩
theorem dX12_divisor_9 : DD cX12_divisor 9 (.iload_n 3) 1 10 := ⟨by decide +kernel, rfl⟩
theorem dX12_divisor_10 : DD cX12_divisor 10 (.irem) 1 11 := ⟨by decide +kernel, rfl⟩
theorem dX12_divisor_11 : DD cX12_divisor 11 (.istore 4) 2 13 := ⟨by decide +kernel, rfl⟩
theorem dX12_divisor_13 : DD cX12_divisor 13 (.iload_n 3) 1 14 := ⟨by decide +kernel, rfl⟩
theorem dX12_divisor_14 : DD cX12_divisor 14 (.istore_n 2) 1 15 := ⟨by decide +kernel, rfl⟩
theorem dX12_divisor_15 : DD cX12_divisor 15 (.iload 4) 2 17 := ⟨by decide +kernel, rfl⟩
theorem dX12_divisor_17 : DD cX12_divisor 17 (.istore_n 3) 1 18 := ⟨by decide +kernel, rfl⟩
theorem dX12_divisor_18 : DD cX12_divisor 18 (.goto (-14)) 3 21 := ⟨by decide +kernel, rfl⟩
theorem dX12_divisor_21 : DD cX12_divisor 21 (.iload_n 2) 1 22 := ⟨by decide +kernel, rfl⟩
theorem dX12_divisor_22 : DD cX12_divisor 22 (.ireturn) 1 23 := ⟨by decide +kernel, rfl⟩
def gX12_divisor : Nat → Int32 → Int32 → Option Int32
  | 0, _, _ => none
  | f + 1, x2, x3 => (if x3 ≤ 0 then (some x2) else (dv x3 (nm (x2 - x2 / x3 * x3) fun v2 => (gX12_divisor f x3 v2))))
def fX12_divisor (x0 : Int32) (x1 : Int32) : Option Int32 := (gX12_divisor 5000 x0 x1)
set_option maxHeartbeats 4000000 in
set_option maxRecDepth 100000 in
theorem wX12_divisor {X : Cx} {G : Gt} (h : OkX (X, G, wM, nM) cX12_divisor RX12 5 (some .int) 1) (m : Mem) : ∀ f : Nat, (∀ (x2 : Int32) (x3 : Int32), JR (X, G, wM, nM) (cvP m) m 4 [none, none, some (.int x2), some (.int x3), none] [] (gX12_divisor f x2 x3)) := by
  intro f
  induction f with
  | zero => exact (fun _ _ => j_none)
  | succ f ih =>
    intro x2 x3
    rw [gX12_divisor]
    refine j_iload_n h dX12_divisor_4 rfl ?_
    refine j_if_le (tgt := 21) h dX12_divisor_5 (by decide) (fun c1 => ?_) (fun c1 => ?_)
    · refine j_iload_n h dX12_divisor_21 rfl ?_
      exact j_iret h rfl dX12_divisor_22
    · refine j_iload_n h dX12_divisor_8 rfl ?_
      refine j_iload_n h dX12_divisor_9 rfl ?_
      refine j_irem h dX12_divisor_10 ?_
      refine j_nm (fun v2 hv2 => ?_)
      refine j_istore h dX12_divisor_11 rfl rfl ?_
      refine j_iload_n h dX12_divisor_13 rfl ?_
      refine j_istore_n h dX12_divisor_14 rfl rfl ?_
      refine j_iload h dX12_divisor_15 rfl ?_
      refine j_istore_n h dX12_divisor_17 rfl rfl ?_
      refine j_goto (tgt := 4) h dX12_divisor_18 (by decide) ?_
      refine j_wk (ls' := [none, none, some (.int x3), some (.int v2), none]) (And.intro rfl (And.intro rfl trivial)) ?_
      exact ih x3 v2
set_option maxHeartbeats 4000000 in
set_option maxRecDepth 100000 in
theorem kX12_divisor (l : Launch) (G : Gt) (hD : ∀ m, va_D (inA G nM) (wM G m)) (m : Mem) (x0 : Int32) (x1 : Int32) : ∀ a, fX12_divisor x0 x1 = some a → Ct l G wM nM yX12_divisor cX12_divisor 5 (some .int) 1 [.int x0, .int x1] m ((cvP m) a) := by
  refine ct_of (own := RX12) (ls0 := [some (.int x0), some (.int x1), none, none, none]) (by decide) rfl rfl rfl (Nat.le_of_ble_eq_true rfl) hD (fun X h => ?_) l
  unfold fX12_divisor
  refine j_iload_n h dX12_divisor_0 rfl ?_
  refine j_istore_n h dX12_divisor_1 rfl rfl ?_
  refine j_iload_n h dX12_divisor_2 rfl ?_
  refine j_istore_n h dX12_divisor_3 rfl rfl ?_
  refine j_wk (ls' := [none, none, some (.int x0), some (.int x1), none]) (And.intro rfl (And.intro rfl trivial)) ?_
  exact (wX12_divisor h m 5000) x0 x1
theorem dX12_odds_0 : DD cX12_odds 0 (.aload_n 0) 1 1 := ⟨by decide +kernel, rfl⟩
theorem dX12_odds_1 : DD cX12_odds 1 (.iload_n 1) 1 2 := ⟨by decide +kernel, rfl⟩
theorem dX12_odds_2 : DD cX12_odds 2 (.invokevirtual 459) 3 5 := ⟨by decide +kernel, rfl⟩
theorem dX12_odds_5 : DD cX12_odds 5 (.ifCond .eq 19) 3 8 := ⟨by decide +kernel, rfl⟩
theorem dX12_odds_8 : DD cX12_odds 8 (.iload_n 2) 1 9 := ⟨by decide +kernel, rfl⟩
theorem dX12_odds_9 : DD cX12_odds 9 (.invokestatic 462) 3 12 := ⟨by decide +kernel, rfl⟩
theorem dX12_odds_12 : DD cX12_odds 12 (.ifCond .eq 12) 3 15 := ⟨by decide +kernel, rfl⟩
theorem dX12_odds_15 : DD cX12_odds 15 (.iload_n 3) 1 16 := ⟨by decide +kernel, rfl⟩
theorem dX12_odds_16 : DD cX12_odds 16 (.iconst 0) 1 17 := ⟨by decide +kernel, rfl⟩
theorem dX12_odds_17 : DD cX12_odds 17 (.iconst 1) 1 18 := ⟨by decide +kernel, rfl⟩
theorem dX12_odds_18 : DD cX12_odds 18 (.invokestatic 402) 3 21 := ⟨by decide +kernel, rfl⟩
theorem dX12_odds_21 : DD cX12_odds 21 (.ifCond .ne 5) 3 24 := ⟨by decide +kernel, rfl⟩
theorem dX12_odds_24 : DD cX12_odds 24 (.iconst (-1)) 1 25 := ⟨by decide +kernel, rfl⟩
theorem dX12_odds_25 : DD cX12_odds 25 (.ireturn) 1 26 := ⟨by decide +kernel, rfl⟩
theorem dX12_odds_26 : DD cX12_odds 26 (.aload_n 0) 1 27 := ⟨by decide +kernel, rfl⟩
theorem dX12_odds_27 : DD cX12_odds 27 (.iload_n 2) 1 28 := ⟨by decide +kernel, rfl⟩
theorem dX12_odds_28 : DD cX12_odds 28 (.invokevirtual 453) 3 31 := ⟨by decide +kernel, rfl⟩
theorem dX12_odds_31 : DD cX12_odds 31 (.aload_n 0) 1 32 := ⟨by decide +kernel, rfl⟩
theorem dX12_odds_32 : DD cX12_odds 32 (.getfield 118) 3 35 := ⟨by decide +kernel, rfl⟩
theorem dX12_odds_35 : DD cX12_odds 35 (.aload_n 0) 1 36 := ⟨by decide +kernel, rfl⟩
theorem dX12_odds_36 : DD cX12_odds 36 (.getfield 115) 3 39 := ⟨by decide +kernel, rfl⟩
theorem dX12_odds_39 : DD cX12_odds 39 (.aload_n 0) 1 40 := ⟨by decide +kernel, rfl⟩
theorem dX12_odds_40 : DD cX12_odds 40 (.getfield 82) 3 43 := ⟨by decide +kernel, rfl⟩
theorem dX12_odds_43 : DD cX12_odds 43 (.iload_n 1) 1 44 := ⟨by decide +kernel, rfl⟩
theorem dX12_odds_44 : DD cX12_odds 44 (.iaload) 1 45 := ⟨by decide +kernel, rfl⟩
theorem dX12_odds_45 : DD cX12_odds 45 (.iaload) 1 46 := ⟨by decide +kernel, rfl⟩
theorem dX12_odds_46 : DD cX12_odds 46 (.iaload) 1 47 := ⟨by decide +kernel, rfl⟩
theorem dX12_odds_47 : DD cX12_odds 47 (.istore 4) 2 49 := ⟨by decide +kernel, rfl⟩
theorem dX12_odds_49 : DD cX12_odds 49 (.aload_n 0) 1 50 := ⟨by decide +kernel, rfl⟩
theorem dX12_odds_50 : DD cX12_odds 50 (.getfield 118) 3 53 := ⟨by decide +kernel, rfl⟩
theorem dX12_odds_53 : DD cX12_odds 53 (.aload_n 0) 1 54 := ⟨by decide +kernel, rfl⟩
theorem dX12_odds_54 : DD cX12_odds 54 (.getfield 115) 3 57 := ⟨by decide +kernel, rfl⟩
theorem dX12_odds_57 : DD cX12_odds 57 (.aload_n 0) 1 58 := ⟨by decide +kernel, rfl⟩
theorem dX12_odds_58 : DD cX12_odds 58 (.getfield 85) 3 61 := ⟨by decide +kernel, rfl⟩
theorem dX12_odds_61 : DD cX12_odds 61 (.iload_n 1) 1 62 := ⟨by decide +kernel, rfl⟩
theorem dX12_odds_62 : DD cX12_odds 62 (.iaload) 1 63 := ⟨by decide +kernel, rfl⟩
theorem dX12_odds_63 : DD cX12_odds 63 (.iaload) 1 64 := ⟨by decide +kernel, rfl⟩
theorem dX12_odds_64 : DD cX12_odds 64 (.iaload) 1 65 := ⟨by decide +kernel, rfl⟩
theorem dX12_odds_65 : DD cX12_odds 65 (.istore 5) 2 67 := ⟨by decide +kernel, rfl⟩
theorem dX12_odds_67 : DD cX12_odds 67 (.aload_n 0) 1 68 := ⟨by decide +kernel, rfl⟩
theorem dX12_odds_68 : DD cX12_odds 68 (.getfield 67) 3 71 := ⟨by decide +kernel, rfl⟩
theorem dX12_odds_71 : DD cX12_odds 71 (.aload_n 0) 1 72 := ⟨by decide +kernel, rfl⟩
theorem dX12_odds_72 : DD cX12_odds 72 (.getfield 82) 3 75 := ⟨by decide +kernel, rfl⟩
theorem dX12_odds_75 : DD cX12_odds 75 (.iload_n 1) 1 76 := ⟨by decide +kernel, rfl⟩
theorem dX12_odds_76 : DD cX12_odds 76 (.iaload) 1 77 := ⟨by decide +kernel, rfl⟩
theorem dX12_odds_77 : DD cX12_odds 77 (.iaload) 1 78 := ⟨by decide +kernel, rfl⟩
theorem dX12_odds_78 : DD cX12_odds 78 (.istore 6) 2 80 := ⟨by decide +kernel, rfl⟩
theorem dX12_odds_80 : DD cX12_odds 80 (.aload_n 0) 1 81 := ⟨by decide +kernel, rfl⟩
theorem dX12_odds_81 : DD cX12_odds 81 (.getfield 67) 3 84 := ⟨by decide +kernel, rfl⟩
theorem dX12_odds_84 : DD cX12_odds 84 (.aload_n 0) 1 85 := ⟨by decide +kernel, rfl⟩
theorem dX12_odds_85 : DD cX12_odds 85 (.getfield 85) 3 88 := ⟨by decide +kernel, rfl⟩
theorem dX12_odds_88 : DD cX12_odds 88 (.iload_n 1) 1 89 := ⟨by decide +kernel, rfl⟩
theorem dX12_odds_89 : DD cX12_odds 89 (.iaload) 1 90 := ⟨by decide +kernel, rfl⟩
theorem dX12_odds_90 : DD cX12_odds 90 (.iaload) 1 91 := ⟨by decide +kernel, rfl⟩
theorem dX12_odds_91 : DD cX12_odds 91 (.istore 7) 2 93 := ⟨by decide +kernel, rfl⟩
theorem dX12_odds_93 : DD cX12_odds 93 (.iload 6) 2 95 := ⟨by decide +kernel, rfl⟩
theorem dX12_odds_95 : DD cX12_odds 95 (.iload 7) 2 97 := ⟨by decide +kernel, rfl⟩
theorem dX12_odds_97 : DD cX12_odds 97 (.imul) 1 98 := ⟨by decide +kernel, rfl⟩
theorem dX12_odds_98 : DD cX12_odds 98 (.istore 8) 2 100 := ⟨by decide +kernel, rfl⟩
theorem dX12_odds_100 : DD cX12_odds 100 (.iload 8) 2 102 := ⟨by decide +kernel, rfl⟩
theorem dX12_odds_102 : DD cX12_odds 102 (.iload 5) 2 104 := ⟨by decide +kernel, rfl⟩
theorem dX12_odds_104 : DD cX12_odds 104 (.invokestatic 441) 3 107 := ⟨by decide +kernel, rfl⟩
theorem dX12_odds_107 : DD cX12_odds 107 (.aload_n 0) 1 108 := ⟨by decide +kernel, rfl⟩
theorem dX12_odds_108 : DD cX12_odds 108 (.getfield 88) 3 111 := ⟨by decide +kernel, rfl⟩
theorem dX12_odds_111 : DD cX12_odds 111 (.iload_n 1) 1 112 := ⟨by decide +kernel, rfl⟩
theorem dX12_odds_112 : DD cX12_odds 112 (.iaload) 1 113 := ⟨by decide +kernel, rfl⟩
theorem dX12_odds_113 : DD cX12_odds 113 (.if_icmp .lt 14) 3 116 := ⟨by decide +kernel, rfl⟩
theorem dX12_odds_116 : DD cX12_odds 116 (.iload 6) 2 118 := ⟨by decide +kernel, rfl⟩
theorem dX12_odds_118 : DD cX12_odds 118 (.bipush 100) 2 120 := ⟨by decide +kernel, rfl⟩
theorem dX12_odds_120 : DD cX12_odds 120 (.iload 7) 2 122 := ⟨by decide +kernel, rfl⟩
theorem dX12_odds_122 : DD cX12_odds 122 (.isub) 1 123 := ⟨by decide +kernel, rfl⟩
theorem dX12_odds_123 : DD cX12_odds 123 (.imul) 1 124 := ⟨by decide +kernel, rfl⟩
theorem dX12_odds_124 : DD cX12_odds 124 (.goto 4) 3 127 := ⟨by decide +kernel, rfl⟩
theorem dX12_odds_127 : DD cX12_odds 127 (.iconst 0) 1 128 := ⟨by decide +kernel, rfl⟩
theorem dX12_odds_128 : DD cX12_odds 128 (.iadd) 1 129 := ⟨by decide +kernel, rfl⟩
theorem dX12_odds_129 : DD cX12_odds 129 (.istore 8) 2 131 := ⟨by decide +kernel, rfl⟩
theorem dX12_odds_131 : DD cX12_odds 131 (.iload 8) 2 133 := ⟨by decide +kernel, rfl⟩
theorem dX12_odds_133 : DD cX12_odds 133 (.iload 4) 2 135 := ⟨by decide +kernel, rfl⟩
theorem dX12_odds_135 : DD cX12_odds 135 (.invokestatic 441) 3 138 := ⟨by decide +kernel, rfl⟩
theorem dX12_odds_138 : DD cX12_odds 138 (.aload_n 0) 1 139 := ⟨by decide +kernel, rfl⟩
theorem dX12_odds_139 : DD cX12_odds 139 (.getfield 88) 3 142 := ⟨by decide +kernel, rfl⟩
theorem dX12_odds_142 : DD cX12_odds 142 (.iload_n 1) 1 143 := ⟨by decide +kernel, rfl⟩
theorem dX12_odds_143 : DD cX12_odds 143 (.iaload) 1 144 := ⟨by decide +kernel, rfl⟩
theorem dX12_odds_144 : DD cX12_odds 144 (.if_icmp .lt 14) 3 147 := ⟨by decide +kernel, rfl⟩
theorem dX12_odds_147 : DD cX12_odds 147 (.bipush 100) 2 149 := ⟨by decide +kernel, rfl⟩
theorem dX12_odds_149 : DD cX12_odds 149 (.iload 6) 2 151 := ⟨by decide +kernel, rfl⟩
theorem dX12_odds_151 : DD cX12_odds 151 (.isub) 1 152 := ⟨by decide +kernel, rfl⟩
theorem dX12_odds_152 : DD cX12_odds 152 (.iload 7) 2 154 := ⟨by decide +kernel, rfl⟩
theorem dX12_odds_154 : DD cX12_odds 154 (.imul) 1 155 := ⟨by decide +kernel, rfl⟩
theorem dX12_odds_155 : DD cX12_odds 155 (.goto 4) 3 158 := ⟨by decide +kernel, rfl⟩
theorem dX12_odds_158 : DD cX12_odds 158 (.iconst 0) 1 159 := ⟨by decide +kernel, rfl⟩
theorem dX12_odds_159 : DD cX12_odds 159 (.iadd) 1 160 := ⟨by decide +kernel, rfl⟩
theorem dX12_odds_160 : DD cX12_odds 160 (.istore 8) 2 162 := ⟨by decide +kernel, rfl⟩
theorem dX12_odds_162 : DD cX12_odds 162 (.iload 8) 2 164 := ⟨by decide +kernel, rfl⟩
theorem dX12_odds_164 : DD cX12_odds 164 (.iload 4) 2 166 := ⟨by decide +kernel, rfl⟩
theorem dX12_odds_166 : DD cX12_odds 166 (.iload 5) 2 168 := ⟨by decide +kernel, rfl⟩
theorem dX12_odds_168 : DD cX12_odds 168 (.iand) 1 169 := ⟨by decide +kernel, rfl⟩
theorem dX12_odds_169 : DD cX12_odds 169 (.invokestatic 441) 3 172 := ⟨by decide +kernel, rfl⟩
theorem dX12_odds_172 : DD cX12_odds 172 (.aload_n 0) 1 173 := ⟨by decide +kernel, rfl⟩
theorem dX12_odds_173 : DD cX12_odds 173 (.getfield 88) 3 176 := ⟨by decide +kernel, rfl⟩
theorem dX12_odds_176 : DD cX12_odds 176 (.iload_n 1) 1 177 := ⟨by decide +kernel, rfl⟩
theorem dX12_odds_177 : DD cX12_odds 177 (.iaload) 1 178 := ⟨by decide +kernel, rfl⟩
theorem dX12_odds_178 : DD cX12_odds 178 (.if_icmp .lt 17) 3 181 := ⟨by decide +kernel, rfl⟩
theorem dX12_odds_181 : DD cX12_odds 181 (.bipush 100) 2 183 := ⟨by decide +kernel, rfl⟩
theorem dX12_odds_183 : DD cX12_odds 183 (.iload 6) 2 185 := ⟨by decide +kernel, rfl⟩
theorem dX12_odds_185 : DD cX12_odds 185 (.isub) 1 186 := ⟨by decide +kernel, rfl⟩
theorem dX12_odds_186 : DD cX12_odds 186 (.bipush 100) 2 188 := ⟨by decide +kernel, rfl⟩
theorem dX12_odds_188 : DD cX12_odds 188 (.iload 7) 2 190 := ⟨by decide +kernel, rfl⟩
theorem dX12_odds_190 : DD cX12_odds 190 (.isub) 1 191 := ⟨by decide +kernel, rfl⟩
theorem dX12_odds_191 : DD cX12_odds 191 (.imul) 1 192 := ⟨by decide +kernel, rfl⟩
theorem dX12_odds_192 : DD cX12_odds 192 (.goto 4) 3 195 := ⟨by decide +kernel, rfl⟩
theorem dX12_odds_195 : DD cX12_odds 195 (.iconst 0) 1 196 := ⟨by decide +kernel, rfl⟩
theorem dX12_odds_196 : DD cX12_odds 196 (.iadd) 1 197 := ⟨by decide +kernel, rfl⟩
theorem dX12_odds_197 : DD cX12_odds 197 (.istore 8) 2 199 := ⟨by decide +kernel, rfl⟩
theorem dX12_odds_199 : DD cX12_odds 199 (.sipush 10000) 3 202 := ⟨by decide +kernel, rfl⟩
theorem dX12_odds_202 : DD cX12_odds 202 (.iload 8) 2 204 := ⟨by decide +kernel, rfl⟩
theorem dX12_odds_204 : DD cX12_odds 204 (.invokestatic 515) 3 207 := ⟨by decide +kernel, rfl⟩
theorem dX12_odds_207 : DD cX12_odds 207 (.istore 9) 2 209 := ⟨by decide +kernel, rfl⟩
theorem dX12_odds_209 : DD cX12_odds 209 (.iload_n 3) 1 210 := ⟨by decide +kernel, rfl⟩
theorem dX12_odds_210 : DD cX12_odds 210 (.ifCond .ne 11) 3 213 := ⟨by decide +kernel, rfl⟩
theorem dX12_odds_213 : DD cX12_odds 213 (.iload 8) 2 215 := ⟨by decide +kernel, rfl⟩
theorem dX12_odds_215 : DD cX12_odds 215 (.iload 9) 2 217 := ⟨by decide +kernel, rfl⟩
theorem dX12_odds_217 : DD cX12_odds 217 (.idiv) 1 218 := ⟨by decide +kernel, rfl⟩
theorem dX12_odds_218 : DD cX12_odds 218 (.goto 9) 3 221 := ⟨by decide +kernel, rfl⟩
theorem dX12_odds_221 : DD cX12_odds 221 (.sipush 10000) 3 224 := ⟨by decide +kernel, rfl⟩
theorem dX12_odds_224 : DD cX12_odds 224 (.iload 9) 2 226 := ⟨by decide +kernel, rfl⟩
theorem dX12_odds_226 : DD cX12_odds 226 (.idiv) 1 227 := ⟨by decide +kernel, rfl⟩
theorem dX12_odds_227 : DD cX12_odds 227 (.ireturn) 1 228 := ⟨by decide +kernel, rfl⟩
def fX12_odds (m : Mem) (x1 : Int32) (x2 : Int32) (x3 : Int32) : Option (Int32 × Mem) := (cP (fX12_isMeet m x1) fun r1 => (if r1 = 0 then (some ((-1 : Int32), m)) else (cP (fX12_isDate x2) fun r4 => (if r4 = 0 then (some ((-1 : Int32), m)) else (cP (fX12_isIn x3 (0 : Int32) (1 : Int32)) fun r7 => (if r7 = 0 then (some ((-1 : Int32), m)) else (cV (fX12_loadDate m x2) fun m11 => (rd (m11.1 23) 10 x1 fun v12 => (rd (m11.1 34) 37 v12 fun v13 => (rd (m11.1 35) 3 v13 fun v14 => (rd (m11.1 24) 10 x1 fun v15 => (rd (m11.1 34) 37 v15 fun v16 => (rd (m11.1 35) 3 v16 fun v17 => (rd (m11.1 23) 10 x1 fun v18 => (rd (m11.1 18) 7 v18 fun v19 => (rd (m11.1 24) 10 x1 fun v20 => (rd (m11.1 18) 7 v20 fun v21 => (nm (v19 * v21) fun v22 => (cP (fX12_members v17) fun r23 => (rd (m11.1 25) 10 x1 fun v25 => (if r23 < v25 then (nm (v22 + (0 : Int32)) fun v27 => (cP (fX12_members v14) fun r28 => (rd (m11.1 25) 10 x1 fun v30 => (if r28 < v30 then (nm (v27 + (0 : Int32)) fun v32 => (cP (fX12_members (v14 &&& v17)) fun r33 => (rd (m11.1 25) 10 x1 fun v35 => (if r33 < v35 then (nm (v32 + (0 : Int32)) fun v37 => (cP (fX12_divisor (10000 : Int32) v37) fun r38 => (if x3 = 0 then (dv r38 (some ((v37 / r38), m11))) else (dv r38 (some (((10000 : Int32) / r38), m11)))))) else (nm (v32 + (((100 : Int32) - v19) * ((100 : Int32) - v21))) fun v41 => (cP (fX12_divisor (10000 : Int32) v41) fun r42 => (if x3 = 0 then (dv r42 (some ((v41 / r42), m11))) else (dv r42 (some (((10000 : Int32) / r42), m11)))))))))) else (nm (v27 + (((100 : Int32) - v19) * v21)) fun v45 => (cP (fX12_members (v14 &&& v17)) fun r46 => (rd (m11.1 25) 10 x1 fun v48 => (if r46 < v48 then (nm (v45 + (0 : Int32)) fun v50 => (cP (fX12_divisor (10000 : Int32) v50) fun r51 => (if x3 = 0 then (dv r51 (some ((v50 / r51), m11))) else (dv r51 (some (((10000 : Int32) / r51), m11)))))) else (nm (v45 + (((100 : Int32) - v19) * ((100 : Int32) - v21))) fun v54 => (cP (fX12_divisor (10000 : Int32) v54) fun r55 => (if x3 = 0 then (dv r55 (some ((v54 / r55), m11))) else (dv r55 (some (((10000 : Int32) / r55), m11)))))))))))))) else (nm (v22 + (v19 * ((100 : Int32) - v21))) fun v58 => (cP (fX12_members v14) fun r59 => (rd (m11.1 25) 10 x1 fun v61 => (if r59 < v61 then (nm (v58 + (0 : Int32)) fun v63 => (cP (fX12_members (v14 &&& v17)) fun r64 => (rd (m11.1 25) 10 x1 fun v66 => (if r64 < v66 then (nm (v63 + (0 : Int32)) fun v68 => (cP (fX12_divisor (10000 : Int32) v68) fun r69 => (if x3 = 0 then (dv r69 (some ((v68 / r69), m11))) else (dv r69 (some (((10000 : Int32) / r69), m11)))))) else (nm (v63 + (((100 : Int32) - v19) * ((100 : Int32) - v21))) fun v72 => (cP (fX12_divisor (10000 : Int32) v72) fun r73 => (if x3 = 0 then (dv r73 (some ((v72 / r73), m11))) else (dv r73 (some (((10000 : Int32) / r73), m11)))))))))) else (nm (v58 + (((100 : Int32) - v19) * v21)) fun v76 => (cP (fX12_members (v14 &&& v17)) fun r77 => (rd (m11.1 25) 10 x1 fun v79 => (if r77 < v79 then (nm (v76 + (0 : Int32)) fun v81 => (cP (fX12_divisor (10000 : Int32) v81) fun r82 => (if x3 = 0 then (dv r82 (some ((v81 / r82), m11))) else (dv r82 (some (((10000 : Int32) / r82), m11)))))) else (nm (v76 + (((100 : Int32) - v19) * ((100 : Int32) - v21))) fun v85 => (cP (fX12_divisor (10000 : Int32) v85) fun r86 => (if x3 = 0 then (dv r86 (some ((v85 / r86), m11))) else (dv r86 (some (((10000 : Int32) / r86), m11)))))))))))))))))))))))))))))))))))
set_option maxHeartbeats 4000000 in
set_option maxRecDepth 100000 in
theorem kX12_odds (l : Launch) (G : Gt) (hD : ∀ m, va_D (inA G nM) (wM G m)) (m : Mem) (x1 : Int32) (x2 : Int32) (x3 : Int32) : ∀ a, fX12_odds m x1 x2 x3 = some a → Ct l G wM nM yX12_odds cX12_odds 10 (some .int) 7 [.ref (G.2.2 0), .int x1, .int x2, .int x3] m (cvI a) := by
  refine ct_of (own := RX12) (ls0 := [some (.ref (G.2.2 0)), some (.int x1), some (.int x2), some (.int x3), none, none, none, none, none, none]) (by decide) rfl rfl rfl (Nat.le_of_ble_eq_true rfl) hD (fun X h => ?_) l
  unfold fX12_odds
  refine j_aload_n h dX12_odds_0 rfl ?_
  refine j_iload_n h dX12_odds_1 rfl ?_
  refine j_callVP (q0 := 0) (ci := 12) h [.int x1] (kX12_isMeet _ G h.2.2.2.2.2.2.2.2.2.2 m x1) okX12_isMeet inX12_isMeet ml12_459 rfl rfl rfl rfl (by decide) (by decide) (Nat.le_of_ble_eq_true rfl) rfl dX12_odds_2 (fun r1 hr1 => ?_)
  refine j_if_eq (tgt := 24) h dX12_odds_5 (by decide) (fun c3 => ?_) (fun c3 => ?_)
  · refine j_iconst (v := (-1 : Int32)) h dX12_odds_24 kiconst_m1 ?_
    exact j_iret h rfl dX12_odds_25
  · refine j_iload_n h dX12_odds_8 rfl ?_
    refine j_callSP h [.int x2] (kX12_isDate _ G h.2.2.2.2.2.2.2.2.2.2 m x2) okX12_isDate stX12_isDate ml12_462 rfl rfl (by decide) (by decide) (Nat.le_of_ble_eq_true rfl) rfl dX12_odds_9 (fun r4 hr4 => ?_)
    refine j_if_eq (tgt := 24) h dX12_odds_12 (by decide) (fun c6 => ?_) (fun c6 => ?_)
    · refine j_iconst (v := (-1 : Int32)) h dX12_odds_24 kiconst_m1 ?_
      exact j_iret h rfl dX12_odds_25
    · refine j_iload_n h dX12_odds_15 rfl ?_
      refine j_iconst (v := (0 : Int32)) h dX12_odds_16 kiconst_0 ?_
      refine j_iconst (v := (1 : Int32)) h dX12_odds_17 kiconst_1 ?_
      refine j_callSP h [.int x3, .int (0 : Int32), .int (1 : Int32)] (kX12_isIn _ G h.2.2.2.2.2.2.2.2.2.2 m x3 (0 : Int32) (1 : Int32)) okX12_isIn stX12_isIn ml12_402 rfl rfl (by decide) (by decide) (Nat.le_of_ble_eq_true rfl) rfl dX12_odds_18 (fun r7 hr7 => ?_)
      refine j_if_ne (tgt := 26) h dX12_odds_21 (by decide) (fun c9 => ?_) (fun c9 => ?_)
      · refine j_aload_n h dX12_odds_26 rfl ?_
        refine j_iload_n h dX12_odds_27 rfl ?_
        refine j_callVV (q0 := 0) (ci := 12) h [.int x2] (kX12_loadDate _ G h.2.2.2.2.2.2.2.2.2.2 m x2) okX12_loadDate inX12_loadDate ml12_453 rfl rfl rfl rfl (by decide) (by decide) (Nat.le_of_ble_eq_true rfl) rfl dX12_odds_28 (fun m11 hm11 => ?_)
        refine j_aload_n h dX12_odds_31 rfl ?_
        refine gM_57 h dX12_odds_32 ?_
        refine j_aload_n h dX12_odds_35 rfl ?_
        refine gM_56 h dX12_odds_36 ?_
        refine j_aload_n h dX12_odds_39 rfl ?_
        refine gM_37 h dX12_odds_40 ?_
        refine j_iload_n h dX12_odds_43 rfl ?_
        refine aM_23 h dX12_odds_44 (fun v12 hv12 => ?_)
        refine aM_34 h dX12_odds_45 (fun v13 hv13 => ?_)
        refine aM_35 h dX12_odds_46 (fun v14 hv14 => ?_)
        refine j_istore h dX12_odds_47 rfl rfl ?_
        refine j_aload_n h dX12_odds_49 rfl ?_
        refine gM_57 h dX12_odds_50 ?_
        refine j_aload_n h dX12_odds_53 rfl ?_
        refine gM_56 h dX12_odds_54 ?_
        refine j_aload_n h dX12_odds_57 rfl ?_
        refine gM_38 h dX12_odds_58 ?_
        refine j_iload_n h dX12_odds_61 rfl ?_
        refine aM_24 h dX12_odds_62 (fun v15 hv15 => ?_)
        refine aM_34 h dX12_odds_63 (fun v16 hv16 => ?_)
        refine aM_35 h dX12_odds_64 (fun v17 hv17 => ?_)
        refine j_istore h dX12_odds_65 rfl rfl ?_
        refine j_aload_n h dX12_odds_67 rfl ?_
        refine gM_32 h dX12_odds_68 ?_
        refine j_aload_n h dX12_odds_71 rfl ?_
        refine gM_37 h dX12_odds_72 ?_
        refine j_iload_n h dX12_odds_75 rfl ?_
        refine aM_23 h dX12_odds_76 (fun v18 hv18 => ?_)
        refine aM_18 h dX12_odds_77 (fun v19 hv19 => ?_)
        refine j_istore h dX12_odds_78 rfl rfl ?_
        refine j_aload_n h dX12_odds_80 rfl ?_
        refine gM_32 h dX12_odds_81 ?_
        refine j_aload_n h dX12_odds_84 rfl ?_
        refine gM_38 h dX12_odds_85 ?_
        refine j_iload_n h dX12_odds_88 rfl ?_
        refine aM_24 h dX12_odds_89 (fun v20 hv20 => ?_)
        refine aM_18 h dX12_odds_90 (fun v21 hv21 => ?_)
        refine j_istore h dX12_odds_91 rfl rfl ?_
        refine j_iload h dX12_odds_93 rfl ?_
        refine j_iload h dX12_odds_95 rfl ?_
        refine j_imul h dX12_odds_97 ?_
        refine j_nm (fun v22 hv22 => ?_)
        refine j_istore h dX12_odds_98 rfl rfl ?_
        refine j_iload h dX12_odds_100 rfl ?_
        refine j_iload h dX12_odds_102 rfl ?_
        refine j_callSP h [.int v17] (kX12_members _ G h.2.2.2.2.2.2.2.2.2.2 m11 v17) okX12_members stX12_members ml12_441 rfl rfl (by decide) (by decide) (Nat.le_of_ble_eq_true rfl) rfl dX12_odds_104 (fun r23 hr23 => ?_)
        refine j_aload_n h dX12_odds_107 rfl ?_
        refine gM_39 h dX12_odds_108 ?_
        refine j_iload_n h dX12_odds_111 rfl ?_
        refine aM_25 h dX12_odds_112 (fun v25 hv25 => ?_)
        refine j_icmp_lt (tgt := 127) h dX12_odds_113 (by decide) (fun c26 => ?_) (fun c26 => ?_)
        · refine j_iconst (v := (0 : Int32)) h dX12_odds_127 kiconst_0 ?_
          refine j_iadd h dX12_odds_128 ?_
          refine j_nm (fun v27 hv27 => ?_)
          refine j_istore h dX12_odds_129 rfl rfl ?_
          refine j_iload h dX12_odds_131 rfl ?_
          refine j_iload h dX12_odds_133 rfl ?_
          refine j_callSP h [.int v14] (kX12_members _ G h.2.2.2.2.2.2.2.2.2.2 m11 v14) okX12_members stX12_members ml12_441 rfl rfl (by decide) (by decide) (Nat.le_of_ble_eq_true rfl) rfl dX12_odds_135 (fun r28 hr28 => ?_)
          refine j_aload_n h dX12_odds_138 rfl ?_
          refine gM_39 h dX12_odds_139 ?_
          refine j_iload_n h dX12_odds_142 rfl ?_
          refine aM_25 h dX12_odds_143 (fun v30 hv30 => ?_)
          refine j_icmp_lt (tgt := 158) h dX12_odds_144 (by decide) (fun c31 => ?_) (fun c31 => ?_)
          · refine j_iconst (v := (0 : Int32)) h dX12_odds_158 kiconst_0 ?_
            refine j_iadd h dX12_odds_159 ?_
            refine j_nm (fun v32 hv32 => ?_)
            refine j_istore h dX12_odds_160 rfl rfl ?_
            refine j_iload h dX12_odds_162 rfl ?_
            refine j_iload h dX12_odds_164 rfl ?_
            refine j_iload h dX12_odds_166 rfl ?_
            refine j_iand h dX12_odds_168 ?_
            refine j_callSP h [.int (v14 &&& v17)] (kX12_members _ G h.2.2.2.2.2.2.2.2.2.2 m11 (v14 &&& v17)) okX12_members stX12_members ml12_441 rfl rfl (by decide) (by decide) (Nat.le_of_ble_eq_true rfl) rfl dX12_odds_169 (fun r33 hr33 => ?_)
            refine j_aload_n h dX12_odds_172 rfl ?_
            refine gM_39 h dX12_odds_173 ?_
            refine j_iload_n h dX12_odds_176 rfl ?_
            refine aM_25 h dX12_odds_177 (fun v35 hv35 => ?_)
            refine j_icmp_lt (tgt := 195) h dX12_odds_178 (by decide) (fun c36 => ?_) (fun c36 => ?_)
            · refine j_iconst (v := (0 : Int32)) h dX12_odds_195 kiconst_0 ?_
              refine j_iadd h dX12_odds_196 ?_
              refine j_nm (fun v37 hv37 => ?_)
              refine j_istore h dX12_odds_197 rfl rfl ?_
              refine j_sipush (v := (10000 : Int32)) h dX12_odds_199 ksipush_10000 ?_
              refine j_iload h dX12_odds_202 rfl ?_
              refine j_callSP h [.int (10000 : Int32), .int v37] (kX12_divisor _ G h.2.2.2.2.2.2.2.2.2.2 m11 (10000 : Int32) v37) okX12_divisor stX12_divisor ml12_515 rfl rfl (by decide) (by decide) (Nat.le_of_ble_eq_true rfl) rfl dX12_odds_204 (fun r38 hr38 => ?_)
              refine j_istore h dX12_odds_207 rfl rfl ?_
              refine j_iload_n h dX12_odds_209 rfl ?_
              refine j_if_ne (tgt := 221) h dX12_odds_210 (by decide) (fun c40 => ?_) (fun c40 => ?_)
              · refine j_sipush (v := (10000 : Int32)) h dX12_odds_221 ksipush_10000 ?_
                refine j_iload h dX12_odds_224 rfl ?_
                refine j_idiv h dX12_odds_226 ?_
                exact j_iret h rfl dX12_odds_227
              · refine j_iload h dX12_odds_213 rfl ?_
                refine j_iload h dX12_odds_215 rfl ?_
                refine j_idiv h dX12_odds_217 ?_
                refine j_goto (tgt := 227) h dX12_odds_218 (by decide) ?_
                exact j_iret h rfl dX12_odds_227
            · refine j_bipush (v := (100 : Int32)) h dX12_odds_181 kbipush_100 ?_
              refine j_iload h dX12_odds_183 rfl ?_
              refine j_isub h dX12_odds_185 ?_
              refine j_bipush (v := (100 : Int32)) h dX12_odds_186 kbipush_100 ?_
              refine j_iload h dX12_odds_188 rfl ?_
              refine j_isub h dX12_odds_190 ?_
              refine j_imul h dX12_odds_191 ?_
              refine j_goto (tgt := 196) h dX12_odds_192 (by decide) ?_
              refine j_iadd h dX12_odds_196 ?_
              refine j_nm (fun v41 hv41 => ?_)
              refine j_istore h dX12_odds_197 rfl rfl ?_
              refine j_sipush (v := (10000 : Int32)) h dX12_odds_199 ksipush_10000 ?_
              refine j_iload h dX12_odds_202 rfl ?_
              refine j_callSP h [.int (10000 : Int32), .int v41] (kX12_divisor _ G h.2.2.2.2.2.2.2.2.2.2 m11 (10000 : Int32) v41) okX12_divisor stX12_divisor ml12_515 rfl rfl (by decide) (by decide) (Nat.le_of_ble_eq_true rfl) rfl dX12_odds_204 (fun r42 hr42 => ?_)
              refine j_istore h dX12_odds_207 rfl rfl ?_
              refine j_iload_n h dX12_odds_209 rfl ?_
              refine j_if_ne (tgt := 221) h dX12_odds_210 (by decide) (fun c44 => ?_) (fun c44 => ?_)
              · refine j_sipush (v := (10000 : Int32)) h dX12_odds_221 ksipush_10000 ?_
                refine j_iload h dX12_odds_224 rfl ?_
                refine j_idiv h dX12_odds_226 ?_
                exact j_iret h rfl dX12_odds_227
              · refine j_iload h dX12_odds_213 rfl ?_
                refine j_iload h dX12_odds_215 rfl ?_
                refine j_idiv h dX12_odds_217 ?_
                refine j_goto (tgt := 227) h dX12_odds_218 (by decide) ?_
                exact j_iret h rfl dX12_odds_227
          · refine j_bipush (v := (100 : Int32)) h dX12_odds_147 kbipush_100 ?_
            refine j_iload h dX12_odds_149 rfl ?_
            refine j_isub h dX12_odds_151 ?_
            refine j_iload h dX12_odds_152 rfl ?_
            refine j_imul h dX12_odds_154 ?_
            refine j_goto (tgt := 159) h dX12_odds_155 (by decide) ?_
            refine j_iadd h dX12_odds_159 ?_
            refine j_nm (fun v45 hv45 => ?_)
            refine j_istore h dX12_odds_160 rfl rfl ?_
            refine j_iload h dX12_odds_162 rfl ?_
            refine j_iload h dX12_odds_164 rfl ?_
            refine j_iload h dX12_odds_166 rfl ?_
            refine j_iand h dX12_odds_168 ?_
            refine j_callSP h [.int (v14 &&& v17)] (kX12_members _ G h.2.2.2.2.2.2.2.2.2.2 m11 (v14 &&& v17)) okX12_members stX12_members ml12_441 rfl rfl (by decide) (by decide) (Nat.le_of_ble_eq_true rfl) rfl dX12_odds_169 (fun r46 hr46 => ?_)
            refine j_aload_n h dX12_odds_172 rfl ?_
            refine gM_39 h dX12_odds_173 ?_
            refine j_iload_n h dX12_odds_176 rfl ?_
            refine aM_25 h dX12_odds_177 (fun v48 hv48 => ?_)
            refine j_icmp_lt (tgt := 195) h dX12_odds_178 (by decide) (fun c49 => ?_) (fun c49 => ?_)
            · refine j_iconst (v := (0 : Int32)) h dX12_odds_195 kiconst_0 ?_
              refine j_iadd h dX12_odds_196 ?_
              refine j_nm (fun v50 hv50 => ?_)
              refine j_istore h dX12_odds_197 rfl rfl ?_
              refine j_sipush (v := (10000 : Int32)) h dX12_odds_199 ksipush_10000 ?_
              refine j_iload h dX12_odds_202 rfl ?_
              refine j_callSP h [.int (10000 : Int32), .int v50] (kX12_divisor _ G h.2.2.2.2.2.2.2.2.2.2 m11 (10000 : Int32) v50) okX12_divisor stX12_divisor ml12_515 rfl rfl (by decide) (by decide) (Nat.le_of_ble_eq_true rfl) rfl dX12_odds_204 (fun r51 hr51 => ?_)
              refine j_istore h dX12_odds_207 rfl rfl ?_
              refine j_iload_n h dX12_odds_209 rfl ?_
              refine j_if_ne (tgt := 221) h dX12_odds_210 (by decide) (fun c53 => ?_) (fun c53 => ?_)
              · refine j_sipush (v := (10000 : Int32)) h dX12_odds_221 ksipush_10000 ?_
                refine j_iload h dX12_odds_224 rfl ?_
                refine j_idiv h dX12_odds_226 ?_
                exact j_iret h rfl dX12_odds_227
              · refine j_iload h dX12_odds_213 rfl ?_
                refine j_iload h dX12_odds_215 rfl ?_
                refine j_idiv h dX12_odds_217 ?_
                refine j_goto (tgt := 227) h dX12_odds_218 (by decide) ?_
                exact j_iret h rfl dX12_odds_227
            · refine j_bipush (v := (100 : Int32)) h dX12_odds_181 kbipush_100 ?_
              refine j_iload h dX12_odds_183 rfl ?_
              refine j_isub h dX12_odds_185 ?_
              refine j_bipush (v := (100 : Int32)) h dX12_odds_186 kbipush_100 ?_
              refine j_iload h dX12_odds_188 rfl ?_
              refine j_isub h dX12_odds_190 ?_
              refine j_imul h dX12_odds_191 ?_
              refine j_goto (tgt := 196) h dX12_odds_192 (by decide) ?_
              refine j_iadd h dX12_odds_196 ?_
              refine j_nm (fun v54 hv54 => ?_)
              refine j_istore h dX12_odds_197 rfl rfl ?_
              refine j_sipush (v := (10000 : Int32)) h dX12_odds_199 ksipush_10000 ?_
              refine j_iload h dX12_odds_202 rfl ?_
              refine j_callSP h [.int (10000 : Int32), .int v54] (kX12_divisor _ G h.2.2.2.2.2.2.2.2.2.2 m11 (10000 : Int32) v54) okX12_divisor stX12_divisor ml12_515 rfl rfl (by decide) (by decide) (Nat.le_of_ble_eq_true rfl) rfl dX12_odds_204 (fun r55 hr55 => ?_)
              refine j_istore h dX12_odds_207 rfl rfl ?_
              refine j_iload_n h dX12_odds_209 rfl ?_
              refine j_if_ne (tgt := 221) h dX12_odds_210 (by decide) (fun c57 => ?_) (fun c57 => ?_)
              · refine j_sipush (v := (10000 : Int32)) h dX12_odds_221 ksipush_10000 ?_
                refine j_iload h dX12_odds_224 rfl ?_
                refine j_idiv h dX12_odds_226 ?_
                exact j_iret h rfl dX12_odds_227
              · refine j_iload h dX12_odds_213 rfl ?_
                refine j_iload h dX12_odds_215 rfl ?_
                refine j_idiv h dX12_odds_217 ?_
                refine j_goto (tgt := 227) h dX12_odds_218 (by decide) ?_
                exact j_iret h rfl dX12_odds_227
        · refine j_iload h dX12_odds_116 rfl ?_
          refine j_bipush (v := (100 : Int32)) h dX12_odds_118 kbipush_100 ?_
          refine j_iload h dX12_odds_120 rfl ?_
          refine j_isub h dX12_odds_122 ?_
          refine j_imul h dX12_odds_123 ?_
          refine j_goto (tgt := 128) h dX12_odds_124 (by decide) ?_
          refine j_iadd h dX12_odds_128 ?_
          refine j_nm (fun v58 hv58 => ?_)
          refine j_istore h dX12_odds_129 rfl rfl ?_
          refine j_iload h dX12_odds_131 rfl ?_
          refine j_iload h dX12_odds_133 rfl ?_
          refine j_callSP h [.int v14] (kX12_members _ G h.2.2.2.2.2.2.2.2.2.2 m11 v14) okX12_members stX12_members ml12_441 rfl rfl (by decide) (by decide) (Nat.le_of_ble_eq_true rfl) rfl dX12_odds_135 (fun r59 hr59 => ?_)
          refine j_aload_n h dX12_odds_138 rfl ?_
          refine gM_39 h dX12_odds_139 ?_
          refine j_iload_n h dX12_odds_142 rfl ?_
          refine aM_25 h dX12_odds_143 (fun v61 hv61 => ?_)
          refine j_icmp_lt (tgt := 158) h dX12_odds_144 (by decide) (fun c62 => ?_) (fun c62 => ?_)
          · refine j_iconst (v := (0 : Int32)) h dX12_odds_158 kiconst_0 ?_
            refine j_iadd h dX12_odds_159 ?_
            refine j_nm (fun v63 hv63 => ?_)
            refine j_istore h dX12_odds_160 rfl rfl ?_
            refine j_iload h dX12_odds_162 rfl ?_
            refine j_iload h dX12_odds_164 rfl ?_
            refine j_iload h dX12_odds_166 rfl ?_
            refine j_iand h dX12_odds_168 ?_
            refine j_callSP h [.int (v14 &&& v17)] (kX12_members _ G h.2.2.2.2.2.2.2.2.2.2 m11 (v14 &&& v17)) okX12_members stX12_members ml12_441 rfl rfl (by decide) (by decide) (Nat.le_of_ble_eq_true rfl) rfl dX12_odds_169 (fun r64 hr64 => ?_)
            refine j_aload_n h dX12_odds_172 rfl ?_
            refine gM_39 h dX12_odds_173 ?_
            refine j_iload_n h dX12_odds_176 rfl ?_
            refine aM_25 h dX12_odds_177 (fun v66 hv66 => ?_)
            refine j_icmp_lt (tgt := 195) h dX12_odds_178 (by decide) (fun c67 => ?_) (fun c67 => ?_)
            · refine j_iconst (v := (0 : Int32)) h dX12_odds_195 kiconst_0 ?_
              refine j_iadd h dX12_odds_196 ?_
              refine j_nm (fun v68 hv68 => ?_)
              refine j_istore h dX12_odds_197 rfl rfl ?_
              refine j_sipush (v := (10000 : Int32)) h dX12_odds_199 ksipush_10000 ?_
              refine j_iload h dX12_odds_202 rfl ?_
              refine j_callSP h [.int (10000 : Int32), .int v68] (kX12_divisor _ G h.2.2.2.2.2.2.2.2.2.2 m11 (10000 : Int32) v68) okX12_divisor stX12_divisor ml12_515 rfl rfl (by decide) (by decide) (Nat.le_of_ble_eq_true rfl) rfl dX12_odds_204 (fun r69 hr69 => ?_)
              refine j_istore h dX12_odds_207 rfl rfl ?_
              refine j_iload_n h dX12_odds_209 rfl ?_
              refine j_if_ne (tgt := 221) h dX12_odds_210 (by decide) (fun c71 => ?_) (fun c71 => ?_)
              · refine j_sipush (v := (10000 : Int32)) h dX12_odds_221 ksipush_10000 ?_
                refine j_iload h dX12_odds_224 rfl ?_
                refine j_idiv h dX12_odds_226 ?_
                exact j_iret h rfl dX12_odds_227
              · refine j_iload h dX12_odds_213 rfl ?_
                refine j_iload h dX12_odds_215 rfl ?_
                refine j_idiv h dX12_odds_217 ?_
                refine j_goto (tgt := 227) h dX12_odds_218 (by decide) ?_
                exact j_iret h rfl dX12_odds_227
            · refine j_bipush (v := (100 : Int32)) h dX12_odds_181 kbipush_100 ?_
              refine j_iload h dX12_odds_183 rfl ?_
              refine j_isub h dX12_odds_185 ?_
              refine j_bipush (v := (100 : Int32)) h dX12_odds_186 kbipush_100 ?_
              refine j_iload h dX12_odds_188 rfl ?_
              refine j_isub h dX12_odds_190 ?_
              refine j_imul h dX12_odds_191 ?_
              refine j_goto (tgt := 196) h dX12_odds_192 (by decide) ?_
              refine j_iadd h dX12_odds_196 ?_
              refine j_nm (fun v72 hv72 => ?_)
              refine j_istore h dX12_odds_197 rfl rfl ?_
              refine j_sipush (v := (10000 : Int32)) h dX12_odds_199 ksipush_10000 ?_
              refine j_iload h dX12_odds_202 rfl ?_
              refine j_callSP h [.int (10000 : Int32), .int v72] (kX12_divisor _ G h.2.2.2.2.2.2.2.2.2.2 m11 (10000 : Int32) v72) okX12_divisor stX12_divisor ml12_515 rfl rfl (by decide) (by decide) (Nat.le_of_ble_eq_true rfl) rfl dX12_odds_204 (fun r73 hr73 => ?_)
              refine j_istore h dX12_odds_207 rfl rfl ?_
              refine j_iload_n h dX12_odds_209 rfl ?_
              refine j_if_ne (tgt := 221) h dX12_odds_210 (by decide) (fun c75 => ?_) (fun c75 => ?_)
              · refine j_sipush (v := (10000 : Int32)) h dX12_odds_221 ksipush_10000 ?_
                refine j_iload h dX12_odds_224 rfl ?_
                refine j_idiv h dX12_odds_226 ?_
                exact j_iret h rfl dX12_odds_227
              · refine j_iload h dX12_odds_213 rfl ?_
                refine j_iload h dX12_odds_215 rfl ?_
                refine j_idiv h dX12_odds_217 ?_
                refine j_goto (tgt := 227) h dX12_odds_218 (by decide) ?_
                exact j_iret h rfl dX12_odds_227
          · refine j_bipush (v := (100 : Int32)) h dX12_odds_147 kbipush_100 ?_
            refine j_iload h dX12_odds_149 rfl ?_
            refine j_isub h dX12_odds_151 ?_
            refine j_iload h dX12_odds_152 rfl ?_
            refine j_imul h dX12_odds_154 ?_
            refine j_goto (tgt := 159) h dX12_odds_155 (by decide) ?_
            refine j_iadd h dX12_odds_159 ?_
            refine j_nm (fun v76 hv76 => ?_)
            refine j_istore h dX12_odds_160 rfl rfl ?_
            refine j_iload h dX12_odds_162 rfl ?_
            refine j_iload h dX12_odds_164 rfl ?_
            refine j_iload h dX12_odds_166 rfl ?_
            refine j_iand h dX12_odds_168 ?_
            refine j_callSP h [.int (v14 &&& v17)] (kX12_members _ G h.2.2.2.2.2.2.2.2.2.2 m11 (v14 &&& v17)) okX12_members stX12_members ml12_441 rfl rfl (by decide) (by decide) (Nat.le_of_ble_eq_true rfl) rfl dX12_odds_169 (fun r77 hr77 => ?_)
            refine j_aload_n h dX12_odds_172 rfl ?_
            refine gM_39 h dX12_odds_173 ?_
            refine j_iload_n h dX12_odds_176 rfl ?_
            refine aM_25 h dX12_odds_177 (fun v79 hv79 => ?_)
            refine j_icmp_lt (tgt := 195) h dX12_odds_178 (by decide) (fun c80 => ?_) (fun c80 => ?_)
            · refine j_iconst (v := (0 : Int32)) h dX12_odds_195 kiconst_0 ?_
              refine j_iadd h dX12_odds_196 ?_
              refine j_nm (fun v81 hv81 => ?_)
              refine j_istore h dX12_odds_197 rfl rfl ?_
              refine j_sipush (v := (10000 : Int32)) h dX12_odds_199 ksipush_10000 ?_
              refine j_iload h dX12_odds_202 rfl ?_
              refine j_callSP h [.int (10000 : Int32), .int v81] (kX12_divisor _ G h.2.2.2.2.2.2.2.2.2.2 m11 (10000 : Int32) v81) okX12_divisor stX12_divisor ml12_515 rfl rfl (by decide) (by decide) (Nat.le_of_ble_eq_true rfl) rfl dX12_odds_204 (fun r82 hr82 => ?_)
              refine j_istore h dX12_odds_207 rfl rfl ?_
              refine j_iload_n h dX12_odds_209 rfl ?_
              refine j_if_ne (tgt := 221) h dX12_odds_210 (by decide) (fun c84 => ?_) (fun c84 => ?_)
              · refine j_sipush (v := (10000 : Int32)) h dX12_odds_221 ksipush_10000 ?_
                refine j_iload h dX12_odds_224 rfl ?_
                refine j_idiv h dX12_odds_226 ?_
                exact j_iret h rfl dX12_odds_227
              · refine j_iload h dX12_odds_213 rfl ?_
                refine j_iload h dX12_odds_215 rfl ?_
                refine j_idiv h dX12_odds_217 ?_
                refine j_goto (tgt := 227) h dX12_odds_218 (by decide) ?_
                exact j_iret h rfl dX12_odds_227
            · refine j_bipush (v := (100 : Int32)) h dX12_odds_181 kbipush_100 ?_
              refine j_iload h dX12_odds_183 rfl ?_
              refine j_isub h dX12_odds_185 ?_
              refine j_bipush (v := (100 : Int32)) h dX12_odds_186 kbipush_100 ?_
              refine j_iload h dX12_odds_188 rfl ?_
              refine j_isub h dX12_odds_190 ?_
              refine j_imul h dX12_odds_191 ?_
              refine j_goto (tgt := 196) h dX12_odds_192 (by decide) ?_
              refine j_iadd h dX12_odds_196 ?_
              refine j_nm (fun v85 hv85 => ?_)
              refine j_istore h dX12_odds_197 rfl rfl ?_
              refine j_sipush (v := (10000 : Int32)) h dX12_odds_199 ksipush_10000 ?_
              refine j_iload h dX12_odds_202 rfl ?_
              refine j_callSP h [.int (10000 : Int32), .int v85] (kX12_divisor _ G h.2.2.2.2.2.2.2.2.2.2 m11 (10000 : Int32) v85) okX12_divisor stX12_divisor ml12_515 rfl rfl (by decide) (by decide) (Nat.le_of_ble_eq_true rfl) rfl dX12_odds_204 (fun r86 hr86 => ?_)
              refine j_istore h dX12_odds_207 rfl rfl ?_
              refine j_iload_n h dX12_odds_209 rfl ?_
              refine j_if_ne (tgt := 221) h dX12_odds_210 (by decide) (fun c88 => ?_) (fun c88 => ?_)
              · refine j_sipush (v := (10000 : Int32)) h dX12_odds_221 ksipush_10000 ?_
                refine j_iload h dX12_odds_224 rfl ?_
                refine j_idiv h dX12_odds_226 ?_
                exact j_iret h rfl dX12_odds_227
              · refine j_iload h dX12_odds_213 rfl ?_
                refine j_iload h dX12_odds_215 rfl ?_
                refine j_idiv h dX12_odds_217 ?_
                refine j_goto (tgt := 227) h dX12_odds_218 (by decide) ?_
                exact j_iret h rfl dX12_odds_227
      · refine j_iconst (v := (-1 : Int32)) h dX12_odds_24 kiconst_m1 ?_
        exact j_iret h rfl dX12_odds_25
theorem dX12_lies_0 : DD cX12_lies 0 (.iload_n 1) 1 1 := ⟨by decide +kernel, rfl⟩
theorem dX12_lies_1 : DD cX12_lies 1 (.iconst 0) 1 2 := ⟨by decide +kernel, rfl⟩
theorem dX12_lies_2 : DD cX12_lies 2 (.aload_n 0) 1 3 := ⟨by decide +kernel, rfl⟩
theorem dX12_lies_3 : DD cX12_lies 3 (.getfield 399) 3 6 := ⟨by decide +kernel, rfl⟩
theorem dX12_lies_6 : DD cX12_lies 6 (.iconst 1) 1 7 := ⟨by decide +kernel, rfl⟩
theorem dX12_lies_7 : DD cX12_lies 7 (.isub) 1 8 := ⟨by decide +kernel, rfl⟩
theorem dX12_lies_8 : DD cX12_lies 8 (.invokestatic 402) 3 11 := ⟨by decide +kernel, rfl⟩
theorem dX12_lies_11 : DD cX12_lies 11 (.ifCond .eq 12) 3 14 := ⟨by decide +kernel, rfl⟩
theorem dX12_lies_14 : DD cX12_lies 14 (.aload_n 0) 1 15 := ⟨by decide +kernel, rfl⟩
theorem dX12_lies_15 : DD cX12_lies 15 (.getfield 127) 3 18 := ⟨by decide +kernel, rfl⟩
theorem dX12_lies_18 : DD cX12_lies 18 (.iload_n 1) 1 19 := ⟨by decide +kernel, rfl⟩
theorem dX12_lies_19 : DD cX12_lies 19 (.iaload) 1 20 := ⟨by decide +kernel, rfl⟩
theorem dX12_lies_20 : DD cX12_lies 20 (.goto 4) 3 23 := ⟨by decide +kernel, rfl⟩
theorem dX12_lies_23 : DD cX12_lies 23 (.iconst (-1)) 1 24 := ⟨by decide +kernel, rfl⟩
theorem dX12_lies_24 : DD cX12_lies 24 (.ireturn) 1 25 := ⟨by decide +kernel, rfl⟩
def fX12_lies (m : Mem) (x1 : Int32) : Option Int32 := (cP (fX12_isIn x1 (0 : Int32) ((m.1 0 63) - (1 : Int32))) fun r1 => (if r1 = 0 then (some (-1 : Int32)) else (rd (m.1 38) 7 x1 fun v4 => (some v4))))
set_option maxHeartbeats 4000000 in
set_option maxRecDepth 100000 in
theorem kX12_lies (l : Launch) (G : Gt) (hD : ∀ m, va_D (inA G nM) (wM G m)) (m : Mem) (x1 : Int32) : ∀ a, fX12_lies m x1 = some a → Ct l G wM nM yX12_lies cX12_lies 2 (some .int) 2 [.ref (G.2.2 0), .int x1] m ((cvP m) a) := by
  refine ct_of (own := RX12) (ls0 := [some (.ref (G.2.2 0)), some (.int x1)]) (by decide) rfl rfl rfl (Nat.le_of_ble_eq_true rfl) hD (fun X h => ?_) l
  unfold fX12_lies
  refine j_iload_n h dX12_lies_0 rfl ?_
  refine j_iconst (v := (0 : Int32)) h dX12_lies_1 kiconst_0 ?_
  refine j_aload_n h dX12_lies_2 rfl ?_
  refine gM_63 h dX12_lies_3 ?_
  refine j_iconst (v := (1 : Int32)) h dX12_lies_6 kiconst_1 ?_
  refine j_isub h dX12_lies_7 ?_
  refine j_callSP h [.int x1, .int (0 : Int32), .int ((m.1 0 63) - (1 : Int32))] (kX12_isIn _ G h.2.2.2.2.2.2.2.2.2.2 m x1 (0 : Int32) ((m.1 0 63) - (1 : Int32))) okX12_isIn stX12_isIn ml12_402 rfl rfl (by decide) (by decide) (Nat.le_of_ble_eq_true rfl) rfl dX12_lies_8 (fun r1 hr1 => ?_)
  refine j_if_eq (tgt := 23) h dX12_lies_11 (by decide) (fun c3 => ?_) (fun c3 => ?_)
  · refine j_iconst (v := (-1 : Int32)) h dX12_lies_23 kiconst_m1 ?_
    exact j_iret h rfl dX12_lies_24
  · refine j_aload_n h dX12_lies_14 rfl ?_
    refine gM_62 h dX12_lies_15 ?_
    refine j_iload_n h dX12_lies_18 rfl ?_
    refine aM_38 h dX12_lies_19 (fun v4 hv4 => ?_)
    refine j_goto (tgt := 24) h dX12_lies_20 (by decide) ?_
    exact j_iret h rfl dX12_lies_24
theorem dX12_isLitPlace_0 : DD cX12_isLitPlace 0 (.iload_n 0) 1 1 := ⟨by decide +kernel, rfl⟩
theorem dX12_isLitPlace_1 : DD cX12_isLitPlace 1 (.iconst 0) 1 2 := ⟨by decide +kernel, rfl⟩
theorem dX12_isLitPlace_2 : DD cX12_isLitPlace 2 (.bipush 9) 2 4 := ⟨by decide +kernel, rfl⟩
theorem dX12_isLitPlace_4 : DD cX12_isLitPlace 4 (.invokestatic 402) 3 7 := ⟨by decide +kernel, rfl⟩
theorem dX12_isLitPlace_7 : DD cX12_isLitPlace 7 (.ifCond .eq 17) 3 10 := ⟨by decide +kernel, rfl⟩
theorem dX12_isLitPlace_10 : DD cX12_isLitPlace 10 (.iload_n 1) 1 11 := ⟨by decide +kernel, rfl⟩
theorem dX12_isLitPlace_11 : DD cX12_isLitPlace 11 (.iconst 0) 1 12 := ⟨by decide +kernel, rfl⟩
theorem dX12_isLitPlace_12 : DD cX12_isLitPlace 12 (.bipush 23) 2 14 := ⟨by decide +kernel, rfl⟩
theorem dX12_isLitPlace_14 : DD cX12_isLitPlace 14 (.invokestatic 402) 3 17 := ⟨by decide +kernel, rfl⟩
theorem dX12_isLitPlace_17 : DD cX12_isLitPlace 17 (.ifCond .eq 7) 3 20 := ⟨by decide +kernel, rfl⟩
theorem dX12_isLitPlace_20 : DD cX12_isLitPlace 20 (.iconst 1) 1 21 := ⟨by decide +kernel, rfl⟩
theorem dX12_isLitPlace_21 : DD cX12_isLitPlace 21 (.goto 4) 3 24 := ⟨by decide +kernel, rfl⟩
theorem dX12_isLitPlace_24 : DD cX12_isLitPlace 24 (.iconst 0) 1 25 := ⟨by decide +kernel, rfl⟩
theorem dX12_isLitPlace_25 : DD cX12_isLitPlace 25 (.ireturn) 1 26 := ⟨by decide +kernel, rfl⟩
def fX12_isLitPlace (x0 : Int32) (x1 : Int32) : Option Int32 := (cP (fX12_isIn x0 (0 : Int32) (9 : Int32)) fun r1 => (if r1 = 0 then (some (0 : Int32)) else (cP (fX12_isIn x1 (0 : Int32) (23 : Int32)) fun r4 => (if r4 = 0 then (some (0 : Int32)) else (some (1 : Int32))))))
set_option maxHeartbeats 4000000 in
set_option maxRecDepth 100000 in
theorem kX12_isLitPlace (l : Launch) (G : Gt) (hD : ∀ m, va_D (inA G nM) (wM G m)) (m : Mem) (x0 : Int32) (x1 : Int32) : ∀ a, fX12_isLitPlace x0 x1 = some a → Ct l G wM nM yX12_isLitPlace cX12_isLitPlace 2 (some .boolean) 2 [.int x0, .int x1] m ((cvP m) a) := by
  refine ct_of (own := RX12) (ls0 := [some (.int x0), some (.int x1)]) (by decide) rfl rfl rfl (Nat.le_of_ble_eq_true rfl) hD (fun X h => ?_) l
  unfold fX12_isLitPlace
  refine j_iload_n h dX12_isLitPlace_0 rfl ?_
  refine j_iconst (v := (0 : Int32)) h dX12_isLitPlace_1 kiconst_0 ?_
  refine j_bipush (v := (9 : Int32)) h dX12_isLitPlace_2 kbipush_9 ?_
  refine j_callSP h [.int x0, .int (0 : Int32), .int (9 : Int32)] (kX12_isIn _ G h.2.2.2.2.2.2.2.2.2.2 m x0 (0 : Int32) (9 : Int32)) okX12_isIn stX12_isIn ml12_402 rfl rfl (by decide) (by decide) (Nat.le_of_ble_eq_true rfl) rfl dX12_isLitPlace_4 (fun r1 hr1 => ?_)
  refine j_if_eq (tgt := 24) h dX12_isLitPlace_7 (by decide) (fun c3 => ?_) (fun c3 => ?_)
  · refine j_iconst (v := (0 : Int32)) h dX12_isLitPlace_24 kiconst_0 ?_
    exact j_zretB h rfl rfl dX12_isLitPlace_25
  · refine j_iload_n h dX12_isLitPlace_10 rfl ?_
    refine j_iconst (v := (0 : Int32)) h dX12_isLitPlace_11 kiconst_0 ?_
    refine j_bipush (v := (23 : Int32)) h dX12_isLitPlace_12 kbipush_23 ?_
    refine j_callSP h [.int x1, .int (0 : Int32), .int (23 : Int32)] (kX12_isIn _ G h.2.2.2.2.2.2.2.2.2.2 m x1 (0 : Int32) (23 : Int32)) okX12_isIn stX12_isIn ml12_402 rfl rfl (by decide) (by decide) (Nat.le_of_ble_eq_true rfl) rfl dX12_isLitPlace_14 (fun r4 hr4 => ?_)
    refine j_if_eq (tgt := 24) h dX12_isLitPlace_17 (by decide) (fun c6 => ?_) (fun c6 => ?_)
    · refine j_iconst (v := (0 : Int32)) h dX12_isLitPlace_24 kiconst_0 ?_
      exact j_zretB h rfl rfl dX12_isLitPlace_25
    · refine j_iconst (v := (1 : Int32)) h dX12_isLitPlace_20 kiconst_1 ?_
      refine j_goto (tgt := 25) h dX12_isLitPlace_21 (by decide) ?_
      exact j_zretB h rfl rfl dX12_isLitPlace_25
theorem dX12_lit_0 : DD cX12_lit 0 (.iload_n 1) 1 1 := ⟨by decide +kernel, rfl⟩
theorem dX12_lit_1 : DD cX12_lit 1 (.iload_n 2) 1 2 := ⟨by decide +kernel, rfl⟩
theorem dX12_lit_2 : DD cX12_lit 2 (.invokestatic 518) 3 5 := ⟨by decide +kernel, rfl⟩
theorem dX12_lit_5 : DD cX12_lit 5 (.ifCond .eq 12) 3 8 := ⟨by decide +kernel, rfl⟩
theorem dX12_lit_8 : DD cX12_lit 8 (.aload_n 0) 1 9 := ⟨by decide +kernel, rfl⟩
theorem dX12_lit_9 : DD cX12_lit 9 (.getfield 396) 3 12 := ⟨by decide +kernel, rfl⟩
theorem dX12_lit_12 : DD cX12_lit 12 (.bipush 30) 2 14 := ⟨by decide +kernel, rfl⟩
theorem dX12_lit_14 : DD cX12_lit 14 (.if_icmp .ne 5) 3 17 := ⟨by decide +kernel, rfl⟩
theorem dX12_lit_17 : DD cX12_lit 17 (.iconst (-1)) 1 18 := ⟨by decide +kernel, rfl⟩
theorem dX12_lit_18 : DD cX12_lit 18 (.ireturn) 1 19 := ⟨by decide +kernel, rfl⟩
theorem dX12_lit_19 : DD cX12_lit 19 (.aload_n 0) 1 20 := ⟨by decide +kernel, rfl⟩
theorem dX12_lit_20 : DD cX12_lit 20 (.getfield 130) 3 23 := ⟨by decide +kernel, rfl⟩
theorem dX12_lit_23 : DD cX12_lit 23 (.aload_n 0) 1 24 := ⟨by decide +kernel, rfl⟩
theorem dX12_lit_24 : DD cX12_lit 24 (.getfield 396) 3 27 := ⟨by decide +kernel, rfl⟩
theorem dX12_lit_27 : DD cX12_lit 27 (.iload_n 1) 1 28 := ⟨by decide +kernel, rfl⟩
theorem dX12_lit_28 : DD cX12_lit 28 (.iastore) 1 29 := ⟨by decide +kernel, rfl⟩
theorem dX12_lit_29 : DD cX12_lit 29 (.aload_n 0) 1 30 := ⟨by decide +kernel, rfl⟩
theorem dX12_lit_30 : DD cX12_lit 30 (.getfield 133) 3 33 := ⟨by decide +kernel, rfl⟩
theorem dX12_lit_33 : DD cX12_lit 33 (.aload_n 0) 1 34 := ⟨by decide +kernel, rfl⟩
theorem dX12_lit_34 : DD cX12_lit 34 (.getfield 396) 3 37 := ⟨by decide +kernel, rfl⟩
theorem dX12_lit_37 : DD cX12_lit 37 (.iload_n 2) 1 38 := ⟨by decide +kernel, rfl⟩
theorem dX12_lit_38 : DD cX12_lit 38 (.iastore) 1 39 := ⟨by decide +kernel, rfl⟩
theorem dX12_lit_39 : DD cX12_lit 39 (.aload_n 0) 1 40 := ⟨by decide +kernel, rfl⟩
theorem dX12_lit_40 : DD cX12_lit 40 (.getfield 142) 3 43 := ⟨by decide +kernel, rfl⟩
theorem dX12_lit_43 : DD cX12_lit 43 (.aload_n 0) 1 44 := ⟨by decide +kernel, rfl⟩
theorem dX12_lit_44 : DD cX12_lit 44 (.getfield 396) 3 47 := ⟨by decide +kernel, rfl⟩
theorem dX12_lit_47 : DD cX12_lit 47 (.iload_n 3) 1 48 := ⟨by decide +kernel, rfl⟩
theorem dX12_lit_48 : DD cX12_lit 48 (.bastore) 1 49 := ⟨by decide +kernel, rfl⟩
theorem dX12_lit_49 : DD cX12_lit 49 (.aload_n 0) 1 50 := ⟨by decide +kernel, rfl⟩
theorem dX12_lit_50 : DD cX12_lit 50 (.getfield 136) 3 53 := ⟨by decide +kernel, rfl⟩
theorem dX12_lit_53 : DD cX12_lit 53 (.aload_n 0) 1 54 := ⟨by decide +kernel, rfl⟩
theorem dX12_lit_54 : DD cX12_lit 54 (.getfield 396) 3 57 := ⟨by decide +kernel, rfl⟩
theorem dX12_lit_57 : DD cX12_lit 57 (.aload_n 0) 1 58 := ⟨by decide +kernel, rfl⟩
theorem dX12_lit_58 : DD cX12_lit 58 (.getfield 521) 3 61 := ⟨by decide +kernel, rfl⟩
theorem dX12_lit_61 : DD cX12_lit 61 (.iastore) 1 62 := ⟨by decide +kernel, rfl⟩
theorem dX12_lit_62 : DD cX12_lit 62 (.aload_n 0) 1 63 := ⟨by decide +kernel, rfl⟩
theorem dX12_lit_63 : DD cX12_lit 63 (.getfield 139) 3 66 := ⟨by decide +kernel, rfl⟩
theorem dX12_lit_66 : DD cX12_lit 66 (.aload_n 0) 1 67 := ⟨by decide +kernel, rfl⟩
theorem dX12_lit_67 : DD cX12_lit 67 (.getfield 396) 3 70 := ⟨by decide +kernel, rfl⟩
theorem dX12_lit_70 : DD cX12_lit 70 (.iconst (-1)) 1 71 := ⟨by decide +kernel, rfl⟩
theorem dX12_lit_71 : DD cX12_lit 71 (.iastore) 1 72 := ⟨by decide +kernel, rfl⟩
theorem dX12_lit_72 : DD cX12_lit 72 (.aload_n 0) 1 73 := ⟨by decide +kernel, rfl⟩
theorem dX12_lit_73 : DD cX12_lit 73 (.dup) 1 74 := ⟨by decide +kernel, rfl⟩
theorem dX12_lit_74 : DD cX12_lit 74 (.getfield 396) 3 77 := ⟨by decide +kernel, rfl⟩
theorem dX12_lit_77 : DD cX12_lit 77 (.iconst 1) 1 78 := ⟨by decide +kernel, rfl⟩
theorem dX12_lit_78 : DD cX12_lit 78 (.iadd) 1 79 := ⟨by decide +kernel, rfl⟩
theorem dX12_lit_79 : DD cX12_lit 79 (.putfield 396) 3 82 := ⟨by decide +kernel, rfl⟩
theorem dX12_lit_82 : DD cX12_lit 82 (.aload_n 0) 1 83 := ⟨by decide +kernel, rfl⟩
theorem dX12_lit_83 : DD cX12_lit 83 (.getfield 396) 3 86 := ⟨by decide +kernel, rfl⟩
theorem dX12_lit_86 : DD cX12_lit 86 (.iconst 1) 1 87 := ⟨by decide +kernel, rfl⟩
theorem dX12_lit_87 : DD cX12_lit 87 (.isub) 1 88 := ⟨by decide +kernel, rfl⟩
theorem dX12_lit_88 : DD cX12_lit 88 (.ireturn) 1 89 := ⟨by decide +kernel, rfl⟩
def fX12_lit (m : Mem) (x1 : Int32) (x2 : Int32) (x3 : Int32) : Option (Int32 × Mem) := (cP (fX12_isLitPlace x1 x2) fun r1 => (if r1 = 0 then (some ((-1 : Int32), m)) else (if (m.1 0 69) = (30 : Int32) then (some ((-1 : Int32), m)) else (wr m 39 30 (m.1 0 69) x1 fun m5 => (wr m5 40 30 (m5.1 0 69) x2 fun m6 => (wr m6 43 30 (m6.1 0 69) (vp_nar .boolean x3) fun m7 => (wr m7 41 30 (m7.1 0 69) (m7.1 0 70) fun m8 => (wr m8 42 30 (m8.1 0 69) (-1 : Int32) fun m9 => (pt (sI m9 0 69 ((m9.1 0 69) + (1 : Int32))) fun m10 => (some (((m10.1 0 69) - (1 : Int32)), m10)))))))))))
set_option maxHeartbeats 4000000 in
set_option maxRecDepth 100000 in
theorem kX12_lit (l : Launch) (G : Gt) (hD : ∀ m, va_D (inA G nM) (wM G m)) (m : Mem) (x1 : Int32) (x2 : Int32) (x3 : Int32) : ∀ a, fX12_lit m x1 x2 x3 = some a → Ct l G wM nM yX12_lit cX12_lit 4 (some .int) 3 [.ref (G.2.2 0), .int x1, .int x2, .int x3] m (cvI a) := by
  refine ct_of (own := RX12) (ls0 := [some (.ref (G.2.2 0)), some (.int x1), some (.int x2), some (.int x3)]) (by decide) rfl rfl rfl (Nat.le_of_ble_eq_true rfl) hD (fun X h => ?_) l
  unfold fX12_lit
  refine j_iload_n h dX12_lit_0 rfl ?_
  refine j_iload_n h dX12_lit_1 rfl ?_
  refine j_callSP h [.int x1, .int x2] (kX12_isLitPlace _ G h.2.2.2.2.2.2.2.2.2.2 m x1 x2) okX12_isLitPlace stX12_isLitPlace ml12_518 rfl rfl (by decide) (by decide) (Nat.le_of_ble_eq_true rfl) rfl dX12_lit_2 (fun r1 hr1 => ?_)
  refine j_if_eq (tgt := 17) h dX12_lit_5 (by decide) (fun c3 => ?_) (fun c3 => ?_)
  · refine j_iconst (v := (-1 : Int32)) h dX12_lit_17 kiconst_m1 ?_
    exact j_iret h rfl dX12_lit_18
  · refine j_aload_n h dX12_lit_8 rfl ?_
    refine gM_69 h dX12_lit_9 ?_
    refine j_bipush (v := (30 : Int32)) h dX12_lit_12 kbipush_30 ?_
    refine j_icmp_ne (tgt := 19) h dX12_lit_14 (by decide) (fun c4 => ?_) (fun c4 => ?_)
    · refine j_aload_n h dX12_lit_19 rfl ?_
      refine gM_64 h dX12_lit_20 ?_
      refine j_aload_n h dX12_lit_23 rfl ?_
      refine gM_69 h dX12_lit_24 ?_
      refine j_iload_n h dX12_lit_27 rfl ?_
      refine bM_39 h dX12_lit_28 (fun m5 hm5 => ?_)
      refine j_aload_n h dX12_lit_29 rfl ?_
      refine gM_65 h dX12_lit_30 ?_
      refine j_aload_n h dX12_lit_33 rfl ?_
      refine gM_69 h dX12_lit_34 ?_
      refine j_iload_n h dX12_lit_37 rfl ?_
      refine bM_40 h dX12_lit_38 (fun m6 hm6 => ?_)
      refine j_aload_n h dX12_lit_39 rfl ?_
      refine gM_68 h dX12_lit_40 ?_
      refine j_aload_n h dX12_lit_43 rfl ?_
      refine gM_69 h dX12_lit_44 ?_
      refine j_iload_n h dX12_lit_47 rfl ?_
      refine bM_43 h dX12_lit_48 (fun m7 hm7 => ?_)
      refine j_aload_n h dX12_lit_49 rfl ?_
      refine gM_66 h dX12_lit_50 ?_
      refine j_aload_n h dX12_lit_53 rfl ?_
      refine gM_69 h dX12_lit_54 ?_
      refine j_aload_n h dX12_lit_57 rfl ?_
      refine gM_70 h dX12_lit_58 ?_
      refine bM_41 h dX12_lit_61 (fun m8 hm8 => ?_)
      refine j_aload_n h dX12_lit_62 rfl ?_
      refine gM_67 h dX12_lit_63 ?_
      refine j_aload_n h dX12_lit_66 rfl ?_
      refine gM_69 h dX12_lit_67 ?_
      refine j_iconst (v := (-1 : Int32)) h dX12_lit_70 kiconst_m1 ?_
      refine bM_42 h dX12_lit_71 (fun m9 hm9 => ?_)
      refine j_aload_n h dX12_lit_72 rfl ?_
      refine j_dup h dX12_lit_73 rfl ?_
      refine gM_69 h dX12_lit_74 ?_
      refine j_iconst (v := (1 : Int32)) h dX12_lit_77 kiconst_1 ?_
      refine j_iadd h dX12_lit_78 ?_
      refine pM_69 h dX12_lit_79 (fun m10 hm10 => ?_)
      refine j_aload_n h dX12_lit_82 rfl ?_
      refine gM_69 h dX12_lit_83 ?_
      refine j_iconst (v := (1 : Int32)) h dX12_lit_86 kiconst_1 ?_
      refine j_isub h dX12_lit_87 ?_
      exact j_iret h rfl dX12_lit_88
    · refine j_iconst (v := (-1 : Int32)) h dX12_lit_17 kiconst_m1 ?_
      exact j_iret h rfl dX12_lit_18
theorem dX12_untell_0 : DD cX12_untell 0 (.iload_n 1) 1 1 := ⟨by decide +kernel, rfl⟩
theorem dX12_untell_1 : DD cX12_untell 1 (.iconst 0) 1 2 := ⟨by decide +kernel, rfl⟩
theorem dX12_untell_2 : DD cX12_untell 2 (.aload_n 0) 1 3 := ⟨by decide +kernel, rfl⟩
theorem dX12_untell_3 : DD cX12_untell 3 (.getfield 396) 3 6 := ⟨by decide +kernel, rfl⟩
theorem dX12_untell_6 : DD cX12_untell 6 (.iconst 1) 1 7 := ⟨by decide +kernel, rfl⟩
theorem dX12_untell_7 : DD cX12_untell 7 (.isub) 1 8 := ⟨by decide +kernel, rfl⟩
theorem dX12_untell_8 : DD cX12_untell 8 (.invokestatic 402) 3 11 := ⟨by decide +kernel, rfl⟩
theorem dX12_untell_11 : DD cX12_untell 11 (.ifCond .eq 12) 3 14 := ⟨by decide +kernel, rfl⟩
theorem dX12_untell_14 : DD cX12_untell 14 (.aload_n 0) 1 15 := ⟨by decide +kernel, rfl⟩
theorem dX12_untell_15 : DD cX12_untell 15 (.getfield 139) 3 18 := ⟨by decide +kernel, rfl⟩
theorem dX12_untell_18 : DD cX12_untell 18 (.iload_n 1) 1 19 := ⟨by decide +kernel, rfl⟩
theorem dX12_untell_19 : DD cX12_untell 19 (.iaload) 1 20 := ⟨by decide +kernel, rfl⟩
theorem dX12_untell_20 : DD cX12_untell 20 (.ifCond .lt 5) 3 23 := ⟨by decide +kernel, rfl⟩
theorem dX12_untell_23 : DD cX12_untell 23 (.iconst 0) 1 24 := ⟨by decide +kernel, rfl⟩
theorem dX12_untell_24 : DD cX12_untell 24 (.ireturn) 1 25 := ⟨by decide +kernel, rfl⟩
theorem dX12_untell_25 : DD cX12_untell 25 (.aload_n 0) 1 26 := ⟨by decide +kernel, rfl⟩
theorem dX12_untell_26 : DD cX12_untell 26 (.getfield 139) 3 29 := ⟨by decide +kernel, rfl⟩
theorem dX12_untell_29 : DD cX12_untell 29 (.iload_n 1) 1 30 := ⟨by decide +kernel, rfl⟩
theorem dX12_untell_30 : DD cX12_untell 30 (.aload_n 0) 1 31 := ⟨by decide +kernel, rfl⟩
theorem dX12_untell_31 : DD cX12_untell 31 (.getfield 521) 3 34 := ⟨by decide +kernel, rfl⟩
theorem dX12_untell_34 : DD cX12_untell 34 (.iastore) 1 35 := ⟨by decide +kernel, rfl⟩
theorem dX12_untell_35 : DD cX12_untell 35 (.iconst 1) 1 36 := ⟨by decide +kernel, rfl⟩
theorem dX12_untell_36 : DD cX12_untell 36 (.ireturn) 1 37 := ⟨by decide +kernel, rfl⟩
def fX12_untell (m : Mem) (x1 : Int32) : Option (Int32 × Mem) := (cP (fX12_isIn x1 (0 : Int32) ((m.1 0 69) - (1 : Int32))) fun r1 => (if r1 = 0 then (some ((0 : Int32), m)) else (rd (m.1 42) 30 x1 fun v4 => (if v4 < 0 then (wr m 42 30 x1 (m.1 0 70) fun m6 => (some ((1 : Int32), m6))) else (some ((0 : Int32), m))))))
set_option maxHeartbeats 4000000 in
set_option maxRecDepth 100000 in
theorem kX12_untell (l : Launch) (G : Gt) (hD : ∀ m, va_D (inA G nM) (wM G m)) (m : Mem) (x1 : Int32) : ∀ a, fX12_untell m x1 = some a → Ct l G wM nM yX12_untell cX12_untell 2 (some .boolean) 2 [.ref (G.2.2 0), .int x1] m (cvI a) := by
  refine ct_of (own := RX12) (ls0 := [some (.ref (G.2.2 0)), some (.int x1)]) (by decide) rfl rfl rfl (Nat.le_of_ble_eq_true rfl) hD (fun X h => ?_) l
  unfold fX12_untell
  refine j_iload_n h dX12_untell_0 rfl ?_
  refine j_iconst (v := (0 : Int32)) h dX12_untell_1 kiconst_0 ?_
  refine j_aload_n h dX12_untell_2 rfl ?_
  refine gM_69 h dX12_untell_3 ?_
  refine j_iconst (v := (1 : Int32)) h dX12_untell_6 kiconst_1 ?_
  refine j_isub h dX12_untell_7 ?_
  refine j_callSP h [.int x1, .int (0 : Int32), .int ((m.1 0 69) - (1 : Int32))] (kX12_isIn _ G h.2.2.2.2.2.2.2.2.2.2 m x1 (0 : Int32) ((m.1 0 69) - (1 : Int32))) okX12_isIn stX12_isIn ml12_402 rfl rfl (by decide) (by decide) (Nat.le_of_ble_eq_true rfl) rfl dX12_untell_8 (fun r1 hr1 => ?_)
  refine j_if_eq (tgt := 23) h dX12_untell_11 (by decide) (fun c3 => ?_) (fun c3 => ?_)
  · refine j_iconst (v := (0 : Int32)) h dX12_untell_23 kiconst_0 ?_
    exact j_zretB h rfl rfl dX12_untell_24
  · refine j_aload_n h dX12_untell_14 rfl ?_
    refine gM_67 h dX12_untell_15 ?_
    refine j_iload_n h dX12_untell_18 rfl ?_
    refine aM_42 h dX12_untell_19 (fun v4 hv4 => ?_)
    refine j_if_lt (tgt := 25) h dX12_untell_20 (by decide) (fun c5 => ?_) (fun c5 => ?_)
    · refine j_aload_n h dX12_untell_25 rfl ?_
      refine gM_67 h dX12_untell_26 ?_
      refine j_iload_n h dX12_untell_29 rfl ?_
      refine j_aload_n h dX12_untell_30 rfl ?_
      refine gM_70 h dX12_untell_31 ?_
      refine bM_42 h dX12_untell_34 (fun m6 hm6 => ?_)
      refine j_iconst (v := (1 : Int32)) h dX12_untell_35 kiconst_1 ?_
      exact j_zretB h rfl rfl dX12_untell_36
    · refine j_iconst (v := (0 : Int32)) h dX12_untell_23 kiconst_0 ?_
      exact j_zretB h rfl rfl dX12_untell_24
