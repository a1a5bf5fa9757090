theorem dX12_truth_0 : DD cX12_truth 0 (.iload_n 0) 1 1 := ⟨by decide +kernel, rfl⟩
theorem dX12_truth_1 : DD cX12_truth 1 (.ifCond .eq 7) 3 4 := ⟨by decide +kernel, rfl⟩
theorem dX12_truth_4 : DD cX12_truth 4 (.iconst 1) 1 5 := ⟨by decide +kernel, rfl⟩
theorem dX12_truth_5 : DD cX12_truth 5 (.goto 4) 3 8 := ⟨by decide +kernel, rfl⟩
theorem dX12_truth_8 : DD cX12_truth 8 (.iconst 0) 1 9 := ⟨by decide +kernel, rfl⟩
theorem dX12_truth_9 : DD cX12_truth 9 (.ireturn) 1 10 := ⟨by decide +kernel, rfl⟩
def fX12_truth (x0 : Int32) : Option Int32 := (if x0 = 0 then (some (0 : Int32)) else (some (1 : Int32)))
set_option maxHeartbeats 4000000 in
set_option maxRecDepth 100000 in
theorem kX12_truth (l : Launch) (G : Gt) (hD : ∀ m, va_D (inA G nM) (wM G m)) (m : Mem) (x0 : Int32) : ∀ a, fX12_truth x0 = some a → Ct l G wM nM yX12_truth cX12_truth 1 (some .int) 1 [.int x0] m ((cvP m) a) := by
  refine ct_of (own := RX12) (ls0 := [some (.int x0)]) (by decide) rfl rfl rfl (Nat.le_of_ble_eq_true rfl) hD (fun X h => ?_) l
  unfold fX12_truth
  refine j_iload_n h dX12_truth_0 rfl ?_
  refine j_if_eq (tgt := 8) h dX12_truth_1 (by decide) (fun c1 => ?_) (fun c1 => ?_)
  · refine j_iconst (v := (0 : Int32)) h dX12_truth_8 kiconst_0 ?_
    exact j_iret h rfl dX12_truth_9
  · refine j_iconst (v := (1 : Int32)) h dX12_truth_4 kiconst_1 ?_
    refine j_goto (tgt := 9) h dX12_truth_5 (by decide) ?_
    exact j_iret h rfl dX12_truth_9
theorem dX12_done_0 : DD cX12_done 0 (.iload_n 0) 1 1 := ⟨by decide +kernel, rfl⟩
theorem dX12_done_1 : DD cX12_done 1 (.tableswitch 214 37 62 #[143, 197, 214, 214, 214, 127, 119, 214, 123, 214, 131, 214, 214, 214, 214, 214, 214, 214, 214, 214, 214, 214, 214, 155, 183, 169]) 119 120 := ⟨by decide +kernel, rfl⟩
theorem dX12_done_120 : DD cX12_done 120 (.iload_n 1) 1 121 := ⟨by decide +kernel, rfl⟩
theorem dX12_done_121 : DD cX12_done 121 (.iload_n 2) 1 122 := ⟨by decide +kernel, rfl⟩
theorem dX12_done_122 : DD cX12_done 122 (.iadd) 1 123 := ⟨by decide +kernel, rfl⟩
theorem dX12_done_123 : DD cX12_done 123 (.ireturn) 1 124 := ⟨by decide +kernel, rfl⟩
theorem dX12_done_124 : DD cX12_done 124 (.iload_n 1) 1 125 := ⟨by decide +kernel, rfl⟩
theorem dX12_done_125 : DD cX12_done 125 (.iload_n 2) 1 126 := ⟨by decide +kernel, rfl⟩
theorem dX12_done_126 : DD cX12_done 126 (.isub) 1 127 := ⟨by decide +kernel, rfl⟩
theorem dX12_done_127 : DD cX12_done 127 (.ireturn) 1 128 := ⟨by decide +kernel, rfl⟩
theorem dX12_done_128 : DD cX12_done 128 (.iload_n 1) 1 129 := ⟨by decide +kernel, rfl⟩
theorem dX12_done_129 : DD cX12_done 129 (.iload_n 2) 1 130 := ⟨by decide +kernel, rfl⟩
theorem dX12_done_130 : DD cX12_done 130 (.imul) 1 131 := ⟨by decide +kernel, rfl⟩
theorem dX12_done_131 : DD cX12_done 131 (.ireturn) 1 132 := ⟨by decide +kernel, rfl⟩
theorem dX12_done_132 : DD cX12_done 132 (.iload_n 2) 1 133 := ⟨by decide +kernel, rfl⟩
theorem dX12_done_133 : DD cX12_done 133 (.ifCond .ne 7) 3 136 := ⟨by decide +kernel, rfl⟩
theorem dX12_done_136 : DD cX12_done 136 (.iconst 0) 1 137 := ⟨by decide +kernel, rfl⟩
theorem dX12_done_137 : DD cX12_done 137 (.goto 6) 3 140 := ⟨by decide +kernel, rfl⟩
theorem dX12_done_140 : DD cX12_done 140 (.iload_n 1) 1 141 := ⟨by decide +kernel, rfl⟩
theorem dX12_done_141 : DD cX12_done 141 (.iload_n 2) 1 142 := ⟨by decide +kernel, rfl⟩
theorem dX12_done_142 : DD cX12_done 142 (.idiv) 1 143 := ⟨by decide +kernel, rfl⟩
theorem dX12_done_143 : DD cX12_done 143 (.ireturn) 1 144 := ⟨by decide +kernel, rfl⟩
theorem dX12_done_144 : DD cX12_done 144 (.iload_n 2) 1 145 := ⟨by decide +kernel, rfl⟩
theorem dX12_done_145 : DD cX12_done 145 (.ifCond .ne 7) 3 148 := ⟨by decide +kernel, rfl⟩
theorem dX12_done_148 : DD cX12_done 148 (.iconst 0) 1 149 := ⟨by decide +kernel, rfl⟩
theorem dX12_done_149 : DD cX12_done 149 (.goto 6) 3 152 := ⟨by decide +kernel, rfl⟩
theorem dX12_done_152 : DD cX12_done 152 (.iload_n 1) 1 153 := ⟨by decide +kernel, rfl⟩
theorem dX12_done_153 : DD cX12_done 153 (.iload_n 2) 1 154 := ⟨by decide +kernel, rfl⟩
theorem dX12_done_154 : DD cX12_done 154 (.irem) 1 155 := ⟨by decide +kernel, rfl⟩
theorem dX12_done_155 : DD cX12_done 155 (.ireturn) 1 156 := ⟨by decide +kernel, rfl⟩
theorem dX12_done_156 : DD cX12_done 156 (.iload_n 1) 1 157 := ⟨by decide +kernel, rfl⟩
theorem dX12_done_157 : DD cX12_done 157 (.iload_n 2) 1 158 := ⟨by decide +kernel, rfl⟩
theorem dX12_done_158 : DD cX12_done 158 (.if_icmp .ge 7) 3 161 := ⟨by decide +kernel, rfl⟩
theorem dX12_done_161 : DD cX12_done 161 (.iconst 1) 1 162 := ⟨by decide +kernel, rfl⟩
theorem dX12_done_162 : DD cX12_done 162 (.goto 4) 3 165 := ⟨by decide +kernel, rfl⟩
theorem dX12_done_165 : DD cX12_done 165 (.iconst 0) 1 166 := ⟨by decide +kernel, rfl⟩
theorem dX12_done_166 : DD cX12_done 166 (.invokestatic 322) 3 169 := ⟨by decide +kernel, rfl⟩
theorem dX12_done_169 : DD cX12_done 169 (.ireturn) 1 170 := ⟨by decide +kernel, rfl⟩
theorem dX12_done_170 : DD cX12_done 170 (.iload_n 1) 1 171 := ⟨by decide +kernel, rfl⟩
theorem dX12_done_171 : DD cX12_done 171 (.iload_n 2) 1 172 := ⟨by decide +kernel, rfl⟩
theorem dX12_done_172 : DD cX12_done 172 (.if_icmp .le 7) 3 175 := ⟨by decide +kernel, rfl⟩
theorem dX12_done_175 : DD cX12_done 175 (.iconst 1) 1 176 := ⟨by decide +kernel, rfl⟩
theorem dX12_done_176 : DD cX12_done 176 (.goto 4) 3 179 := ⟨by decide +kernel, rfl⟩
theorem dX12_done_179 : DD cX12_done 179 (.iconst 0) 1 180 := ⟨by decide +kernel, rfl⟩
theorem dX12_done_180 : DD cX12_done 180 (.invokestatic 322) 3 183 := ⟨by decide +kernel, rfl⟩
theorem dX12_done_183 : DD cX12_done 183 (.ireturn) 1 184 := ⟨by decide +kernel, rfl⟩
theorem dX12_done_184 : DD cX12_done 184 (.iload_n 1) 1 185 := ⟨by decide +kernel, rfl⟩
theorem dX12_done_185 : DD cX12_done 185 (.iload_n 2) 1 186 := ⟨by decide +kernel, rfl⟩
theorem dX12_done_186 : DD cX12_done 186 (.if_icmp .ne 7) 3 189 := ⟨by decide +kernel, rfl⟩
theorem dX12_done_189 : DD cX12_done 189 (.iconst 1) 1 190 := ⟨by decide +kernel, rfl⟩
theorem dX12_done_190 : DD cX12_done 190 (.goto 4) 3 193 := ⟨by decide +kernel, rfl⟩
theorem dX12_done_193 : DD cX12_done 193 (.iconst 0) 1 194 := ⟨by decide +kernel, rfl⟩
theorem dX12_done_194 : DD cX12_done 194 (.invokestatic 322) 3 197 := ⟨by decide +kernel, rfl⟩
theorem dX12_done_197 : DD cX12_done 197 (.ireturn) 1 198 := ⟨by decide +kernel, rfl⟩
theorem dX12_done_198 : DD cX12_done 198 (.iload_n 1) 1 199 := ⟨by decide +kernel, rfl⟩
theorem dX12_done_199 : DD cX12_done 199 (.ifCond .eq 11) 3 202 := ⟨by decide +kernel, rfl⟩
theorem dX12_done_202 : DD cX12_done 202 (.iload_n 2) 1 203 := ⟨by decide +kernel, rfl⟩
theorem dX12_done_203 : DD cX12_done 203 (.ifCond .eq 7) 3 206 := ⟨by decide +kernel, rfl⟩
theorem dX12_done_206 : DD cX12_done 206 (.iconst 1) 1 207 := ⟨by decide +kernel, rfl⟩
theorem dX12_done_207 : DD cX12_done 207 (.goto 4) 3 210 := ⟨by decide +kernel, rfl⟩
theorem dX12_done_210 : DD cX12_done 210 (.iconst 0) 1 211 := ⟨by decide +kernel, rfl⟩
theorem dX12_done_211 : DD cX12_done 211 (.invokestatic 322) 3 214 := ⟨by decide +kernel, rfl⟩
theorem dX12_done_214 : DD cX12_done 214 (.ireturn) 1 215 := ⟨by decide +kernel, rfl⟩
theorem dX12_done_215 : DD cX12_done 215 (.iload_n 1) 1 216 := ⟨by decide +kernel, rfl⟩
theorem dX12_done_216 : DD cX12_done 216 (.ifCond .ne 7) 3 219 := ⟨by decide +kernel, rfl⟩
theorem dX12_done_219 : DD cX12_done 219 (.iload_n 2) 1 220 := ⟨by decide +kernel, rfl⟩
theorem dX12_done_220 : DD cX12_done 220 (.ifCond .eq 7) 3 223 := ⟨by decide +kernel, rfl⟩
theorem dX12_done_223 : DD cX12_done 223 (.iconst 1) 1 224 := ⟨by decide +kernel, rfl⟩
theorem dX12_done_224 : DD cX12_done 224 (.goto 4) 3 227 := ⟨by decide +kernel, rfl⟩
theorem dX12_done_227 : DD cX12_done 227 (.iconst 0) 1 228 := ⟨by decide +kernel, rfl⟩
theorem dX12_done_228 : DD cX12_done 228 (.invokestatic 322) 3 231 := ⟨by decide +kernel, rfl⟩
theorem dX12_done_231 : DD cX12_done 231 (.ireturn) 1 232 := ⟨by decide +kernel, rfl⟩
def fX12_done (x0 : Int32) (x1 : Int32) (x2 : Int32) : Option Int32 := (if x0 = (37 : Int32) then (if x2 = 0 then (some (0 : Int32)) else (dv x2 (some (x1 - x1 / x2 * x2)))) else (if x0 = (38 : Int32) then (if x1 = 0 then (cP (fX12_truth (0 : Int32)) fun r5 => (some r5)) else (if x2 = 0 then (cP (fX12_truth (0 : Int32)) fun r8 => (some r8)) else (cP (fX12_truth (1 : Int32)) fun r10 => (some r10)))) else (if x0 = (42 : Int32) then (some (x1 * x2)) else (if x0 = (43 : Int32) then (some (x1 + x2)) else (if x0 = (45 : Int32) then (some (x1 - x2)) else (if x0 = (47 : Int32) then (if x2 = 0 then (some (0 : Int32)) else (dv x2 (some (x1 / x2)))) else (if x0 = (60 : Int32) then (if x2 ≤ x1 then (cP (fX12_truth (0 : Int32)) fun r19 => (some r19)) else (cP (fX12_truth (1 : Int32)) fun r21 => (some r21))) else (if x0 = (61 : Int32) then (if x1 = x2 then (cP (fX12_truth (1 : Int32)) fun r27 => (some r27)) else (cP (fX12_truth (0 : Int32)) fun r25 => (some r25))) else (if x0 = (62 : Int32) then (if x1 ≤ x2 then (cP (fX12_truth (0 : Int32)) fun r31 => (some r31)) else (cP (fX12_truth (1 : Int32)) fun r33 => (some r33))) else (if x1 = 0 then (if x2 = 0 then (cP (fX12_truth (0 : Int32)) fun r39 => (some r39)) else (cP (fX12_truth (1 : Int32)) fun r41 => (some r41))) else (cP (fX12_truth (1 : Int32)) fun r36 => (some r36))))))))))))
set_option maxHeartbeats 4000000 in
set_option maxRecDepth 100000 in
theorem kX12_done (l : Launch) (G : Gt) (hD : ∀ m, va_D (inA G nM) (wM G m)) (m : Mem) (x0 : Int32) (x1 : Int32) (x2 : Int32) : ∀ a, fX12_done x0 x1 x2 = some a → Ct l G wM nM yX12_done cX12_done 3 (some .int) 2 [.int x0, .int x1, .int x2] m ((cvP m) a) := by
  refine ct_of (own := RX12) (ls0 := [some (.int x0), some (.int x1), some (.int x2)]) (by decide) rfl rfl rfl (Nat.le_of_ble_eq_true rfl) hD (fun X h => ?_) l
  unfold fX12_done
  refine j_iload_n h dX12_done_0 rfl ?_
  by_cases c1 : x0 = (37 : Int32)
  · rw [if_pos c1]
    refine j_tabIn (off := 143) (tgt := 144) h c1 dX12_done_1 (by decide) (by decide) (by decide) (by decide) ?_
    refine j_iload_n h dX12_done_144 rfl ?_
    refine j_if_ne (tgt := 152) h dX12_done_145 (by decide) (fun c2 => ?_) (fun c2 => ?_)
    · refine j_iload_n h dX12_done_152 rfl ?_
      refine j_iload_n h dX12_done_153 rfl ?_
      refine j_irem h dX12_done_154 ?_
      exact j_iret h rfl dX12_done_155
    · refine j_iconst (v := (0 : Int32)) h dX12_done_148 kiconst_0 ?_
      refine j_goto (tgt := 155) h dX12_done_149 (by decide) ?_
      exact j_iret h rfl dX12_done_155
  · rw [if_neg c1]
    by_cases c3 : x0 = (38 : Int32)
    · rw [if_pos c3]
      refine j_tabIn (off := 197) (tgt := 198) h c3 dX12_done_1 (by decide) (by decide) (by decide) (by decide) ?_
      refine j_iload_n h dX12_done_198 rfl ?_
      refine j_if_eq (tgt := 210) h dX12_done_199 (by decide) (fun c4 => ?_) (fun c4 => ?_)
      · refine j_iconst (v := (0 : Int32)) h dX12_done_210 kiconst_0 ?_
        refine j_callSP h [.int (0 : Int32)] (kX12_truth _ G h.2.2.2.2.2.2.2.2.2.2 m (0 : Int32)) okX12_truth stX12_truth ml12_322 rfl rfl (by decide) (by decide) (Nat.le_of_ble_eq_true rfl) rfl dX12_done_211 (fun r5 hr5 => ?_)
        exact j_iret h rfl dX12_done_214
      · refine j_iload_n h dX12_done_202 rfl ?_
        refine j_if_eq (tgt := 210) h dX12_done_203 (by decide) (fun c7 => ?_) (fun c7 => ?_)
        · refine j_iconst (v := (0 : Int32)) h dX12_done_210 kiconst_0 ?_
          refine j_callSP h [.int (0 : Int32)] (kX12_truth _ G h.2.2.2.2.2.2.2.2.2.2 m (0 : Int32)) okX12_truth stX12_truth ml12_322 rfl rfl (by decide) (by decide) (Nat.le_of_ble_eq_true rfl) rfl dX12_done_211 (fun r8 hr8 => ?_)
          exact j_iret h rfl dX12_done_214
        · refine j_iconst (v := (1 : Int32)) h dX12_done_206 kiconst_1 ?_
          refine j_goto (tgt := 211) h dX12_done_207 (by decide) ?_
          refine j_callSP h [.int (1 : Int32)] (kX12_truth _ G h.2.2.2.2.2.2.2.2.2.2 m (1 : Int32)) okX12_truth stX12_truth ml12_322 rfl rfl (by decide) (by decide) (Nat.le_of_ble_eq_true rfl) rfl dX12_done_211 (fun r10 hr10 => ?_)
          exact j_iret h rfl dX12_done_214
    · rw [if_neg c3]
      by_cases c12 : x0 = (42 : Int32)
      · rw [if_pos c12]
        refine j_tabIn (off := 127) (tgt := 128) h c12 dX12_done_1 (by decide) (by decide) (by decide) (by decide) ?_
        refine j_iload_n h dX12_done_128 rfl ?_
        refine j_iload_n h dX12_done_129 rfl ?_
        refine j_imul h dX12_done_130 ?_
        exact j_iret h rfl dX12_done_131
      · rw [if_neg c12]
        by_cases c13 : x0 = (43 : Int32)
        · rw [if_pos c13]
          refine j_tabIn (off := 119) (tgt := 120) h c13 dX12_done_1 (by decide) (by decide) (by decide) (by decide) ?_
          refine j_iload_n h dX12_done_120 rfl ?_
          refine j_iload_n h dX12_done_121 rfl ?_
          refine j_iadd h dX12_done_122 ?_
          exact j_iret h rfl dX12_done_123
        · rw [if_neg c13]
          by_cases c14 : x0 = (45 : Int32)
          · rw [if_pos c14]
            refine j_tabIn (off := 123) (tgt := 124) h c14 dX12_done_1 (by decide) (by decide) (by decide) (by decide) ?_
            refine j_iload_n h dX12_done_124 rfl ?_
            refine j_iload_n h dX12_done_125 rfl ?_
            refine j_isub h dX12_done_126 ?_
            exact j_iret h rfl dX12_done_127
          · rw [if_neg c14]
            by_cases c15 : x0 = (47 : Int32)
            · rw [if_pos c15]
              refine j_tabIn (off := 131) (tgt := 132) h c15 dX12_done_1 (by decide) (by decide) (by decide) (by decide) ?_
              refine j_iload_n h dX12_done_132 rfl ?_
              refine j_if_ne (tgt := 140) h dX12_done_133 (by decide) (fun c16 => ?_) (fun c16 => ?_)
              · refine j_iload_n h dX12_done_140 rfl ?_
                refine j_iload_n h dX12_done_141 rfl ?_
                refine j_idiv h dX12_done_142 ?_
                exact j_iret h rfl dX12_done_143
              · refine j_iconst (v := (0 : Int32)) h dX12_done_136 kiconst_0 ?_
                refine j_goto (tgt := 143) h dX12_done_137 (by decide) ?_
                exact j_iret h rfl dX12_done_143
            · rw [if_neg c15]
              by_cases c17 : x0 = (60 : Int32)
              · rw [if_pos c17]
                refine j_tabIn (off := 155) (tgt := 156) h c17 dX12_done_1 (by decide) (by decide) (by decide) (by decide) ?_
                refine j_iload_n h dX12_done_156 rfl ?_
                refine j_iload_n h dX12_done_157 rfl ?_
                refine j_icmp_ge (tgt := 165) h dX12_done_158 (by decide) (fun c18 => ?_) (fun c18 => ?_)
                · refine j_iconst (v := (0 : Int32)) h dX12_done_165 kiconst_0 ?_
                  refine j_callSP h [.int (0 : Int32)] (kX12_truth _ G h.2.2.2.2.2.2.2.2.2.2 m (0 : Int32)) okX12_truth stX12_truth ml12_322 rfl rfl (by decide) (by decide) (Nat.le_of_ble_eq_true rfl) rfl dX12_done_166 (fun r19 hr19 => ?_)
                  exact j_iret h rfl dX12_done_169
                · refine j_iconst (v := (1 : Int32)) h dX12_done_161 kiconst_1 ?_
                  refine j_goto (tgt := 166) h dX12_done_162 (by decide) ?_
                  refine j_callSP h [.int (1 : Int32)] (kX12_truth _ G h.2.2.2.2.2.2.2.2.2.2 m (1 : Int32)) okX12_truth stX12_truth ml12_322 rfl rfl (by decide) (by decide) (Nat.le_of_ble_eq_true rfl) rfl dX12_done_166 (fun r21 hr21 => ?_)
                  exact j_iret h rfl dX12_done_169
              · rw [if_neg c17]
                by_cases c23 : x0 = (61 : Int32)
                · rw [if_pos c23]
                  refine j_tabIn (off := 183) (tgt := 184) h c23 dX12_done_1 (by decide) (by decide) (by decide) (by decide) ?_
                  refine j_iload_n h dX12_done_184 rfl ?_
                  refine j_iload_n h dX12_done_185 rfl ?_
                  refine j_icmp_ne (tgt := 193) h dX12_done_186 (by decide) (fun c24 => ?_) (fun c24 => ?_)
                  · refine j_iconst (v := (0 : Int32)) h dX12_done_193 kiconst_0 ?_
                    refine j_callSP h [.int (0 : Int32)] (kX12_truth _ G h.2.2.2.2.2.2.2.2.2.2 m (0 : Int32)) okX12_truth stX12_truth ml12_322 rfl rfl (by decide) (by decide) (Nat.le_of_ble_eq_true rfl) rfl dX12_done_194 (fun r25 hr25 => ?_)
                    exact j_iret h rfl dX12_done_197
                  · refine j_iconst (v := (1 : Int32)) h dX12_done_189 kiconst_1 ?_
                    refine j_goto (tgt := 194) h dX12_done_190 (by decide) ?_
                    refine j_callSP h [.int (1 : Int32)] (kX12_truth _ G h.2.2.2.2.2.2.2.2.2.2 m (1 : Int32)) okX12_truth stX12_truth ml12_322 rfl rfl (by decide) (by decide) (Nat.le_of_ble_eq_true rfl) rfl dX12_done_194 (fun r27 hr27 => ?_)
                    exact j_iret h rfl dX12_done_197
                · rw [if_neg c23]
                  by_cases c29 : x0 = (62 : Int32)
                  · rw [if_pos c29]
                    refine j_tabIn (off := 169) (tgt := 170) h c29 dX12_done_1 (by decide) (by decide) (by decide) (by decide) ?_
                    refine j_iload_n h dX12_done_170 rfl ?_
                    refine j_iload_n h dX12_done_171 rfl ?_
                    refine j_icmp_le (tgt := 179) h dX12_done_172 (by decide) (fun c30 => ?_) (fun c30 => ?_)
                    · refine j_iconst (v := (0 : Int32)) h dX12_done_179 kiconst_0 ?_
                      refine j_callSP h [.int (0 : Int32)] (kX12_truth _ G h.2.2.2.2.2.2.2.2.2.2 m (0 : Int32)) okX12_truth stX12_truth ml12_322 rfl rfl (by decide) (by decide) (Nat.le_of_ble_eq_true rfl) rfl dX12_done_180 (fun r31 hr31 => ?_)
                      exact j_iret h rfl dX12_done_183
                    · refine j_iconst (v := (1 : Int32)) h dX12_done_175 kiconst_1 ?_
                      refine j_goto (tgt := 180) h dX12_done_176 (by decide) ?_
                      refine j_callSP h [.int (1 : Int32)] (kX12_truth _ G h.2.2.2.2.2.2.2.2.2.2 m (1 : Int32)) okX12_truth stX12_truth ml12_322 rfl rfl (by decide) (by decide) (Nat.le_of_ble_eq_true rfl) rfl dX12_done_180 (fun r33 hr33 => ?_)
                      exact j_iret h rfl dX12_done_183
                  · rw [if_neg c29]
                    refine j_key (pc' := 215) (st' := []) ?_ (fun key => ?_)
                    · refine j_iload_n h dX12_done_215 rfl ?_
                      refine j_if_ne (tgt := 223) h dX12_done_216 (by decide) (fun c35 => ?_) (fun c35 => ?_)
                      · refine j_iconst (v := (1 : Int32)) h dX12_done_223 kiconst_1 ?_
                        refine j_goto (tgt := 228) h dX12_done_224 (by decide) ?_
                        refine j_callSP h [.int (1 : Int32)] (kX12_truth _ G h.2.2.2.2.2.2.2.2.2.2 m (1 : Int32)) okX12_truth stX12_truth ml12_322 rfl rfl (by decide) (by decide) (Nat.le_of_ble_eq_true rfl) rfl dX12_done_228 (fun r36 hr36 => ?_)
                        exact j_iret h rfl dX12_done_231
                      · refine j_iload_n h dX12_done_219 rfl ?_
                        refine j_if_eq (tgt := 227) h dX12_done_220 (by decide) (fun c38 => ?_) (fun c38 => ?_)
                        · refine j_iconst (v := (0 : Int32)) h dX12_done_227 kiconst_0 ?_
                          refine j_callSP h [.int (0 : Int32)] (kX12_truth _ G h.2.2.2.2.2.2.2.2.2.2 m (0 : Int32)) okX12_truth stX12_truth ml12_322 rfl rfl (by decide) (by decide) (Nat.le_of_ble_eq_true rfl) rfl dX12_done_228 (fun r39 hr39 => ?_)
                          exact j_iret h rfl dX12_done_231
                        · refine j_iconst (v := (1 : Int32)) h dX12_done_223 kiconst_1 ?_
                          refine j_goto (tgt := 228) h dX12_done_224 (by decide) ?_
                          refine j_callSP h [.int (1 : Int32)] (kX12_truth _ G h.2.2.2.2.2.2.2.2.2.2 m (1 : Int32)) okX12_truth stX12_truth ml12_322 rfl rfl (by decide) (by decide) (Nat.le_of_ble_eq_true rfl) rfl dX12_done_228 (fun r41 hr41 => ?_)
                          exact j_iret h rfl dX12_done_231
                    · by_cases cd0 : x0 = (39 : Int32)
                      · exact j_tabIn (off := 214) (tgt := 215) h cd0 dX12_done_1 (by decide) (by decide) (by decide) (by decide) key
                      · by_cases cd1 : x0 = (40 : Int32)
                        · exact j_tabIn (off := 214) (tgt := 215) h cd1 dX12_done_1 (by decide) (by decide) (by decide) (by decide) key
                        · by_cases cd2 : x0 = (41 : Int32)
                          · exact j_tabIn (off := 214) (tgt := 215) h cd2 dX12_done_1 (by decide) (by decide) (by decide) (by decide) key
                          · by_cases cd3 : x0 = (44 : Int32)
                            · exact j_tabIn (off := 214) (tgt := 215) h cd3 dX12_done_1 (by decide) (by decide) (by decide) (by decide) key
                            · by_cases cd4 : x0 = (46 : Int32)
                              · exact j_tabIn (off := 214) (tgt := 215) h cd4 dX12_done_1 (by decide) (by decide) (by decide) (by decide) key
                              · by_cases cd5 : x0 = (48 : Int32)
                                · exact j_tabIn (off := 214) (tgt := 215) h cd5 dX12_done_1 (by decide) (by decide) (by decide) (by decide) key
                                · by_cases cd6 : x0 = (49 : Int32)
                                  · exact j_tabIn (off := 214) (tgt := 215) h cd6 dX12_done_1 (by decide) (by decide) (by decide) (by decide) key
                                  · by_cases cd7 : x0 = (50 : Int32)
                                    · exact j_tabIn (off := 214) (tgt := 215) h cd7 dX12_done_1 (by decide) (by decide) (by decide) (by decide) key
                                    · by_cases cd8 : x0 = (51 : Int32)
                                      · exact j_tabIn (off := 214) (tgt := 215) h cd8 dX12_done_1 (by decide) (by decide) (by decide) (by decide) key
                                      · by_cases cd9 : x0 = (52 : Int32)
                                        · exact j_tabIn (off := 214) (tgt := 215) h cd9 dX12_done_1 (by decide) (by decide) (by decide) (by decide) key
                                        · by_cases cd10 : x0 = (53 : Int32)
                                          · exact j_tabIn (off := 214) (tgt := 215) h cd10 dX12_done_1 (by decide) (by decide) (by decide) (by decide) key
                                          · by_cases cd11 : x0 = (54 : Int32)
                                            · exact j_tabIn (off := 214) (tgt := 215) h cd11 dX12_done_1 (by decide) (by decide) (by decide) (by decide) key
                                            · by_cases cd12 : x0 = (55 : Int32)
                                              · exact j_tabIn (off := 214) (tgt := 215) h cd12 dX12_done_1 (by decide) (by decide) (by decide) (by decide) key
                                              · by_cases cd13 : x0 = (56 : Int32)
                                                · exact j_tabIn (off := 214) (tgt := 215) h cd13 dX12_done_1 (by decide) (by decide) (by decide) (by decide) key
                                                · by_cases cd14 : x0 = (57 : Int32)
                                                  · exact j_tabIn (off := 214) (tgt := 215) h cd14 dX12_done_1 (by decide) (by decide) (by decide) (by decide) key
                                                  · by_cases cd15 : x0 = (58 : Int32)
                                                    · exact j_tabIn (off := 214) (tgt := 215) h cd15 dX12_done_1 (by decide) (by decide) (by decide) (by decide) key
                                                    · by_cases cd16 : x0 = (59 : Int32)
                                                      · exact j_tabIn (off := 214) (tgt := 215) h cd16 dX12_done_1 (by decide) (by decide) (by decide) (by decide) key
                                                      · exact j_tabOut (tgt := 215) h [(37 : Int32), (38 : Int32), (39 : Int32), (40 : Int32), (41 : Int32), (42 : Int32), (43 : Int32), (44 : Int32), (45 : Int32), (46 : Int32), (47 : Int32), (48 : Int32), (49 : Int32), (50 : Int32), (51 : Int32), (52 : Int32), (53 : Int32), (54 : Int32), (55 : Int32), (56 : Int32), (57 : Int32), (58 : Int32), (59 : Int32), (60 : Int32), (61 : Int32), (62 : Int32)] dX12_done_1 (by intro v hv; simp only [List.mem_cons, List.not_mem_nil, or_false] at hv; rcases hv with rfl | rfl | rfl | rfl | rfl | rfl | rfl | rfl | rfl | rfl | rfl | rfl | rfl | rfl | rfl | rfl | rfl | rfl | rfl | rfl | rfl | rfl | rfl | rfl | rfl | rfl <;> assumption) (by decide) (by decide) (by decide) key
theorem dX12_worked_0 : DD cX12_worked 0 (.iconst 0) 1 1 := ⟨by decide +kernel, rfl⟩
theorem dX12_worked_1 : DD cX12_worked 1 (.istore 5) 2 3 := ⟨by decide +kernel, rfl⟩
theorem dX12_worked_3 : DD cX12_worked 3 (.aload_n 0) 1 4 := ⟨by decide +kernel, rfl⟩
theorem dX12_worked_4 : DD cX12_worked 4 (.getfield 42) 3 7 := ⟨by decide +kernel, rfl⟩
theorem dX12_worked_7 : DD cX12_worked 7 (.iconst 0) 1 8 := ⟨by decide +kernel, rfl⟩
theorem dX12_worked_8 : DD cX12_worked 8 (.iload_n 2) 1 9 := ⟨by decide +kernel, rfl⟩
theorem dX12_worked_9 : DD cX12_worked 9 (.iastore) 1 10 := ⟨by decide +kernel, rfl⟩
theorem dX12_worked_10 : DD cX12_worked 10 (.sipush 320) 3 13 := ⟨by decide +kernel, rfl⟩
theorem dX12_worked_13 : DD cX12_worked 13 (.iload_n 1) 1 14 := ⟨by decide +kernel, rfl⟩
theorem dX12_worked_14 : DD cX12_worked 14 (.imul) 1 15 := ⟨by decide +kernel, rfl⟩
theorem dX12_worked_15 : DD cX12_worked 15 (.istore 6) 2 17 := ⟨by decide +kernel, rfl⟩
theorem dX12_worked_17 : DD cX12_worked 17 (.iload 6) 2 19 := ⟨by decide +kernel, rfl⟩
theorem dX12_worked_19 : DD cX12_worked 19 (.sipush 320) 3 22 := ⟨by decide +kernel, rfl⟩
theorem dX12_worked_22 : DD cX12_worked 22 (.iload_n 1) 1 23 := ⟨by decide +kernel, rfl⟩
theorem dX12_worked_23 : DD cX12_worked 23 (.imul) 1 24 := ⟨by decide +kernel, rfl⟩
theorem dX12_worked_24 : DD cX12_worked 24 (.aload_n 0) 1 25 := ⟨by decide +kernel, rfl⟩
theorem dX12_worked_25 : DD cX12_worked 25 (.getfield 36) 3 28 := ⟨by decide +kernel, rfl⟩
theorem dX12_worked_28 : DD cX12_worked 28 (.iload_n 1) 1 29 := ⟨by decide +kernel, rfl⟩
theorem dX12_worked_29 : DD cX12_worked 29 (.iaload) 1 30 := ⟨by decide +kernel, rfl⟩
theorem dX12_worked_30 : DD cX12_worked 30 (.iadd) 1 31 := ⟨by decide +kernel, rfl⟩
theorem dX12_worked_31 : DD cX12_worked 31 (.if_icmp .ge 156) 3 34 := ⟨by decide +kernel, rfl⟩
theorem dX12_worked_34 : DD cX12_worked 34 (.aload_n 0) 1 35 := ⟨by decide +kernel, rfl⟩
theorem dX12_worked_35 : DD cX12_worked 35 (.getfield 30) 3 38 := ⟨by decide +kernel, rfl⟩
theorem dX12_worked_38 : DD cX12_worked 38 (.iload 6) 2 40 := ⟨by decide +kernel, rfl⟩
theorem dX12_worked_40 : DD cX12_worked 40 (.iaload) 1 41 := ⟨by decide +kernel, rfl⟩
theorem dX12_worked_41 : DD cX12_worked 41 (.ifCond .eq 14) 3 44 := ⟨by decide +kernel, rfl⟩
theorem dX12_worked_44 : DD cX12_worked 44 (.aload_n 0) 1 45 := ⟨by decide +kernel, rfl⟩
theorem dX12_worked_45 : DD cX12_worked 45 (.getfield 30) 3 48 := ⟨by decide +kernel, rfl⟩
theorem dX12_worked_48 : DD cX12_worked 48 (.iload 6) 2 50 := ⟨by decide +kernel, rfl⟩
theorem dX12_worked_50 : DD cX12_worked 50 (.iaload) 1 51 := ⟨by decide +kernel, rfl⟩
theorem dX12_worked_51 : DD cX12_worked 51 (.iconst 1) 1 52 := ⟨by decide +kernel, rfl⟩
theorem dX12_worked_52 : DD cX12_worked 52 (.if_icmp .ne 48) 3 55 := ⟨by decide +kernel, rfl⟩
theorem dX12_worked_55 : DD cX12_worked 55 (.aload_n 0) 1 56 := ⟨by decide +kernel, rfl⟩
theorem dX12_worked_56 : DD cX12_worked 56 (.getfield 42) 3 59 := ⟨by decide +kernel, rfl⟩
theorem dX12_worked_59 : DD cX12_worked 59 (.iload 5) 2 61 := ⟨by decide +kernel, rfl⟩
theorem dX12_worked_61 : DD cX12_worked 61 (.aload_n 0) 1 62 := ⟨by decide +kernel, rfl⟩
theorem dX12_worked_62 : DD cX12_worked 62 (.getfield 30) 3 65 := ⟨by decide +kernel, rfl⟩
theorem dX12_worked_65 : DD cX12_worked 65 (.iload 6) 2 67 := ⟨by decide +kernel, rfl⟩
theorem dX12_worked_67 : DD cX12_worked 67 (.iaload) 1 68 := ⟨by decide +kernel, rfl⟩
theorem dX12_worked_68 : DD cX12_worked 68 (.ifCond .ne 13) 3 71 := ⟨by decide +kernel, rfl⟩
theorem dX12_worked_71 : DD cX12_worked 71 (.aload_n 0) 1 72 := ⟨by decide +kernel, rfl⟩
theorem dX12_worked_72 : DD cX12_worked 72 (.getfield 33) 3 75 := ⟨by decide +kernel, rfl⟩
theorem dX12_worked_75 : DD cX12_worked 75 (.iload 6) 2 77 := ⟨by decide +kernel, rfl⟩
theorem dX12_worked_77 : DD cX12_worked 77 (.iaload) 1 78 := ⟨by decide +kernel, rfl⟩
theorem dX12_worked_78 : DD cX12_worked 78 (.goto 15) 3 81 := ⟨by decide +kernel, rfl⟩
theorem dX12_worked_81 : DD cX12_worked 81 (.aload_n 0) 1 82 := ⟨by decide +kernel, rfl⟩
theorem dX12_worked_82 : DD cX12_worked 82 (.getfield 52) 3 85 := ⟨by decide +kernel, rfl⟩
theorem dX12_worked_85 : DD cX12_worked 85 (.aload_n 0) 1 86 := ⟨by decide +kernel, rfl⟩
theorem dX12_worked_86 : DD cX12_worked 86 (.getfield 33) 3 89 := ⟨by decide +kernel, rfl⟩
theorem dX12_worked_89 : DD cX12_worked 89 (.iload 6) 2 91 := ⟨by decide +kernel, rfl⟩
theorem dX12_worked_91 : DD cX12_worked 91 (.iaload) 1 92 := ⟨by decide +kernel, rfl⟩
theorem dX12_worked_92 : DD cX12_worked 92 (.iaload) 1 93 := ⟨by decide +kernel, rfl⟩
theorem dX12_worked_93 : DD cX12_worked 93 (.iastore) 1 94 := ⟨by decide +kernel, rfl⟩
theorem dX12_worked_94 : DD cX12_worked 94 (.iinc 5 1) 3 97 := ⟨by decide +kernel, rfl⟩
theorem dX12_worked_97 : DD cX12_worked 97 (.goto 84) 3 100 := ⟨by decide +kernel, rfl⟩
theorem dX12_worked_100 : DD cX12_worked 100 (.aload_n 0) 1 101 := ⟨by decide +kernel, rfl⟩
theorem dX12_worked_101 : DD cX12_worked 101 (.getfield 30) 3 104 := ⟨by decide +kernel, rfl⟩
theorem dX12_worked_104 : DD cX12_worked 104 (.iload 6) 2 106 := ⟨by decide +kernel, rfl⟩
theorem dX12_worked_106 : DD cX12_worked 106 (.iaload) 1 107 := ⟨by decide +kernel, rfl⟩
theorem dX12_worked_107 : DD cX12_worked 107 (.iconst 2) 1 108 := ⟨by decide +kernel, rfl⟩
theorem dX12_worked_108 : DD cX12_worked 108 (.if_icmp .ne 35) 3 111 := ⟨by decide +kernel, rfl⟩
theorem dX12_worked_111 : DD cX12_worked 111 (.aload_n 0) 1 112 := ⟨by decide +kernel, rfl⟩
theorem dX12_worked_112 : DD cX12_worked 112 (.getfield 42) 3 115 := ⟨by decide +kernel, rfl⟩
theorem dX12_worked_115 : DD cX12_worked 115 (.iload 5) 2 117 := ⟨by decide +kernel, rfl⟩
theorem dX12_worked_117 : DD cX12_worked 117 (.iconst 1) 1 118 := ⟨by decide +kernel, rfl⟩
theorem dX12_worked_118 : DD cX12_worked 118 (.isub) 1 119 := ⟨by decide +kernel, rfl⟩
theorem dX12_worked_119 : DD cX12_worked 119 (.aload_n 0) 1 120 := ⟨by decide +kernel, rfl⟩
theorem dX12_worked_120 : DD cX12_worked 120 (.getfield 42) 3 123 := ⟨by decide +kernel, rfl⟩
theorem dX12_worked_123 : DD cX12_worked 123 (.iload 5) 2 125 := ⟨by decide +kernel, rfl⟩
theorem dX12_worked_125 : DD cX12_worked 125 (.iconst 1) 1 126 := ⟨by decide +kernel, rfl⟩
theorem dX12_worked_126 : DD cX12_worked 126 (.isub) 1 127 := ⟨by decide +kernel, rfl⟩
theorem dX12_worked_127 : DD cX12_worked 127 (.iaload) 1 128 := ⟨by decide +kernel, rfl⟩
theorem dX12_worked_128 : DD cX12_worked 128 (.ifCond .ne 7) 3 131 := ⟨by decide +kernel, rfl⟩
theorem dX12_worked_131 : DD cX12_worked 131 (.iconst 1) 1 132 := ⟨by decide +kernel, rfl⟩
theorem dX12_worked_132 : DD cX12_worked 132 (.goto 4) 3 135 := ⟨by decide +kernel, rfl⟩
theorem dX12_worked_135 : DD cX12_worked 135 (.iconst 0) 1 136 := ⟨by decide +kernel, rfl⟩
theorem dX12_worked_136 : DD cX12_worked 136 (.invokestatic 322) 3 139 := ⟨by decide +kernel, rfl⟩
theorem dX12_worked_139 : DD cX12_worked 139 (.iastore) 1 140 := ⟨by decide +kernel, rfl⟩
theorem dX12_worked_140 : DD cX12_worked 140 (.goto 41) 3 143 := ⟨by decide +kernel, rfl⟩
theorem dX12_worked_143 : DD cX12_worked 143 (.iinc 5 (-1)) 3 146 := ⟨by decide +kernel, rfl⟩
theorem dX12_worked_146 : DD cX12_worked 146 (.aload_n 0) 1 147 := ⟨by decide +kernel, rfl⟩
theorem dX12_worked_147 : DD cX12_worked 147 (.getfield 42) 3 150 := ⟨by decide +kernel, rfl⟩
theorem dX12_worked_150 : DD cX12_worked 150 (.iload 5) 2 152 := ⟨by decide +kernel, rfl⟩
theorem dX12_worked_152 : DD cX12_worked 152 (.iconst 1) 1 153 := ⟨by decide +kernel, rfl⟩
theorem dX12_worked_153 : DD cX12_worked 153 (.isub) 1 154 := ⟨by decide +kernel, rfl⟩
theorem dX12_worked_154 : DD cX12_worked 154 (.aload_n 0) 1 155 := ⟨by decide +kernel, rfl⟩
theorem dX12_worked_155 : DD cX12_worked 155 (.getfield 33) 3 158 := ⟨by decide +kernel, rfl⟩
theorem dX12_worked_158 : DD cX12_worked 158 (.iload 6) 2 160 := ⟨by decide +kernel, rfl⟩
theorem dX12_worked_160 : DD cX12_worked 160 (.iaload) 1 161 := ⟨by decide +kernel, rfl⟩
theorem dX12_worked_161 : DD cX12_worked 161 (.aload_n 0) 1 162 := ⟨by decide +kernel, rfl⟩
theorem dX12_worked_162 : DD cX12_worked 162 (.getfield 42) 3 165 := ⟨by decide +kernel, rfl⟩
theorem dX12_worked_165 : DD cX12_worked 165 (.iload 5) 2 167 := ⟨by decide +kernel, rfl⟩
theorem dX12_worked_167 : DD cX12_worked 167 (.iconst 1) 1 168 := ⟨by decide +kernel, rfl⟩
theorem dX12_worked_168 : DD cX12_worked 168 (.isub) 1 169 := ⟨by decide +kernel, rfl⟩
theorem dX12_worked_169 : DD cX12_worked 169 (.iaload) 1 170 := ⟨by decide +kernel, rfl⟩
theorem dX12_worked_170 : DD cX12_worked 170 (.aload_n 0) 1 171 := ⟨by decide +kernel, rfl⟩
theorem dX12_worked_171 : DD cX12_worked 171 (.getfield 42) 3 174 := ⟨by decide +kernel, rfl⟩
theorem dX12_worked_174 : DD cX12_worked 174 (.iload 5) 2 176 := ⟨by decide +kernel, rfl⟩
theorem dX12_worked_176 : DD cX12_worked 176 (.iaload) 1 177 := ⟨by decide +kernel, rfl⟩
theorem dX12_worked_177 : DD cX12_worked 177 (.invokestatic 326) 3 180 := ⟨by decide +kernel, rfl⟩
theorem dX12_worked_180 : DD cX12_worked 180 (.iastore) 1 181 := ⟨by decide +kernel, rfl⟩
theorem dX12_worked_181 : DD cX12_worked 181 (.iinc 6 1) 3 184 := ⟨by decide +kernel, rfl⟩
theorem dX12_worked_184 : DD cX12_worked 184 (.goto (-167)) 3 187 := ⟨by decide +kernel, rfl⟩
theorem dX12_worked_187 : DD cX12_worked 187 (.aload_n 0) 1 188 := ⟨by decide +kernel, rfl⟩
theorem dX12_worked_188 : DD cX12_worked 188 (.getfield 42) 3 191 := ⟨by decide +kernel, rfl⟩
theorem dX12_worked_191 : DD cX12_worked 191 (.iconst 0) 1 192 := ⟨by decide +kernel, rfl⟩
theorem dX12_worked_192 : DD cX12_worked 192 (.iaload) 1 193 := ⟨by decide +kernel, rfl⟩
theorem dX12_worked_193 : DD cX12_worked 193 (.iload_n 3) 1 194 := ⟨by decide +kernel, rfl⟩
theorem dX12_worked_194 : DD cX12_worked 194 (.if_icmp .ge 7) 3 197 := ⟨by decide +kernel, rfl⟩
theorem dX12_worked_197 : DD cX12_worked 197 (.iload_n 3) 1 198 := ⟨by decide +kernel, rfl⟩
theorem dX12_worked_198 : DD cX12_worked 198 (.goto 25) 3 201 := ⟨by decide +kernel, rfl⟩
theorem dX12_worked_201 : DD cX12_worked 201 (.aload_n 0) 1 202 := ⟨by decide +kernel, rfl⟩
theorem dX12_worked_202 : DD cX12_worked 202 (.getfield 42) 3 205 := ⟨by decide +kernel, rfl⟩
theorem dX12_worked_205 : DD cX12_worked 205 (.iconst 0) 1 206 := ⟨by decide +kernel, rfl⟩
theorem dX12_worked_206 : DD cX12_worked 206 (.iaload) 1 207 := ⟨by decide +kernel, rfl⟩
theorem dX12_worked_207 : DD cX12_worked 207 (.iload 4) 2 209 := ⟨by decide +kernel, rfl⟩
theorem dX12_worked_209 : DD cX12_worked 209 (.if_icmp .le 8) 3 212 := ⟨by decide +kernel, rfl⟩
theorem dX12_worked_212 : DD cX12_worked 212 (.iload 4) 2 214 := ⟨by decide +kernel, rfl⟩
theorem dX12_worked_214 : DD cX12_worked 214 (.goto 9) 3 217 := ⟨by decide +kernel, rfl⟩
theorem dX12_worked_217 : DD cX12_worked 217 (.aload_n 0) 1 218 := ⟨by decide +kernel, rfl⟩
theorem dX12_worked_218 : DD cX12_worked 218 (.getfield 42) 3 221 := ⟨by decide +kernel, rfl⟩
theorem dX12_worked_221 : DD cX12_worked 221 (.iconst 0) 1 222 := ⟨by decide +kernel, rfl⟩
theorem dX12_worked_222 : DD cX12_worked 222 (.iaload) 1 223 := ⟨by decide +kernel, rfl⟩
theorem dX12_worked_223 : DD cX12_worked 223 (.ireturn) 1 224 := ⟨by decide +kernel, rfl⟩
def gX12_worked : Nat → Int32 → Int32 → Int32 → Int32 → Int32 → Mem → Option (Int32 × Mem)
  | 0, _, _, _, _, _, _ => none
  | f + 1, x1, x3, x4, x5, x6, m => (rd (m.1 8) 3 x1 fun v1 => (if (((320 : Int32) * x1) + v1) ≤ x6 then (rd (m.1 10) 64 (0 : Int32) fun v3 => (if x3 ≤ v3 then (rd (m.1 10) 64 (0 : Int32) fun v5 => (if v5 ≤ x4 then (rd (m.1 10) 64 (0 : Int32) fun v7 => (some (v7, m))) else (some (x4, m)))) else (some (x3, m)))) else (rd (m.1 6) 960 x6 fun v8 => (if v8 = 0 then (rd (m.1 6) 960 x6 fun v10 => (if v10 = 0 then (rd (m.1 7) 960 x6 fun v15 => (wr m 10 64 x5 v15 fun m16 => (gX12_worked f x1 x3 x4 (x5 + (1 : Int32)) (x6 + (1 : Int32)) m16))) else (rd (m.1 7) 960 x6 fun v12 => (rd (m.1 13) 4 v12 fun v13 => (wr m 10 64 x5 v13 fun m14 => (gX12_worked f x1 x3 x4 (x5 + (1 : Int32)) (x6 + (1 : Int32)) m14)))))) else (rd (m.1 6) 960 x6 fun v17 => (if v17 = (1 : Int32) then (rd (m.1 6) 960 x6 fun v35 => (if v35 = 0 then (rd (m.1 7) 960 x6 fun v40 => (wr m 10 64 x5 v40 fun m41 => (gX12_worked f x1 x3 x4 (x5 + (1 : Int32)) (x6 + (1 : Int32)) m41))) else (rd (m.1 7) 960 x6 fun v37 => (rd (m.1 13) 4 v37 fun v38 => (wr m 10 64 x5 v38 fun m39 => (gX12_worked f x1 x3 x4 (x5 + (1 : Int32)) (x6 + (1 : Int32)) m39)))))) else (rd (m.1 6) 960 x6 fun v19 => (if v19 = (2 : Int32) then (rd (m.1 10) 64 (x5 - (1 : Int32)) fun v27 => (if v27 = 0 then (cP (fX12_truth (1 : Int32)) fun r32 => (wr m 10 64 (x5 - (1 : Int32)) r32 fun m34 => (gX12_worked f x1 x3 x4 x5 (x6 + (1 : Int32)) m34))) else (cP (fX12_truth (0 : Int32)) fun r29 => (wr m 10 64 (x5 - (1 : Int32)) r29 fun m31 => (gX12_worked f x1 x3 x4 x5 (x6 + (1 : Int32)) m31))))) else (rd (m.1 7) 960 x6 fun v21 => (rd (m.1 10) 64 ((x5 + (-1 : Int32)) - (1 : Int32)) fun v22 => (rd (m.1 10) 64 (x5 + (-1 : Int32)) fun v23 => (cP (fX12_done v21 v22 v23) fun r24 => (wr m 10 64 ((x5 + (-1 : Int32)) - (1 : Int32)) r24 fun m26 => (gX12_worked f x1 x3 x4 (x5 + (-1 : Int32)) (x6 + (1 : Int32)) m26))))))))))))))
def fX12_worked (m : Mem) (x1 : Int32) (x2 : Int32) (x3 : Int32) (x4 : Int32) : Option (Int32 × Mem) := (wr m 10 64 (0 : Int32) x2 fun m1 => (nm ((320 : Int32) * x1) fun v2 => (gX12_worked 5000 x1 x3 x4 (0 : Int32) v2 m1)))
set_option maxHeartbeats 4000000 in
set_option maxRecDepth 100000 in
theorem wX12_worked {X : Cx} {G : Gt} (h : OkX (X, G, wM, nM) cX12_worked RX12 7 (some .int) 3) : ∀ f : Nat, (∀ (x1 : Int32) (x3 : Int32) (x4 : Int32) (x5 : Int32) (x6 : Int32) (m : Mem), JR (X, G, wM, nM) cvI m 17 [some (.ref (G.2.2 0)), some (.int x1), none, some (.int x3), some (.int x4), some (.int x5), some (.int x6)] [] (gX12_worked f x1 x3 x4 x5 x6 m)) := by
  intro f
  induction f with
  | zero => exact (fun _ _ _ _ _ _ => j_none)
  | succ f ih =>
    intro x1 x3 x4 x5 x6 m
    rw [gX12_worked]
    refine j_iload h dX12_worked_17 rfl ?_
    refine j_sipush (v := (320 : Int32)) h dX12_worked_19 ksipush_320 ?_
    refine j_iload_n h dX12_worked_22 rfl ?_
    refine j_imul h dX12_worked_23 ?_
    refine j_aload_n h dX12_worked_24 rfl ?_
    refine gM_16 h dX12_worked_25 ?_
    refine j_iload_n h dX12_worked_28 rfl ?_
    refine aM_8 h dX12_worked_29 (fun v1 hv1 => ?_)
    refine j_iadd h dX12_worked_30 ?_
    refine j_icmp_ge (tgt := 187) h dX12_worked_31 (by decide) (fun c2 => ?_) (fun c2 => ?_)
    · refine j_aload_n h dX12_worked_187 rfl ?_
      refine gM_18 h dX12_worked_188 ?_
      refine j_iconst (v := (0 : Int32)) h dX12_worked_191 kiconst_0 ?_
      refine aM_10 h dX12_worked_192 (fun v3 hv3 => ?_)
      refine j_iload_n h dX12_worked_193 rfl ?_
      refine j_icmp_ge (tgt := 201) h dX12_worked_194 (by decide) (fun c4 => ?_) (fun c4 => ?_)
      · refine j_aload_n h dX12_worked_201 rfl ?_
        refine gM_18 h dX12_worked_202 ?_
        refine j_iconst (v := (0 : Int32)) h dX12_worked_205 kiconst_0 ?_
        refine aM_10 h dX12_worked_206 (fun v5 hv5 => ?_)
        refine j_iload h dX12_worked_207 rfl ?_
        refine j_icmp_le (tgt := 217) h dX12_worked_209 (by decide) (fun c6 => ?_) (fun c6 => ?_)
        · refine j_aload_n h dX12_worked_217 rfl ?_
          refine gM_18 h dX12_worked_218 ?_
          refine j_iconst (v := (0 : Int32)) h dX12_worked_221 kiconst_0 ?_
          refine aM_10 h dX12_worked_222 (fun v7 hv7 => ?_)
          exact j_iret h rfl dX12_worked_223
        · refine j_iload h dX12_worked_212 rfl ?_
          refine j_goto (tgt := 223) h dX12_worked_214 (by decide) ?_
          exact j_iret h rfl dX12_worked_223
      · refine j_iload_n h dX12_worked_197 rfl ?_
        refine j_goto (tgt := 223) h dX12_worked_198 (by decide) ?_
        exact j_iret h rfl dX12_worked_223
    · refine j_aload_n h dX12_worked_34 rfl ?_
      refine gM_14 h dX12_worked_35 ?_
      refine j_iload h dX12_worked_38 rfl ?_
      refine aM_6 h dX12_worked_40 (fun v8 hv8 => ?_)
      refine j_if_eq (tgt := 55) h dX12_worked_41 (by decide) (fun c9 => ?_) (fun c9 => ?_)
      · refine j_aload_n h dX12_worked_55 rfl ?_
        refine gM_18 h dX12_worked_56 ?_
        refine j_iload h dX12_worked_59 rfl ?_
        refine j_aload_n h dX12_worked_61 rfl ?_
        refine gM_14 h dX12_worked_62 ?_
        refine j_iload h dX12_worked_65 rfl ?_
        refine aM_6 h dX12_worked_67 (fun v10 hv10 => ?_)
        refine j_if_ne (tgt := 81) h dX12_worked_68 (by decide) (fun c11 => ?_) (fun c11 => ?_)
        · refine j_aload_n h dX12_worked_81 rfl ?_
          refine gM_27 h dX12_worked_82 ?_
          refine j_aload_n h dX12_worked_85 rfl ?_
          refine gM_15 h dX12_worked_86 ?_
          refine j_iload h dX12_worked_89 rfl ?_
          refine aM_7 h dX12_worked_91 (fun v12 hv12 => ?_)
          refine aM_13 h dX12_worked_92 (fun v13 hv13 => ?_)
          refine bM_10 h dX12_worked_93 (fun m14 hm14 => ?_)
          refine j_iinc (v := (x5 + (1 : Int32))) h dX12_worked_94 rfl (by rw [kiconst_1]) rfl ?_
          refine j_goto (tgt := 181) h dX12_worked_97 (by decide) ?_
          refine j_iinc (v := (x6 + (1 : Int32))) h dX12_worked_181 rfl (by rw [kiconst_1]) rfl ?_
          refine j_goto (tgt := 17) h dX12_worked_184 (by decide) ?_
          refine j_wk (ls' := [some (.ref (G.2.2 0)), some (.int x1), none, some (.int x3), some (.int x4), some (.int (x5 + (1 : Int32))), some (.int (x6 + (1 : Int32)))]) (And.intro rfl (And.intro rfl (And.intro rfl (And.intro rfl (And.intro rfl (And.intro rfl trivial)))))) ?_
          exact ih x1 x3 x4 (x5 + (1 : Int32)) (x6 + (1 : Int32)) m14
        · refine j_aload_n h dX12_worked_71 rfl ?_
          refine gM_15 h dX12_worked_72 ?_
          refine j_iload h dX12_worked_75 rfl ?_
          refine aM_7 h dX12_worked_77 (fun v15 hv15 => ?_)
          refine j_goto (tgt := 93) h dX12_worked_78 (by decide) ?_
          refine bM_10 h dX12_worked_93 (fun m16 hm16 => ?_)
          refine j_iinc (v := (x5 + (1 : Int32))) h dX12_worked_94 rfl (by rw [kiconst_1]) rfl ?_
          refine j_goto (tgt := 181) h dX12_worked_97 (by decide) ?_
          refine j_iinc (v := (x6 + (1 : Int32))) h dX12_worked_181 rfl (by rw [kiconst_1]) rfl ?_
          refine j_goto (tgt := 17) h dX12_worked_184 (by decide) ?_
          refine j_wk (ls' := [some (.ref (G.2.2 0)), some (.int x1), none, some (.int x3), some (.int x4), some (.int (x5 + (1 : Int32))), some (.int (x6 + (1 : Int32)))]) (And.intro rfl (And.intro rfl (And.intro rfl (And.intro rfl (And.intro rfl (And.intro rfl trivial)))))) ?_
          exact ih x1 x3 x4 (x5 + (1 : Int32)) (x6 + (1 : Int32)) m16
      · refine j_aload_n h dX12_worked_44 rfl ?_
        refine gM_14 h dX12_worked_45 ?_
        refine j_iload h dX12_worked_48 rfl ?_
        refine aM_6 h dX12_worked_50 (fun v17 hv17 => ?_)
        refine j_iconst (v := (1 : Int32)) h dX12_worked_51 kiconst_1 ?_
        refine j_icmp_ne (tgt := 100) h dX12_worked_52 (by decide) (fun c18 => ?_) (fun c18 => ?_)
        · refine j_aload_n h dX12_worked_100 rfl ?_
          refine gM_14 h dX12_worked_101 ?_
          refine j_iload h dX12_worked_104 rfl ?_
          refine aM_6 h dX12_worked_106 (fun v19 hv19 => ?_)
          refine j_iconst (v := (2 : Int32)) h dX12_worked_107 kiconst_2 ?_
          refine j_icmp_ne (tgt := 143) h dX12_worked_108 (by decide) (fun c20 => ?_) (fun c20 => ?_)
          · refine j_iinc (v := (x5 + (-1 : Int32))) h dX12_worked_143 rfl (by rw [kiconst_m1]) rfl ?_
            refine j_aload_n h dX12_worked_146 rfl ?_
            refine gM_18 h dX12_worked_147 ?_
            refine j_iload h dX12_worked_150 rfl ?_
            refine j_iconst (v := (1 : Int32)) h dX12_worked_152 kiconst_1 ?_
            refine j_isub h dX12_worked_153 ?_
            refine j_aload_n h dX12_worked_154 rfl ?_
            refine gM_15 h dX12_worked_155 ?_
            refine j_iload h dX12_worked_158 rfl ?_
            refine aM_7 h dX12_worked_160 (fun v21 hv21 => ?_)
            refine j_aload_n h dX12_worked_161 rfl ?_
            refine gM_18 h dX12_worked_162 ?_
            refine j_iload h dX12_worked_165 rfl ?_
            refine j_iconst (v := (1 : Int32)) h dX12_worked_167 kiconst_1 ?_
            refine j_isub h dX12_worked_168 ?_
            refine aM_10 h dX12_worked_169 (fun v22 hv22 => ?_)
            refine j_aload_n h dX12_worked_170 rfl ?_
            refine gM_18 h dX12_worked_171 ?_
            refine j_iload h dX12_worked_174 rfl ?_
            refine aM_10 h dX12_worked_176 (fun v23 hv23 => ?_)
            refine j_callSP h [.int v21, .int v22, .int v23] (kX12_done _ G h.2.2.2.2.2.2.2.2.2.2 m v21 v22 v23) okX12_done stX12_done ml12_326 rfl rfl (by decide) (by decide) (Nat.le_of_ble_eq_true rfl) rfl dX12_worked_177 (fun r24 hr24 => ?_)
            refine bM_10 h dX12_worked_180 (fun m26 hm26 => ?_)
            refine j_iinc (v := (x6 + (1 : Int32))) h dX12_worked_181 rfl (by rw [kiconst_1]) rfl ?_
            refine j_goto (tgt := 17) h dX12_worked_184 (by decide) ?_
            refine j_wk (ls' := [some (.ref (G.2.2 0)), some (.int x1), none, some (.int x3), some (.int x4), some (.int (x5 + (-1 : Int32))), some (.int (x6 + (1 : Int32)))]) (And.intro rfl (And.intro rfl (And.intro rfl (And.intro rfl (And.intro rfl (And.intro rfl trivial)))))) ?_
            exact ih x1 x3 x4 (x5 + (-1 : Int32)) (x6 + (1 : Int32)) m26
          · refine j_aload_n h dX12_worked_111 rfl ?_
            refine gM_18 h dX12_worked_112 ?_
            refine j_iload h dX12_worked_115 rfl ?_
            refine j_iconst (v := (1 : Int32)) h dX12_worked_117 kiconst_1 ?_
            refine j_isub h dX12_worked_118 ?_
            refine j_aload_n h dX12_worked_119 rfl ?_
            refine gM_18 h dX12_worked_120 ?_
            refine j_iload h dX12_worked_123 rfl ?_
            refine j_iconst (v := (1 : Int32)) h dX12_worked_125 kiconst_1 ?_
            refine j_isub h dX12_worked_126 ?_
            refine aM_10 h dX12_worked_127 (fun v27 hv27 => ?_)
            refine j_if_ne (tgt := 135) h dX12_worked_128 (by decide) (fun c28 => ?_) (fun c28 => ?_)
            · refine j_iconst (v := (0 : Int32)) h dX12_worked_135 kiconst_0 ?_
              refine j_callSP h [.int (0 : Int32)] (kX12_truth _ G h.2.2.2.2.2.2.2.2.2.2 m (0 : Int32)) okX12_truth stX12_truth ml12_322 rfl rfl (by decide) (by decide) (Nat.le_of_ble_eq_true rfl) rfl dX12_worked_136 (fun r29 hr29 => ?_)
              refine bM_10 h dX12_worked_139 (fun m31 hm31 => ?_)
              refine j_goto (tgt := 181) h dX12_worked_140 (by decide) ?_
              refine j_iinc (v := (x6 + (1 : Int32))) h dX12_worked_181 rfl (by rw [kiconst_1]) rfl ?_
              refine j_goto (tgt := 17) h dX12_worked_184 (by decide) ?_
              refine j_wk (ls' := [some (.ref (G.2.2 0)), some (.int x1), none, some (.int x3), some (.int x4), some (.int x5), some (.int (x6 + (1 : Int32)))]) (And.intro rfl (And.intro rfl (And.intro rfl (And.intro rfl (And.intro rfl (And.intro rfl trivial)))))) ?_
              exact ih x1 x3 x4 x5 (x6 + (1 : Int32)) m31
            · refine j_iconst (v := (1 : Int32)) h dX12_worked_131 kiconst_1 ?_
              refine j_goto (tgt := 136) h dX12_worked_132 (by decide) ?_
              refine j_callSP h [.int (1 : Int32)] (kX12_truth _ G h.2.2.2.2.2.2.2.2.2.2 m (1 : Int32)) okX12_truth stX12_truth ml12_322 rfl rfl (by decide) (by decide) (Nat.le_of_ble_eq_true rfl) rfl dX12_worked_136 (fun r32 hr32 => ?_)
              refine bM_10 h dX12_worked_139 (fun m34 hm34 => ?_)
              refine j_goto (tgt := 181) h dX12_worked_140 (by decide) ?_
              refine j_iinc (v := (x6 + (1 : Int32))) h dX12_worked_181 rfl (by rw [kiconst_1]) rfl ?_
              refine j_goto (tgt := 17) h dX12_worked_184 (by decide) ?_
              refine j_wk (ls' := [some (.ref (G.2.2 0)), some (.int x1), none, some (.int x3), some (.int x4), some (.int x5), some (.int (x6 + (1 : Int32)))]) (And.intro rfl (And.intro rfl (And.intro rfl (And.intro rfl (And.intro rfl (And.intro rfl trivial)))))) ?_
              exact ih x1 x3 x4 x5 (x6 + (1 : Int32)) m34
        · refine j_aload_n h dX12_worked_55 rfl ?_
          refine gM_18 h dX12_worked_56 ?_
          refine j_iload h dX12_worked_59 rfl ?_
          refine j_aload_n h dX12_worked_61 rfl ?_
          refine gM_14 h dX12_worked_62 ?_
          refine j_iload h dX12_worked_65 rfl ?_
          refine aM_6 h dX12_worked_67 (fun v35 hv35 => ?_)
          refine j_if_ne (tgt := 81) h dX12_worked_68 (by decide) (fun c36 => ?_) (fun c36 => ?_)
          · refine j_aload_n h dX12_worked_81 rfl ?_
            refine gM_27 h dX12_worked_82 ?_
            refine j_aload_n h dX12_worked_85 rfl ?_
            refine gM_15 h dX12_worked_86 ?_
            refine j_iload h dX12_worked_89 rfl ?_
            refine aM_7 h dX12_worked_91 (fun v37 hv37 => ?_)
            refine aM_13 h dX12_worked_92 (fun v38 hv38 => ?_)
            refine bM_10 h dX12_worked_93 (fun m39 hm39 => ?_)
            refine j_iinc (v := (x5 + (1 : Int32))) h dX12_worked_94 rfl (by rw [kiconst_1]) rfl ?_
            refine j_goto (tgt := 181) h dX12_worked_97 (by decide) ?_
            refine j_iinc (v := (x6 + (1 : Int32))) h dX12_worked_181 rfl (by rw [kiconst_1]) rfl ?_
            refine j_goto (tgt := 17) h dX12_worked_184 (by decide) ?_
            refine j_wk (ls' := [some (.ref (G.2.2 0)), some (.int x1), none, some (.int x3), some (.int x4), some (.int (x5 + (1 : Int32))), some (.int (x6 + (1 : Int32)))]) (And.intro rfl (And.intro rfl (And.intro rfl (And.intro rfl (And.intro rfl (And.intro rfl trivial)))))) ?_
            exact ih x1 x3 x4 (x5 + (1 : Int32)) (x6 + (1 : Int32)) m39
          · refine j_aload_n h dX12_worked_71 rfl ?_
            refine gM_15 h dX12_worked_72 ?_
            refine j_iload h dX12_worked_75 rfl ?_
            refine aM_7 h dX12_worked_77 (fun v40 hv40 => ?_)
            refine j_goto (tgt := 93) h dX12_worked_78 (by decide) ?_
            refine bM_10 h dX12_worked_93 (fun m41 hm41 => ?_)
            refine j_iinc (v := (x5 + (1 : Int32))) h dX12_worked_94 rfl (by rw [kiconst_1]) rfl ?_
            refine j_goto (tgt := 181) h dX12_worked_97 (by decide) ?_
            refine j_iinc (v := (x6 + (1 : Int32))) h dX12_worked_181 rfl (by rw [kiconst_1]) rfl ?_
            refine j_goto (tgt := 17) h dX12_worked_184 (by decide) ?_
            refine j_wk (ls' := [some (.ref (G.2.2 0)), some (.int x1), none, some (.int x3), some (.int x4), some (.int (x5 + (1 : Int32))), some (.int (x6 + (1 : Int32)))]) (And.intro rfl (And.intro rfl (And.intro rfl (And.intro rfl (And.intro rfl (And.intro rfl trivial)))))) ?_
            exact ih x1 x3 x4 (x5 + (1 : Int32)) (x6 + (1 : Int32)) m41
set_option maxHeartbeats 4000000 in
set_option maxRecDepth 100000 in
theorem kX12_worked (l : Launch) (G : Gt) (hD : ∀ m, va_D (inA G nM) (wM G m)) (m : Mem) (x1 : Int32) (x2 : Int32) (x3 : Int32) (x4 : Int32) : ∀ a, fX12_worked m x1 x2 x3 x4 = some a → Ct l G wM nM yX12_worked cX12_worked 7 (some .int) 3 [.ref (G.2.2 0), .int x1, .int x2, .int x3, .int x4] m (cvI a) := by
  refine ct_of (own := RX12) (ls0 := [some (.ref (G.2.2 0)), some (.int x1), some (.int x2), some (.int x3), some (.int x4), none, none]) (by decide) rfl rfl rfl (Nat.le_of_ble_eq_true rfl) hD (fun X h => ?_) l
  unfold fX12_worked
  refine j_iconst (v := (0 : Int32)) h dX12_worked_0 kiconst_0 ?_
  refine j_istore h dX12_worked_1 rfl rfl ?_
  refine j_aload_n h dX12_worked_3 rfl ?_
  refine gM_18 h dX12_worked_4 ?_
  refine j_iconst (v := (0 : Int32)) h dX12_worked_7 kiconst_0 ?_
  refine j_iload_n h dX12_worked_8 rfl ?_
  refine bM_10 h dX12_worked_9 (fun m1 hm1 => ?_)
  refine j_sipush (v := (320 : Int32)) h dX12_worked_10 ksipush_320 ?_
  refine j_iload_n h dX12_worked_13 rfl ?_
  refine j_imul h dX12_worked_14 ?_
  refine j_nm (fun v2 hv2 => ?_)
  refine j_istore h dX12_worked_15 rfl rfl ?_
  refine j_wk (ls' := [some (.ref (G.2.2 0)), some (.int x1), none, some (.int x3), some (.int x4), some (.int (0 : Int32)), some (.int v2)]) (And.intro rfl (And.intro rfl (And.intro rfl (And.intro rfl (And.intro rfl (And.intro rfl trivial)))))) ?_
  exact (wX12_worked h 5000) x1 x3 x4 (0 : Int32) v2 m1
theorem dX12_readPerson_0 : DD cX12_readPerson 0 (.aload_n 0) 1 1 := ⟨by decide +kernel, rfl⟩
theorem dX12_readPerson_1 : DD cX12_readPerson 1 (.invokevirtual 249) 3 4 := ⟨by decide +kernel, rfl⟩
theorem dX12_readPerson_4 : DD cX12_readPerson 4 (.aload_n 0) 1 5 := ⟨by decide +kernel, rfl⟩
theorem dX12_readPerson_5 : DD cX12_readPerson 5 (.invokevirtual 263) 3 8 := ⟨by decide +kernel, rfl⟩
theorem dX12_readPerson_8 : DD cX12_readPerson 8 (.ifCond .ne 11) 3 11 := ⟨by decide +kernel, rfl⟩
theorem dX12_readPerson_11 : DD cX12_readPerson 11 (.aload_n 0) 1 12 := ⟨by decide +kernel, rfl⟩
theorem dX12_readPerson_12 : DD cX12_readPerson 12 (.iconst 2) 1 13 := ⟨by decide +kernel, rfl⟩
theorem dX12_readPerson_13 : DD cX12_readPerson 13 (.invokevirtual 246) 3 16 := ⟨by decide +kernel, rfl⟩
theorem dX12_readPerson_16 : DD cX12_readPerson 16 (.goto 15) 3 19 := ⟨by decide +kernel, rfl⟩
theorem dX12_readPerson_19 : DD cX12_readPerson 19 (.aload_n 0) 1 20 := ⟨by decide +kernel, rfl⟩
theorem dX12_readPerson_20 : DD cX12_readPerson 20 (.invokevirtual 266) 3 23 := ⟨by decide +kernel, rfl⟩
theorem dX12_readPerson_23 : DD cX12_readPerson 23 (.ifCond .lt 8) 3 26 := ⟨by decide +kernel, rfl⟩
theorem dX12_readPerson_26 : DD cX12_readPerson 26 (.aload_n 0) 1 27 := ⟨by decide +kernel, rfl⟩
theorem dX12_readPerson_27 : DD cX12_readPerson 27 (.iconst 3) 1 28 := ⟨by decide +kernel, rfl⟩
theorem dX12_readPerson_28 : DD cX12_readPerson 28 (.invokevirtual 246) 3 31 := ⟨by decide +kernel, rfl⟩
theorem dX12_readPerson_31 : DD cX12_readPerson 31 (.aload_n 0) 1 32 := ⟨by decide +kernel, rfl⟩
theorem dX12_readPerson_32 : DD cX12_readPerson 32 (.getfield 197) 3 35 := ⟨by decide +kernel, rfl⟩
theorem dX12_readPerson_35 : DD cX12_readPerson 35 (.ifCond .le 4) 3 38 := ⟨by decide +kernel, rfl⟩
theorem dX12_readPerson_38 : DD cX12_readPerson 38 (.return_) 1 39 := ⟨by decide +kernel, rfl⟩
theorem dX12_readPerson_39 : DD cX12_readPerson 39 (.aload_n 0) 1 40 := ⟨by decide +kernel, rfl⟩
theorem dX12_readPerson_40 : DD cX12_readPerson 40 (.getfield 260) 3 43 := ⟨by decide +kernel, rfl⟩
theorem dX12_readPerson_43 : DD cX12_readPerson 43 (.istore_n 1) 1 44 := ⟨by decide +kernel, rfl⟩
theorem dX12_readPerson_44 : DD cX12_readPerson 44 (.aload_n 0) 1 45 := ⟨by decide +kernel, rfl⟩
theorem dX12_readPerson_45 : DD cX12_readPerson 45 (.getfield 17) 3 48 := ⟨by decide +kernel, rfl⟩
theorem dX12_readPerson_48 : DD cX12_readPerson 48 (.iload_n 1) 1 49 := ⟨by decide +kernel, rfl⟩
theorem dX12_readPerson_49 : DD cX12_readPerson 49 (.aload_n 0) 1 50 := ⟨by decide +kernel, rfl⟩
theorem dX12_readPerson_50 : DD cX12_readPerson 50 (.getfield 177) 3 53 := ⟨by decide +kernel, rfl⟩
theorem dX12_readPerson_53 : DD cX12_readPerson 53 (.lastore) 1 54 := ⟨by decide +kernel, rfl⟩
theorem dX12_readPerson_54 : DD cX12_readPerson 54 (.aload_n 0) 1 55 := ⟨by decide +kernel, rfl⟩
theorem dX12_readPerson_55 : DD cX12_readPerson 55 (.invokevirtual 249) 3 58 := ⟨by decide +kernel, rfl⟩
theorem dX12_readPerson_58 : DD cX12_readPerson 58 (.aload_n 0) 1 59 := ⟨by decide +kernel, rfl⟩
theorem dX12_readPerson_59 : DD cX12_readPerson 59 (.getfield 55) 3 62 := ⟨by decide +kernel, rfl⟩
theorem dX12_readPerson_62 : DD cX12_readPerson 62 (.iload_n 1) 1 63 := ⟨by decide +kernel, rfl⟩
theorem dX12_readPerson_63 : DD cX12_readPerson 63 (.aload_n 0) 1 64 := ⟨by decide +kernel, rfl⟩
theorem dX12_readPerson_64 : DD cX12_readPerson 64 (.ldc2_w 202) 3 67 := ⟨by decide +kernel, rfl⟩
theorem dX12_readPerson_67 : DD cX12_readPerson 67 (.iconst 0) 1 68 := ⟨by decide +kernel, rfl⟩
theorem dX12_readPerson_68 : DD cX12_readPerson 68 (.bipush 9) 2 70 := ⟨by decide +kernel, rfl⟩
theorem dX12_readPerson_70 : DD cX12_readPerson 70 (.invokevirtual 330) 3 73 := ⟨by decide +kernel, rfl⟩
theorem dX12_readPerson_73 : DD cX12_readPerson 73 (.iastore) 1 74 := ⟨by decide +kernel, rfl⟩
theorem dX12_readPerson_74 : DD cX12_readPerson 74 (.aload_n 0) 1 75 := ⟨by decide +kernel, rfl⟩
theorem dX12_readPerson_75 : DD cX12_readPerson 75 (.getfield 58) 3 78 := ⟨by decide +kernel, rfl⟩
theorem dX12_readPerson_78 : DD cX12_readPerson 78 (.iload_n 1) 1 79 := ⟨by decide +kernel, rfl⟩
theorem dX12_readPerson_79 : DD cX12_readPerson 79 (.aload_n 0) 1 80 := ⟨by decide +kernel, rfl⟩
theorem dX12_readPerson_80 : DD cX12_readPerson 80 (.getfield 197) 3 83 := ⟨by decide +kernel, rfl⟩
theorem dX12_readPerson_83 : DD cX12_readPerson 83 (.ifCond .le 7) 3 86 := ⟨by decide +kernel, rfl⟩
theorem dX12_readPerson_86 : DD cX12_readPerson 86 (.iconst 0) 1 87 := ⟨by decide +kernel, rfl⟩
theorem dX12_readPerson_87 : DD cX12_readPerson 87 (.goto 32) 3 90 := ⟨by decide +kernel, rfl⟩
theorem dX12_readPerson_90 : DD cX12_readPerson 90 (.aload_n 0) 1 91 := ⟨by decide +kernel, rfl⟩
theorem dX12_readPerson_91 : DD cX12_readPerson 91 (.ldc2_w 204) 3 94 := ⟨by decide +kernel, rfl⟩
theorem dX12_readPerson_94 : DD cX12_readPerson 94 (.invokevirtual 242) 3 97 := ⟨by decide +kernel, rfl⟩
theorem dX12_readPerson_97 : DD cX12_readPerson 97 (.ifCond .eq 7) 3 100 := ⟨by decide +kernel, rfl⟩
theorem dX12_readPerson_100 : DD cX12_readPerson 100 (.iconst 1) 1 101 := ⟨by decide +kernel, rfl⟩
theorem dX12_readPerson_101 : DD cX12_readPerson 101 (.goto 18) 3 104 := ⟨by decide +kernel, rfl⟩
theorem dX12_readPerson_104 : DD cX12_readPerson 104 (.aload_n 0) 1 105 := ⟨by decide +kernel, rfl⟩
theorem dX12_readPerson_105 : DD cX12_readPerson 105 (.ldc2_w 206) 3 108 := ⟨by decide +kernel, rfl⟩
theorem dX12_readPerson_108 : DD cX12_readPerson 108 (.invokevirtual 242) 3 111 := ⟨by decide +kernel, rfl⟩
theorem dX12_readPerson_111 : DD cX12_readPerson 111 (.ifCond .eq 7) 3 114 := ⟨by decide +kernel, rfl⟩
theorem dX12_readPerson_114 : DD cX12_readPerson 114 (.iconst 2) 1 115 := ⟨by decide +kernel, rfl⟩
theorem dX12_readPerson_115 : DD cX12_readPerson 115 (.goto 4) 3 118 := ⟨by decide +kernel, rfl⟩
theorem dX12_readPerson_118 : DD cX12_readPerson 118 (.iconst 0) 1 119 := ⟨by decide +kernel, rfl⟩
theorem dX12_readPerson_119 : DD cX12_readPerson 119 (.iastore) 1 120 := ⟨by decide +kernel, rfl⟩
theorem dX12_readPerson_120 : DD cX12_readPerson 120 (.aload_n 0) 1 121 := ⟨by decide +kernel, rfl⟩
theorem dX12_readPerson_121 : DD cX12_readPerson 121 (.getfield 58) 3 124 := ⟨by decide +kernel, rfl⟩
theorem dX12_readPerson_124 : DD cX12_readPerson 124 (.iload_n 1) 1 125 := ⟨by decide +kernel, rfl⟩
theorem dX12_readPerson_125 : DD cX12_readPerson 125 (.iaload) 1 126 := ⟨by decide +kernel, rfl⟩
theorem dX12_readPerson_126 : DD cX12_readPerson 126 (.ifCond .eq 7) 3 129 := ⟨by decide +kernel, rfl⟩
theorem dX12_readPerson_129 : DD cX12_readPerson 129 (.aload_n 0) 1 130 := ⟨by decide +kernel, rfl⟩
theorem dX12_readPerson_130 : DD cX12_readPerson 130 (.invokevirtual 249) 3 133 := ⟨by decide +kernel, rfl⟩
theorem dX12_readPerson_133 : DD cX12_readPerson 133 (.aload_n 0) 1 134 := ⟨by decide +kernel, rfl⟩
theorem dX12_readPerson_134 : DD cX12_readPerson 134 (.getfield 61) 3 137 := ⟨by decide +kernel, rfl⟩
theorem dX12_readPerson_137 : DD cX12_readPerson 137 (.iload_n 1) 1 138 := ⟨by decide +kernel, rfl⟩
theorem dX12_readPerson_138 : DD cX12_readPerson 138 (.iconst (-1)) 1 139 := ⟨by decide +kernel, rfl⟩
theorem dX12_readPerson_139 : DD cX12_readPerson 139 (.iastore) 1 140 := ⟨by decide +kernel, rfl⟩
theorem dX12_readPerson_140 : DD cX12_readPerson 140 (.aload_n 0) 1 141 := ⟨by decide +kernel, rfl⟩
theorem dX12_readPerson_141 : DD cX12_readPerson 141 (.getfield 197) 3 144 := ⟨by decide +kernel, rfl⟩
theorem dX12_readPerson_144 : DD cX12_readPerson 144 (.ifCond .ne 13) 3 147 := ⟨by decide +kernel, rfl⟩
theorem dX12_readPerson_147 : DD cX12_readPerson 147 (.aload_n 0) 1 148 := ⟨by decide +kernel, rfl⟩
theorem dX12_readPerson_148 : DD cX12_readPerson 148 (.dup) 1 149 := ⟨by decide +kernel, rfl⟩
theorem dX12_readPerson_149 : DD cX12_readPerson 149 (.getfield 260) 3 152 := ⟨by decide +kernel, rfl⟩
theorem dX12_readPerson_152 : DD cX12_readPerson 152 (.iconst 1) 1 153 := ⟨by decide +kernel, rfl⟩
theorem dX12_readPerson_153 : DD cX12_readPerson 153 (.iadd) 1 154 := ⟨by decide +kernel, rfl⟩
theorem dX12_readPerson_154 : DD cX12_readPerson 154 (.putfield 260) 3 157 := ⟨by decide +kernel, rfl⟩
theorem dX12_readPerson_157 : DD cX12_readPerson 157 (.return_) 1 158 := ⟨by decide +kernel, rfl⟩
def gX12_readPerson : Nat → Mem → Option Mem
  | 0, _ => none
  | f + 1, m => (if (m.1 0 2) ≤ 0 then (nm (m.1 0 47) fun v2 => (wrL m 2 7 v2 (m.2.1 0 9) fun m3 => (cV (fX12_token m3) fun m5 => (cI (fX12_told m5 (24948 : Int64) (0 : Int32) (9 : Int32)) fun r6 m7 => (wr m7 14 7 v2 r6 fun m8 => (if (m8.1 0 2) ≤ 0 then (cP (fX12_isWord m8 (474214787188 : Int64)) fun r10 => (if r10 = 0 then (cP (fX12_isWord m8 (448445441893 : Int64)) fun r13 => (if r13 = 0 then (wr m8 15 7 v2 (0 : Int32) fun m16 => (rd (m16.1 15) 7 v2 fun v17 => (if v17 = 0 then (wr m16 16 7 v2 (-1 : Int32) fun m19 => (if (m19.1 0 2) = 0 then (pt (sI m19 0 47 ((m19.1 0 47) + (1 : Int32))) fun m21 => (some m21)) else (some m19))) else (cV (fX12_token m16) fun m23 => (wr m23 16 7 v2 (-1 : Int32) fun m24 => (if (m24.1 0 2) = 0 then (pt (sI m24 0 47 ((m24.1 0 47) + (1 : Int32))) fun m26 => (some m26)) else (some m24))))))) else (wr m8 15 7 v2 (2 : Int32) fun m27 => (rd (m27.1 15) 7 v2 fun v28 => (if v28 = 0 then (wr m27 16 7 v2 (-1 : Int32) fun m30 => (if (m30.1 0 2) = 0 then (pt (sI m30 0 47 ((m30.1 0 47) + (1 : Int32))) fun m32 => (some m32)) else (some m30))) else (cV (fX12_token m27) fun m34 => (wr m34 16 7 v2 (-1 : Int32) fun m35 => (if (m35.1 0 2) = 0 then (pt (sI m35 0 47 ((m35.1 0 47) + (1 : Int32))) fun m37 => (some m37)) else (some m35))))))))) else (wr m8 15 7 v2 (1 : Int32) fun m38 => (rd (m38.1 15) 7 v2 fun v39 => (if v39 = 0 then (wr m38 16 7 v2 (-1 : Int32) fun m41 => (if (m41.1 0 2) = 0 then (pt (sI m41 0 47 ((m41.1 0 47) + (1 : Int32))) fun m43 => (some m43)) else (some m41))) else (cV (fX12_token m38) fun m45 => (wr m45 16 7 v2 (-1 : Int32) fun m46 => (if (m46.1 0 2) = 0 then (pt (sI m46 0 47 ((m46.1 0 47) + (1 : Int32))) fun m48 => (some m48)) else (some m46))))))))) else (wr m8 15 7 v2 (0 : Int32) fun m49 => (rd (m49.1 15) 7 v2 fun v50 => (if v50 = 0 then (wr m49 16 7 v2 (-1 : Int32) fun m52 => (if (m52.1 0 2) = 0 then (pt (sI m52 0 47 ((m52.1 0 47) + (1 : Int32))) fun m54 => (some m54)) else (some m52))) else (cV (fX12_token m49) fun m56 => (wr m56 16 7 v2 (-1 : Int32) fun m57 => (if (m57.1 0 2) = 0 then (pt (sI m57 0 47 ((m57.1 0 47) + (1 : Int32))) fun m59 => (some m59)) else (some m57))))))))))))) else (some m))
def fX12_readPerson (m : Mem) : Option Mem := (cV (fX12_token m) fun m2 => (cP (fX12_isName m2) fun r3 => (if r3 = 0 then (cV (fX12_wrong m2 (2 : Int32)) fun m12 => (gX12_readPerson 5000 m12)) else (cP (fX12_find m2) fun r6 => (if r6 < 0 then (gX12_readPerson 5000 m2) else (cV (fX12_wrong m2 (3 : Int32)) fun m10 => (gX12_readPerson 5000 m10)))))))
set_option maxHeartbeats 4000000 in
set_option maxRecDepth 100000 in
theorem wX12_readPerson {X : Cx} {G : Gt} (h : OkX (X, G, wM, nM) cX12_readPerson RX12 2 none 5) : ∀ f : Nat, (∀ (m : Mem), JR (X, G, wM, nM) cvV m 31 [some (.ref (G.2.2 0)), none] [] (gX12_readPerson f m)) := by
  intro f
  induction f with
  | zero => exact (fun _ => j_none)
  | succ f ih =>
    intro m
    rw [gX12_readPerson]
    refine j_aload_n h dX12_readPerson_31 rfl ?_
    refine gM_2 h dX12_readPerson_32 ?_
    refine j_if_le (tgt := 39) h dX12_readPerson_35 (by decide) (fun c1 => ?_) (fun c1 => ?_)
    · refine j_aload_n h dX12_readPerson_39 rfl ?_
      refine gM_47 h dX12_readPerson_40 ?_
      refine j_nm (fun v2 hv2 => ?_)
      refine j_istore_n h dX12_readPerson_43 rfl rfl ?_
      refine j_aload_n h dX12_readPerson_44 rfl ?_
      refine gM_10 h dX12_readPerson_45 ?_
      refine j_iload_n h dX12_readPerson_48 rfl ?_
      refine j_aload_n h dX12_readPerson_49 rfl ?_
      refine gM_9 h dX12_readPerson_50 ?_
      refine bM_2 h dX12_readPerson_53 (fun m3 hm3 => ?_)
      refine j_aload_n h dX12_readPerson_54 rfl ?_
      refine j_callVV (q0 := 0) (ci := 12) h [] (kX12_token _ G h.2.2.2.2.2.2.2.2.2.2 m3) okX12_token inX12_token ml12_249 rfl rfl rfl rfl (by decide) (by decide) (Nat.le_of_ble_eq_true rfl) rfl dX12_readPerson_55 (fun m5 hm5 => ?_)
      refine j_aload_n h dX12_readPerson_58 rfl ?_
      refine gM_28 h dX12_readPerson_59 ?_
      refine j_iload_n h dX12_readPerson_62 rfl ?_
      refine j_aload_n h dX12_readPerson_63 rfl ?_
      refine j_ldc2 (v := (24948 : Int64)) h dX12_readPerson_64 cl12_202 ?_
      refine j_iconst (v := (0 : Int32)) h dX12_readPerson_67 kiconst_0 ?_
      refine j_bipush (v := (9 : Int32)) h dX12_readPerson_68 kbipush_9 ?_
      refine j_callVI (q0 := 0) (ci := 12) h [.long (24948 : Int64), .int (0 : Int32), .int (9 : Int32)] (kX12_told _ G h.2.2.2.2.2.2.2.2.2.2 m5 (24948 : Int64) (0 : Int32) (9 : Int32)) okX12_told inX12_told ml12_330 rfl rfl rfl rfl (by decide) (by decide) (Nat.le_of_ble_eq_true rfl) rfl dX12_readPerson_70 (fun r6 m7 hr6 => ?_)
      refine bM_14 h dX12_readPerson_73 (fun m8 hm8 => ?_)
      refine j_aload_n h dX12_readPerson_74 rfl ?_
      refine gM_29 h dX12_readPerson_75 ?_
      refine j_iload_n h dX12_readPerson_78 rfl ?_
      refine j_aload_n h dX12_readPerson_79 rfl ?_
      refine gM_2 h dX12_readPerson_80 ?_
      refine j_if_le (tgt := 90) h dX12_readPerson_83 (by decide) (fun c9 => ?_) (fun c9 => ?_)
      · refine j_aload_n h dX12_readPerson_90 rfl ?_
        refine j_ldc2 (v := (474214787188 : Int64)) h dX12_readPerson_91 cl12_204 ?_
        refine j_callVP (q0 := 0) (ci := 12) h [.long (474214787188 : Int64)] (kX12_isWord _ G h.2.2.2.2.2.2.2.2.2.2 m8 (474214787188 : Int64)) okX12_isWord inX12_isWord ml12_242 rfl rfl rfl rfl (by decide) (by decide) (Nat.le_of_ble_eq_true rfl) rfl dX12_readPerson_94 (fun r10 hr10 => ?_)
        refine j_if_eq (tgt := 104) h dX12_readPerson_97 (by decide) (fun c12 => ?_) (fun c12 => ?_)
        · refine j_aload_n h dX12_readPerson_104 rfl ?_
          refine j_ldc2 (v := (448445441893 : Int64)) h dX12_readPerson_105 cl12_206 ?_
          refine j_callVP (q0 := 0) (ci := 12) h [.long (448445441893 : Int64)] (kX12_isWord _ G h.2.2.2.2.2.2.2.2.2.2 m8 (448445441893 : Int64)) okX12_isWord inX12_isWord ml12_242 rfl rfl rfl rfl (by decide) (by decide) (Nat.le_of_ble_eq_true rfl) rfl dX12_readPerson_108 (fun r13 hr13 => ?_)
          refine j_if_eq (tgt := 118) h dX12_readPerson_111 (by decide) (fun c15 => ?_) (fun c15 => ?_)
          · refine j_iconst (v := (0 : Int32)) h dX12_readPerson_118 kiconst_0 ?_
            refine bM_15 h dX12_readPerson_119 (fun m16 hm16 => ?_)
            refine j_aload_n h dX12_readPerson_120 rfl ?_
            refine gM_29 h dX12_readPerson_121 ?_
            refine j_iload_n h dX12_readPerson_124 rfl ?_
            refine aM_15 h dX12_readPerson_125 (fun v17 hv17 => ?_)
            refine j_if_eq (tgt := 133) h dX12_readPerson_126 (by decide) (fun c18 => ?_) (fun c18 => ?_)
            · refine j_aload_n h dX12_readPerson_133 rfl ?_
              refine gM_30 h dX12_readPerson_134 ?_
              refine j_iload_n h dX12_readPerson_137 rfl ?_
              refine j_iconst (v := (-1 : Int32)) h dX12_readPerson_138 kiconst_m1 ?_
              refine bM_16 h dX12_readPerson_139 (fun m19 hm19 => ?_)
              refine j_aload_n h dX12_readPerson_140 rfl ?_
              refine gM_2 h dX12_readPerson_141 ?_
              refine j_if_ne (tgt := 157) h dX12_readPerson_144 (by decide) (fun c20 => ?_) (fun c20 => ?_)
              · exact j_vret h rfl dX12_readPerson_157
              · refine j_aload_n h dX12_readPerson_147 rfl ?_
                refine j_dup h dX12_readPerson_148 rfl ?_
                refine gM_47 h dX12_readPerson_149 ?_
                refine j_iconst (v := (1 : Int32)) h dX12_readPerson_152 kiconst_1 ?_
                refine j_iadd h dX12_readPerson_153 ?_
                refine pM_47 h dX12_readPerson_154 (fun m21 hm21 => ?_)
                exact j_vret h rfl dX12_readPerson_157
            · refine j_aload_n h dX12_readPerson_129 rfl ?_
              refine j_callVV (q0 := 0) (ci := 12) h [] (kX12_token _ G h.2.2.2.2.2.2.2.2.2.2 m16) okX12_token inX12_token ml12_249 rfl rfl rfl rfl (by decide) (by decide) (Nat.le_of_ble_eq_true rfl) rfl dX12_readPerson_130 (fun m23 hm23 => ?_)
              refine j_aload_n h dX12_readPerson_133 rfl ?_
              refine gM_30 h dX12_readPerson_134 ?_
              refine j_iload_n h dX12_readPerson_137 rfl ?_
              refine j_iconst (v := (-1 : Int32)) h dX12_readPerson_138 kiconst_m1 ?_
              refine bM_16 h dX12_readPerson_139 (fun m24 hm24 => ?_)
              refine j_aload_n h dX12_readPerson_140 rfl ?_
              refine gM_2 h dX12_readPerson_141 ?_
              refine j_if_ne (tgt := 157) h dX12_readPerson_144 (by decide) (fun c25 => ?_) (fun c25 => ?_)
              · exact j_vret h rfl dX12_readPerson_157
              · refine j_aload_n h dX12_readPerson_147 rfl ?_
                refine j_dup h dX12_readPerson_148 rfl ?_
                refine gM_47 h dX12_readPerson_149 ?_
                refine j_iconst (v := (1 : Int32)) h dX12_readPerson_152 kiconst_1 ?_
                refine j_iadd h dX12_readPerson_153 ?_
                refine pM_47 h dX12_readPerson_154 (fun m26 hm26 => ?_)
                exact j_vret h rfl dX12_readPerson_157
          · refine j_iconst (v := (2 : Int32)) h dX12_readPerson_114 kiconst_2 ?_
            refine j_goto (tgt := 119) h dX12_readPerson_115 (by decide) ?_
            refine bM_15 h dX12_readPerson_119 (fun m27 hm27 => ?_)
            refine j_aload_n h dX12_readPerson_120 rfl ?_
            refine gM_29 h dX12_readPerson_121 ?_
            refine j_iload_n h dX12_readPerson_124 rfl ?_
            refine aM_15 h dX12_readPerson_125 (fun v28 hv28 => ?_)
            refine j_if_eq (tgt := 133) h dX12_readPerson_126 (by decide) (fun c29 => ?_) (fun c29 => ?_)
            · refine j_aload_n h dX12_readPerson_133 rfl ?_
              refine gM_30 h dX12_readPerson_134 ?_
              refine j_iload_n h dX12_readPerson_137 rfl ?_
              refine j_iconst (v := (-1 : Int32)) h dX12_readPerson_138 kiconst_m1 ?_
              refine bM_16 h dX12_readPerson_139 (fun m30 hm30 => ?_)
              refine j_aload_n h dX12_readPerson_140 rfl ?_
              refine gM_2 h dX12_readPerson_141 ?_
              refine j_if_ne (tgt := 157) h dX12_readPerson_144 (by decide) (fun c31 => ?_) (fun c31 => ?_)
              · exact j_vret h rfl dX12_readPerson_157
              · refine j_aload_n h dX12_readPerson_147 rfl ?_
                refine j_dup h dX12_readPerson_148 rfl ?_
                refine gM_47 h dX12_readPerson_149 ?_
                refine j_iconst (v := (1 : Int32)) h dX12_readPerson_152 kiconst_1 ?_
                refine j_iadd h dX12_readPerson_153 ?_
                refine pM_47 h dX12_readPerson_154 (fun m32 hm32 => ?_)
                exact j_vret h rfl dX12_readPerson_157
            · refine j_aload_n h dX12_readPerson_129 rfl ?_
              refine j_callVV (q0 := 0) (ci := 12) h [] (kX12_token _ G h.2.2.2.2.2.2.2.2.2.2 m27) okX12_token inX12_token ml12_249 rfl rfl rfl rfl (by decide) (by decide) (Nat.le_of_ble_eq_true rfl) rfl dX12_readPerson_130 (fun m34 hm34 => ?_)
              refine j_aload_n h dX12_readPerson_133 rfl ?_
              refine gM_30 h dX12_readPerson_134 ?_
              refine j_iload_n h dX12_readPerson_137 rfl ?_
              refine j_iconst (v := (-1 : Int32)) h dX12_readPerson_138 kiconst_m1 ?_
              refine bM_16 h dX12_readPerson_139 (fun m35 hm35 => ?_)
              refine j_aload_n h dX12_readPerson_140 rfl ?_
              refine gM_2 h dX12_readPerson_141 ?_
              refine j_if_ne (tgt := 157) h dX12_readPerson_144 (by decide) (fun c36 => ?_) (fun c36 => ?_)
              · exact j_vret h rfl dX12_readPerson_157
              · refine j_aload_n h dX12_readPerson_147 rfl ?_
                refine j_dup h dX12_readPerson_148 rfl ?_
                refine gM_47 h dX12_readPerson_149 ?_
                refine j_iconst (v := (1 : Int32)) h dX12_readPerson_152 kiconst_1 ?_
                refine j_iadd h dX12_readPerson_153 ?_
                refine pM_47 h dX12_readPerson_154 (fun m37 hm37 => ?_)
                exact j_vret h rfl dX12_readPerson_157
        · refine j_iconst (v := (1 : Int32)) h dX12_readPerson_100 kiconst_1 ?_
          refine j_goto (tgt := 119) h dX12_readPerson_101 (by decide) ?_
          refine bM_15 h dX12_readPerson_119 (fun m38 hm38 => ?_)
          refine j_aload_n h dX12_readPerson_120 rfl ?_
          refine gM_29 h dX12_readPerson_121 ?_
          refine j_iload_n h dX12_readPerson_124 rfl ?_
          refine aM_15 h dX12_readPerson_125 (fun v39 hv39 => ?_)
          refine j_if_eq (tgt := 133) h dX12_readPerson_126 (by decide) (fun c40 => ?_) (fun c40 => ?_)
          · refine j_aload_n h dX12_readPerson_133 rfl ?_
            refine gM_30 h dX12_readPerson_134 ?_
            refine j_iload_n h dX12_readPerson_137 rfl ?_
            refine j_iconst (v := (-1 : Int32)) h dX12_readPerson_138 kiconst_m1 ?_
            refine bM_16 h dX12_readPerson_139 (fun m41 hm41 => ?_)
            refine j_aload_n h dX12_readPerson_140 rfl ?_
            refine gM_2 h dX12_readPerson_141 ?_
            refine j_if_ne (tgt := 157) h dX12_readPerson_144 (by decide) (fun c42 => ?_) (fun c42 => ?_)
            · exact j_vret h rfl dX12_readPerson_157
            · refine j_aload_n h dX12_readPerson_147 rfl ?_
              refine j_dup h dX12_readPerson_148 rfl ?_
              refine gM_47 h dX12_readPerson_149 ?_
              refine j_iconst (v := (1 : Int32)) h dX12_readPerson_152 kiconst_1 ?_
              refine j_iadd h dX12_readPerson_153 ?_
              refine pM_47 h dX12_readPerson_154 (fun m43 hm43 => ?_)
              exact j_vret h rfl dX12_readPerson_157
          · refine j_aload_n h dX12_readPerson_129 rfl ?_
            refine j_callVV (q0 := 0) (ci := 12) h [] (kX12_token _ G h.2.2.2.2.2.2.2.2.2.2 m38) okX12_token inX12_token ml12_249 rfl rfl rfl rfl (by decide) (by decide) (Nat.le_of_ble_eq_true rfl) rfl dX12_readPerson_130 (fun m45 hm45 => ?_)
            refine j_aload_n h dX12_readPerson_133 rfl ?_
            refine gM_30 h dX12_readPerson_134 ?_
            refine j_iload_n h dX12_readPerson_137 rfl ?_
            refine j_iconst (v := (-1 : Int32)) h dX12_readPerson_138 kiconst_m1 ?_
            refine bM_16 h dX12_readPerson_139 (fun m46 hm46 => ?_)
            refine j_aload_n h dX12_readPerson_140 rfl ?_
            refine gM_2 h dX12_readPerson_141 ?_
            refine j_if_ne (tgt := 157) h dX12_readPerson_144 (by decide) (fun c47 => ?_) (fun c47 => ?_)
            · exact j_vret h rfl dX12_readPerson_157
            · refine j_aload_n h dX12_readPerson_147 rfl ?_
              refine j_dup h dX12_readPerson_148 rfl ?_
              refine gM_47 h dX12_readPerson_149 ?_
              refine j_iconst (v := (1 : Int32)) h dX12_readPerson_152 kiconst_1 ?_
              refine j_iadd h dX12_readPerson_153 ?_
              refine pM_47 h dX12_readPerson_154 (fun m48 hm48 => ?_)
              exact j_vret h rfl dX12_readPerson_157
      · refine j_iconst (v := (0 : Int32)) h dX12_readPerson_86 kiconst_0 ?_
        refine j_goto (tgt := 119) h dX12_readPerson_87 (by decide) ?_
        refine bM_15 h dX12_readPerson_119 (fun m49 hm49 => ?_)
        refine j_aload_n h dX12_readPerson_120 rfl ?_
        refine gM_29 h dX12_readPerson_121 ?_
        refine j_iload_n h dX12_readPerson_124 rfl ?_
        refine aM_15 h dX12_readPerson_125 (fun v50 hv50 => ?_)
        refine j_if_eq (tgt := 133) h dX12_readPerson_126 (by decide) (fun c51 => ?_) (fun c51 => ?_)
        · refine j_aload_n h dX12_readPerson_133 rfl ?_
          refine gM_30 h dX12_readPerson_134 ?_
          refine j_iload_n h dX12_readPerson_137 rfl ?_
          refine j_iconst (v := (-1 : Int32)) h dX12_readPerson_138 kiconst_m1 ?_
          refine bM_16 h dX12_readPerson_139 (fun m52 hm52 => ?_)
          refine j_aload_n h dX12_readPerson_140 rfl ?_
          refine gM_2 h dX12_readPerson_141 ?_
          refine j_if_ne (tgt := 157) h dX12_readPerson_144 (by decide) (fun c53 => ?_) (fun c53 => ?_)
          · exact j_vret h rfl dX12_readPerson_157
          · refine j_aload_n h dX12_readPerson_147 rfl ?_
            refine j_dup h dX12_readPerson_148 rfl ?_
            refine gM_47 h dX12_readPerson_149 ?_
            refine j_iconst (v := (1 : Int32)) h dX12_readPerson_152 kiconst_1 ?_
            refine j_iadd h dX12_readPerson_153 ?_
            refine pM_47 h dX12_readPerson_154 (fun m54 hm54 => ?_)
            exact j_vret h rfl dX12_readPerson_157
        · refine j_aload_n h dX12_readPerson_129 rfl ?_
          refine j_callVV (q0 := 0) (ci := 12) h [] (kX12_token _ G h.2.2.2.2.2.2.2.2.2.2 m49) okX12_token inX12_token ml12_249 rfl rfl rfl rfl (by decide) (by decide) (Nat.le_of_ble_eq_true rfl) rfl dX12_readPerson_130 (fun m56 hm56 => ?_)
          refine j_aload_n h dX12_readPerson_133 rfl ?_
          refine gM_30 h dX12_readPerson_134 ?_
          refine j_iload_n h dX12_readPerson_137 rfl ?_
          refine j_iconst (v := (-1 : Int32)) h dX12_readPerson_138 kiconst_m1 ?_
          refine bM_16 h dX12_readPerson_139 (fun m57 hm57 => ?_)
          refine j_aload_n h dX12_readPerson_140 rfl ?_
          refine gM_2 h dX12_readPerson_141 ?_
          refine j_if_ne (tgt := 157) h dX12_readPerson_144 (by decide) (fun c58 => ?_) (fun c58 => ?_)
          · exact j_vret h rfl dX12_readPerson_157
          · refine j_aload_n h dX12_readPerson_147 rfl ?_
            refine j_dup h dX12_readPerson_148 rfl ?_
            refine gM_47 h dX12_readPerson_149 ?_
            refine j_iconst (v := (1 : Int32)) h dX12_readPerson_152 kiconst_1 ?_
            refine j_iadd h dX12_readPerson_153 ?_
            refine pM_47 h dX12_readPerson_154 (fun m59 hm59 => ?_)
            exact j_vret h rfl dX12_readPerson_157
    · exact j_vret h rfl dX12_readPerson_38
set_option maxHeartbeats 4000000 in
set_option maxRecDepth 100000 in
theorem kX12_readPerson (l : Launch) (G : Gt) (hD : ∀ m, va_D (inA G nM) (wM G m)) (m : Mem) : ∀ a, fX12_readPerson m = some a → Ct l G wM nM yX12_readPerson cX12_readPerson 2 none 5 [.ref (G.2.2 0)] m (cvV a) := by
  refine ct_of (own := RX12) (ls0 := [some (.ref (G.2.2 0)), none]) (by decide) rfl rfl rfl (Nat.le_of_ble_eq_true rfl) hD (fun X h => ?_) l
  unfold fX12_readPerson
  refine j_aload_n h dX12_readPerson_0 rfl ?_
  refine j_callVV (q0 := 0) (ci := 12) h [] (kX12_token _ G h.2.2.2.2.2.2.2.2.2.2 m) okX12_token inX12_token ml12_249 rfl rfl rfl rfl (by decide) (by decide) (Nat.le_of_ble_eq_true rfl) rfl dX12_readPerson_1 (fun m2 hm2 => ?_)
  refine j_aload_n h dX12_readPerson_4 rfl ?_
  refine j_callVP (q0 := 0) (ci := 12) h [] (kX12_isName _ G h.2.2.2.2.2.2.2.2.2.2 m2) okX12_isName inX12_isName ml12_263 rfl rfl rfl rfl (by decide) (by decide) (Nat.le_of_ble_eq_true rfl) rfl dX12_readPerson_5 (fun r3 hr3 => ?_)
  refine j_if_ne (tgt := 19) h dX12_readPerson_8 (by decide) (fun c5 => ?_) (fun c5 => ?_)
  · refine j_aload_n h dX12_readPerson_19 rfl ?_
    refine j_callVP (q0 := 0) (ci := 12) h [] (kX12_find _ G h.2.2.2.2.2.2.2.2.2.2 m2) okX12_find inX12_find ml12_266 rfl rfl rfl rfl (by decide) (by decide) (Nat.le_of_ble_eq_true rfl) rfl dX12_readPerson_20 (fun r6 hr6 => ?_)
    refine j_if_lt (tgt := 31) h dX12_readPerson_23 (by decide) (fun c8 => ?_) (fun c8 => ?_)
    · refine j_wk (ls' := [some (.ref (G.2.2 0)), none]) (And.intro rfl trivial) ?_
      exact (wX12_readPerson h 5000) m2
    · refine j_aload_n h dX12_readPerson_26 rfl ?_
      refine j_iconst (v := (3 : Int32)) h dX12_readPerson_27 kiconst_3 ?_
      refine j_callVV (q0 := 0) (ci := 12) h [.int (3 : Int32)] (kX12_wrong _ G h.2.2.2.2.2.2.2.2.2.2 m2 (3 : Int32)) okX12_wrong inX12_wrong ml12_246 rfl rfl rfl rfl (by decide) (by decide) (Nat.le_of_ble_eq_true rfl) rfl dX12_readPerson_28 (fun m10 hm10 => ?_)
      refine j_wk (ls' := [some (.ref (G.2.2 0)), none]) (And.intro rfl trivial) ?_
      exact (wX12_readPerson h 5000) m10
  · refine j_aload_n h dX12_readPerson_11 rfl ?_
    refine j_iconst (v := (2 : Int32)) h dX12_readPerson_12 kiconst_2 ?_
    refine j_callVV (q0 := 0) (ci := 12) h [.int (2 : Int32)] (kX12_wrong _ G h.2.2.2.2.2.2.2.2.2.2 m2 (2 : Int32)) okX12_wrong inX12_wrong ml12_246 rfl rfl rfl rfl (by decide) (by decide) (Nat.le_of_ble_eq_true rfl) rfl dX12_readPerson_13 (fun m12 hm12 => ?_)
    refine j_goto (tgt := 31) h dX12_readPerson_16 (by decide) ?_
    refine j_wk (ls' := [some (.ref (G.2.2 0)), none]) (And.intro rfl trivial) ?_
    exact (wX12_readPerson h 5000) m12
theorem dX12_isMeetTold_0 : DD cX12_isMeetTold 0 (.iconst 0) 1 1 := ⟨by decide +kernel, rfl⟩
theorem dX12_isMeetTold_1 : DD cX12_isMeetTold 1 (.istore_n 3) 1 2 := ⟨by decide +kernel, rfl⟩
theorem dX12_isMeetTold_2 : DD cX12_isMeetTold 2 (.iconst 0) 1 3 := ⟨by decide +kernel, rfl⟩
theorem dX12_isMeetTold_3 : DD cX12_isMeetTold 3 (.istore 4) 2 5 := ⟨by decide +kernel, rfl⟩
theorem dX12_isMeetTold_5 : DD cX12_isMeetTold 5 (.iload 4) 2 7 := ⟨by decide +kernel, rfl⟩
theorem dX12_isMeetTold_7 : DD cX12_isMeetTold 7 (.aload_n 0) 1 8 := ⟨by decide +kernel, rfl⟩
theorem dX12_isMeetTold_8 : DD cX12_isMeetTold 8 (.getfield 334) 3 11 := ⟨by decide +kernel, rfl⟩
theorem dX12_isMeetTold_11 : DD cX12_isMeetTold 11 (.if_icmp .ge 63) 3 14 := ⟨by decide +kernel, rfl⟩
theorem dX12_isMeetTold_14 : DD cX12_isMeetTold 14 (.iload_n 3) 1 15 := ⟨by decide +kernel, rfl⟩
theorem dX12_isMeetTold_15 : DD cX12_isMeetTold 15 (.ifCond .ne 47) 3 18 := ⟨by decide +kernel, rfl⟩
theorem dX12_isMeetTold_18 : DD cX12_isMeetTold 18 (.aload_n 0) 1 19 := ⟨by decide +kernel, rfl⟩
theorem dX12_isMeetTold_19 : DD cX12_isMeetTold 19 (.getfield 70) 3 22 := ⟨by decide +kernel, rfl⟩
theorem dX12_isMeetTold_22 : DD cX12_isMeetTold 22 (.iload 4) 2 24 := ⟨by decide +kernel, rfl⟩
theorem dX12_isMeetTold_24 : DD cX12_isMeetTold 24 (.iaload) 1 25 := ⟨by decide +kernel, rfl⟩
theorem dX12_isMeetTold_25 : DD cX12_isMeetTold 25 (.iload_n 1) 1 26 := ⟨by decide +kernel, rfl⟩
theorem dX12_isMeetTold_26 : DD cX12_isMeetTold 26 (.if_icmp .ne 14) 3 29 := ⟨by decide +kernel, rfl⟩
theorem dX12_isMeetTold_29 : DD cX12_isMeetTold 29 (.aload_n 0) 1 30 := ⟨by decide +kernel, rfl⟩
theorem dX12_isMeetTold_30 : DD cX12_isMeetTold 30 (.getfield 73) 3 33 := ⟨by decide +kernel, rfl⟩
theorem dX12_isMeetTold_33 : DD cX12_isMeetTold 33 (.iload 4) 2 35 := ⟨by decide +kernel, rfl⟩
theorem dX12_isMeetTold_35 : DD cX12_isMeetTold 35 (.iaload) 1 36 := ⟨by decide +kernel, rfl⟩
theorem dX12_isMeetTold_36 : DD cX12_isMeetTold 36 (.iload_n 2) 1 37 := ⟨by decide +kernel, rfl⟩
theorem dX12_isMeetTold_37 : DD cX12_isMeetTold 37 (.if_icmp .eq 25) 3 40 := ⟨by decide +kernel, rfl⟩
theorem dX12_isMeetTold_40 : DD cX12_isMeetTold 40 (.aload_n 0) 1 41 := ⟨by decide +kernel, rfl⟩
theorem dX12_isMeetTold_41 : DD cX12_isMeetTold 41 (.getfield 70) 3 44 := ⟨by decide +kernel, rfl⟩
theorem dX12_isMeetTold_44 : DD cX12_isMeetTold 44 (.iload 4) 2 46 := ⟨by decide +kernel, rfl⟩
theorem dX12_isMeetTold_46 : DD cX12_isMeetTold 46 (.iaload) 1 47 := ⟨by decide +kernel, rfl⟩
theorem dX12_isMeetTold_47 : DD cX12_isMeetTold 47 (.iload_n 2) 1 48 := ⟨by decide +kernel, rfl⟩
theorem dX12_isMeetTold_48 : DD cX12_isMeetTold 48 (.if_icmp .ne 18) 3 51 := ⟨by decide +kernel, rfl⟩
theorem dX12_isMeetTold_51 : DD cX12_isMeetTold 51 (.aload_n 0) 1 52 := ⟨by decide +kernel, rfl⟩
theorem dX12_isMeetTold_52 : DD cX12_isMeetTold 52 (.getfield 73) 3 55 := ⟨by decide +kernel, rfl⟩
theorem dX12_isMeetTold_55 : DD cX12_isMeetTold 55 (.iload 4) 2 57 := ⟨by decide +kernel, rfl⟩
theorem dX12_isMeetTold_57 : DD cX12_isMeetTold 57 (.iaload) 1 58 := ⟨by decide +kernel, rfl⟩
theorem dX12_isMeetTold_58 : DD cX12_isMeetTold 58 (.iload_n 1) 1 59 := ⟨by decide +kernel, rfl⟩
theorem dX12_isMeetTold_59 : DD cX12_isMeetTold 59 (.if_icmp .ne 7) 3 62 := ⟨by decide +kernel, rfl⟩
theorem dX12_isMeetTold_62 : DD cX12_isMeetTold 62 (.iconst 1) 1 63 := ⟨by decide +kernel, rfl⟩
theorem dX12_isMeetTold_63 : DD cX12_isMeetTold 63 (.goto 4) 3 66 := ⟨by decide +kernel, rfl⟩
theorem dX12_isMeetTold_66 : DD cX12_isMeetTold 66 (.iconst 0) 1 67 := ⟨by decide +kernel, rfl⟩
theorem dX12_isMeetTold_67 : DD cX12_isMeetTold 67 (.istore_n 3) 1 68 := ⟨by decide +kernel, rfl⟩
theorem dX12_isMeetTold_68 : DD cX12_isMeetTold 68 (.iinc 4 1) 3 71 := ⟨by decide +kernel, rfl⟩
theorem dX12_isMeetTold_71 : DD cX12_isMeetTold 71 (.goto (-66)) 3 74 := ⟨by decide +kernel, rfl⟩
theorem dX12_isMeetTold_74 : DD cX12_isMeetTold 74 (.iload_n 3) 1 75 := ⟨by decide +kernel, rfl⟩
theorem dX12_isMeetTold_75 : DD cX12_isMeetTold 75 (.ireturn) 1 76 := ⟨by decide +kernel, rfl⟩
def gX12_isMeetTold (m : Mem) : Nat → Int32 → Int32 → Int32 → Int32 → Option Int32
  | 0, _, _, _, _ => none
  | f + 1, x1, x2, x3, x4 => (if (m.1 0 48) ≤ x4 then (tz x3 (some x3)) else (if x3 = 0 then (rd (m.1 19) 10 x4 fun v3 => (if v3 = x1 then (rd (m.1 20) 10 x4 fun v9 => (if v9 = x2 then (gX12_isMeetTold m f x1 x2 (1 : Int32) (x4 + (1 : Int32))) else (rd (m.1 19) 10 x4 fun v11 => (if v11 = x2 then (rd (m.1 20) 10 x4 fun v13 => (if v13 = x1 then (gX12_isMeetTold m f x1 x2 (1 : Int32) (x4 + (1 : Int32))) else (gX12_isMeetTold m f x1 x2 (0 : Int32) (x4 + (1 : Int32))))) else (gX12_isMeetTold m f x1 x2 (0 : Int32) (x4 + (1 : Int32))))))) else (rd (m.1 19) 10 x4 fun v5 => (if v5 = x2 then (rd (m.1 20) 10 x4 fun v7 => (if v7 = x1 then (gX12_isMeetTold m f x1 x2 (1 : Int32) (x4 + (1 : Int32))) else (gX12_isMeetTold m f x1 x2 (0 : Int32) (x4 + (1 : Int32))))) else (gX12_isMeetTold m f x1 x2 (0 : Int32) (x4 + (1 : Int32))))))) else (gX12_isMeetTold m f x1 x2 (1 : Int32) (x4 + (1 : Int32)))))
def fX12_isMeetTold (m : Mem) (x1 : Int32) (x2 : Int32) : Option Int32 := (gX12_isMeetTold m 5000 x1 x2 (0 : Int32) (0 : Int32))
set_option maxHeartbeats 4000000 in
set_option maxRecDepth 100000 in
theorem wX12_isMeetTold {X : Cx} {G : Gt} (h : OkX (X, G, wM, nM) cX12_isMeetTold RX12 5 (some .boolean) 1) (m : Mem) : ∀ f : Nat, (∀ (x1 : Int32) (x2 : Int32) (x3 : Int32) (x4 : Int32), JR (X, G, wM, nM) (cvP m) m 5 [some (.ref (G.2.2 0)), some (.int x1), some (.int x2), some (.int x3), some (.int x4)] [] (gX12_isMeetTold m f x1 x2 x3 x4)) := by
  intro f
  induction f with
  | zero => exact (fun _ _ _ _ => j_none)
  | succ f ih =>
    intro x1 x2 x3 x4
    rw [gX12_isMeetTold]
    refine j_iload h dX12_isMeetTold_5 rfl ?_
    refine j_aload_n h dX12_isMeetTold_7 rfl ?_
    refine gM_48 h dX12_isMeetTold_8 ?_
    refine j_icmp_ge (tgt := 74) h dX12_isMeetTold_11 (by decide) (fun c1 => ?_) (fun c1 => ?_)
    · refine j_iload_n h dX12_isMeetTold_74 rfl ?_
      exact j_zret h rfl dX12_isMeetTold_75
    · refine j_iload_n h dX12_isMeetTold_14 rfl ?_
      refine j_if_ne (tgt := 62) h dX12_isMeetTold_15 (by decide) (fun c2 => ?_) (fun c2 => ?_)
      · refine j_iconst (v := (1 : Int32)) h dX12_isMeetTold_62 kiconst_1 ?_
        refine j_goto (tgt := 67) h dX12_isMeetTold_63 (by decide) ?_
        refine j_istore_n h dX12_isMeetTold_67 rfl rfl ?_
        refine j_iinc (v := (x4 + (1 : Int32))) h dX12_isMeetTold_68 rfl (by rw [kiconst_1]) rfl ?_
        refine j_goto (tgt := 5) h dX12_isMeetTold_71 (by decide) ?_
        refine j_wk (ls' := [some (.ref (G.2.2 0)), some (.int x1), some (.int x2), some (.int (1 : Int32)), some (.int (x4 + (1 : Int32)))]) (And.intro rfl (And.intro rfl (And.intro rfl (And.intro rfl (And.intro rfl trivial))))) ?_
        exact ih x1 x2 (1 : Int32) (x4 + (1 : Int32))
      · refine j_aload_n h dX12_isMeetTold_18 rfl ?_
        refine gM_33 h dX12_isMeetTold_19 ?_
        refine j_iload h dX12_isMeetTold_22 rfl ?_
        refine aM_19 h dX12_isMeetTold_24 (fun v3 hv3 => ?_)
        refine j_iload_n h dX12_isMeetTold_25 rfl ?_
        refine j_icmp_ne (tgt := 40) h dX12_isMeetTold_26 (by decide) (fun c4 => ?_) (fun c4 => ?_)
        · refine j_aload_n h dX12_isMeetTold_40 rfl ?_
          refine gM_33 h dX12_isMeetTold_41 ?_
          refine j_iload h dX12_isMeetTold_44 rfl ?_
          refine aM_19 h dX12_isMeetTold_46 (fun v5 hv5 => ?_)
          refine j_iload_n h dX12_isMeetTold_47 rfl ?_
          refine j_icmp_ne (tgt := 66) h dX12_isMeetTold_48 (by decide) (fun c6 => ?_) (fun c6 => ?_)
          · refine j_iconst (v := (0 : Int32)) h dX12_isMeetTold_66 kiconst_0 ?_
            refine j_istore_n h dX12_isMeetTold_67 rfl rfl ?_
            refine j_iinc (v := (x4 + (1 : Int32))) h dX12_isMeetTold_68 rfl (by rw [kiconst_1]) rfl ?_
            refine j_goto (tgt := 5) h dX12_isMeetTold_71 (by decide) ?_
            refine j_wk (ls' := [some (.ref (G.2.2 0)), some (.int x1), some (.int x2), some (.int (0 : Int32)), some (.int (x4 + (1 : Int32)))]) (And.intro rfl (And.intro rfl (And.intro rfl (And.intro rfl (And.intro rfl trivial))))) ?_
            exact ih x1 x2 (0 : Int32) (x4 + (1 : Int32))
          · refine j_aload_n h dX12_isMeetTold_51 rfl ?_
            refine gM_34 h dX12_isMeetTold_52 ?_
            refine j_iload h dX12_isMeetTold_55 rfl ?_
            refine aM_20 h dX12_isMeetTold_57 (fun v7 hv7 => ?_)
            refine j_iload_n h dX12_isMeetTold_58 rfl ?_
            refine j_icmp_ne (tgt := 66) h dX12_isMeetTold_59 (by decide) (fun c8 => ?_) (fun c8 => ?_)
            · refine j_iconst (v := (0 : Int32)) h dX12_isMeetTold_66 kiconst_0 ?_
              refine j_istore_n h dX12_isMeetTold_67 rfl rfl ?_
              refine j_iinc (v := (x4 + (1 : Int32))) h dX12_isMeetTold_68 rfl (by rw [kiconst_1]) rfl ?_
              refine j_goto (tgt := 5) h dX12_isMeetTold_71 (by decide) ?_
              refine j_wk (ls' := [some (.ref (G.2.2 0)), some (.int x1), some (.int x2), some (.int (0 : Int32)), some (.int (x4 + (1 : Int32)))]) (And.intro rfl (And.intro rfl (And.intro rfl (And.intro rfl (And.intro rfl trivial))))) ?_
              exact ih x1 x2 (0 : Int32) (x4 + (1 : Int32))
            · refine j_iconst (v := (1 : Int32)) h dX12_isMeetTold_62 kiconst_1 ?_
              refine j_goto (tgt := 67) h dX12_isMeetTold_63 (by decide) ?_
              refine j_istore_n h dX12_isMeetTold_67 rfl rfl ?_
              refine j_iinc (v := (x4 + (1 : Int32))) h dX12_isMeetTold_68 rfl (by rw [kiconst_1]) rfl ?_
              refine j_goto (tgt := 5) h dX12_isMeetTold_71 (by decide) ?_
              refine j_wk (ls' := [some (.ref (G.2.2 0)), some (.int x1), some (.int x2), some (.int (1 : Int32)), some (.int (x4 + (1 : Int32)))]) (And.intro rfl (And.intro rfl (And.intro rfl (And.intro rfl (And.intro rfl trivial))))) ?_
              exact ih x1 x2 (1 : Int32) (x4 + (1 : Int32))
        · refine j_aload_n h dX12_isMeetTold_29 rfl ?_
          refine gM_34 h dX12_isMeetTold_30 ?_
          refine j_iload h dX12_isMeetTold_33 rfl ?_
          refine aM_20 h dX12_isMeetTold_35 (fun v9 hv9 => ?_)
          refine j_iload_n h dX12_isMeetTold_36 rfl ?_
          refine j_icmp_eq (tgt := 62) h dX12_isMeetTold_37 (by decide) (fun c10 => ?_) (fun c10 => ?_)
          · refine j_iconst (v := (1 : Int32)) h dX12_isMeetTold_62 kiconst_1 ?_
            refine j_goto (tgt := 67) h dX12_isMeetTold_63 (by decide) ?_
            refine j_istore_n h dX12_isMeetTold_67 rfl rfl ?_
            refine j_iinc (v := (x4 + (1 : Int32))) h dX12_isMeetTold_68 rfl (by rw [kiconst_1]) rfl ?_
            refine j_goto (tgt := 5) h dX12_isMeetTold_71 (by decide) ?_
            refine j_wk (ls' := [some (.ref (G.2.2 0)), some (.int x1), some (.int x2), some (.int (1 : Int32)), some (.int (x4 + (1 : Int32)))]) (And.intro rfl (And.intro rfl (And.intro rfl (And.intro rfl (And.intro rfl trivial))))) ?_
            exact ih x1 x2 (1 : Int32) (x4 + (1 : Int32))
          · refine j_aload_n h dX12_isMeetTold_40 rfl ?_
            refine gM_33 h dX12_isMeetTold_41 ?_
            refine j_iload h dX12_isMeetTold_44 rfl ?_
            refine aM_19 h dX12_isMeetTold_46 (fun v11 hv11 => ?_)
            refine j_iload_n h dX12_isMeetTold_47 rfl ?_
            refine j_icmp_ne (tgt := 66) h dX12_isMeetTold_48 (by decide) (fun c12 => ?_) (fun c12 => ?_)
            · refine j_iconst (v := (0 : Int32)) h dX12_isMeetTold_66 kiconst_0 ?_
              refine j_istore_n h dX12_isMeetTold_67 rfl rfl ?_
              refine j_iinc (v := (x4 + (1 : Int32))) h dX12_isMeetTold_68 rfl (by rw [kiconst_1]) rfl ?_
              refine j_goto (tgt := 5) h dX12_isMeetTold_71 (by decide) ?_
              refine j_wk (ls' := [some (.ref (G.2.2 0)), some (.int x1), some (.int x2), some (.int (0 : Int32)), some (.int (x4 + (1 : Int32)))]) (And.intro rfl (And.intro rfl (And.intro rfl (And.intro rfl (And.intro rfl trivial))))) ?_
              exact ih x1 x2 (0 : Int32) (x4 + (1 : Int32))
            · refine j_aload_n h dX12_isMeetTold_51 rfl ?_
              refine gM_34 h dX12_isMeetTold_52 ?_
              refine j_iload h dX12_isMeetTold_55 rfl ?_
              refine aM_20 h dX12_isMeetTold_57 (fun v13 hv13 => ?_)
              refine j_iload_n h dX12_isMeetTold_58 rfl ?_
              refine j_icmp_ne (tgt := 66) h dX12_isMeetTold_59 (by decide) (fun c14 => ?_) (fun c14 => ?_)
              · refine j_iconst (v := (0 : Int32)) h dX12_isMeetTold_66 kiconst_0 ?_
                refine j_istore_n h dX12_isMeetTold_67 rfl rfl ?_
                refine j_iinc (v := (x4 + (1 : Int32))) h dX12_isMeetTold_68 rfl (by rw [kiconst_1]) rfl ?_
                refine j_goto (tgt := 5) h dX12_isMeetTold_71 (by decide) ?_
                refine j_wk (ls' := [some (.ref (G.2.2 0)), some (.int x1), some (.int x2), some (.int (0 : Int32)), some (.int (x4 + (1 : Int32)))]) (And.intro rfl (And.intro rfl (And.intro rfl (And.intro rfl (And.intro rfl trivial))))) ?_
                exact ih x1 x2 (0 : Int32) (x4 + (1 : Int32))
              · refine j_iconst (v := (1 : Int32)) h dX12_isMeetTold_62 kiconst_1 ?_
                refine j_goto (tgt := 67) h dX12_isMeetTold_63 (by decide) ?_
                refine j_istore_n h dX12_isMeetTold_67 rfl rfl ?_
                refine j_iinc (v := (x4 + (1 : Int32))) h dX12_isMeetTold_68 rfl (by rw [kiconst_1]) rfl ?_
                refine j_goto (tgt := 5) h dX12_isMeetTold_71 (by decide) ?_
                refine j_wk (ls' := [some (.ref (G.2.2 0)), some (.int x1), some (.int x2), some (.int (1 : Int32)), some (.int (x4 + (1 : Int32)))]) (And.intro rfl (And.intro rfl (And.intro rfl (And.intro rfl (And.intro rfl trivial))))) ?_
                exact ih x1 x2 (1 : Int32) (x4 + (1 : Int32))
set_option maxHeartbeats 4000000 in
set_option maxRecDepth 100000 in
theorem kX12_isMeetTold (l : Launch) (G : Gt) (hD : ∀ m, va_D (inA G nM) (wM G m)) (m : Mem) (x1 : Int32) (x2 : Int32) : ∀ a, fX12_isMeetTold m x1 x2 = some a → Ct l G wM nM yX12_isMeetTold cX12_isMeetTold 5 (some .boolean) 1 [.ref (G.2.2 0), .int x1, .int x2] m ((cvP m) a) := by
  refine ct_of (own := RX12) (ls0 := [some (.ref (G.2.2 0)), some (.int x1), some (.int x2), none, none]) (by decide) rfl rfl rfl (Nat.le_of_ble_eq_true rfl) hD (fun X h => ?_) l
  unfold fX12_isMeetTold
  refine j_iconst (v := (0 : Int32)) h dX12_isMeetTold_0 kiconst_0 ?_
  refine j_istore_n h dX12_isMeetTold_1 rfl rfl ?_
  refine j_iconst (v := (0 : Int32)) h dX12_isMeetTold_2 kiconst_0 ?_
  refine j_istore h dX12_isMeetTold_3 rfl rfl ?_
  refine j_wk (ls' := [some (.ref (G.2.2 0)), some (.int x1), some (.int x2), some (.int (0 : Int32)), some (.int (0 : Int32))]) (And.intro rfl (And.intro rfl (And.intro rfl (And.intro rfl (And.intro rfl trivial))))) ?_
  exact (wX12_isMeetTold h m 5000) x1 x2 (0 : Int32) (0 : Int32)
theorem dX12_readMeet_0 : DD cX12_readMeet 0 (.aload_n 0) 1 1 := ⟨by decide +kernel, rfl⟩
theorem dX12_readMeet_1 : DD cX12_readMeet 1 (.invokevirtual 249) 3 4 := ⟨by decide +kernel, rfl⟩
theorem dX12_readMeet_4 : DD cX12_readMeet 4 (.aload_n 0) 1 5 := ⟨by decide +kernel, rfl⟩
theorem dX12_readMeet_5 : DD cX12_readMeet 5 (.invokevirtual 337) 3 8 := ⟨by decide +kernel, rfl⟩
theorem dX12_readMeet_8 : DD cX12_readMeet 8 (.istore_n 1) 1 9 := ⟨by decide +kernel, rfl⟩
theorem dX12_readMeet_9 : DD cX12_readMeet 9 (.aload_n 0) 1 10 := ⟨by decide +kernel, rfl⟩
theorem dX12_readMeet_10 : DD cX12_readMeet 10 (.getfield 197) 3 13 := ⟨by decide +kernel, rfl⟩
theorem dX12_readMeet_13 : DD cX12_readMeet 13 (.ifCond .ne 7) 3 16 := ⟨by decide +kernel, rfl⟩
theorem dX12_readMeet_16 : DD cX12_readMeet 16 (.aload_n 0) 1 17 := ⟨by decide +kernel, rfl⟩
theorem dX12_readMeet_17 : DD cX12_readMeet 17 (.invokevirtual 249) 3 20 := ⟨by decide +kernel, rfl⟩
theorem dX12_readMeet_20 : DD cX12_readMeet 20 (.aload_n 0) 1 21 := ⟨by decide +kernel, rfl⟩
theorem dX12_readMeet_21 : DD cX12_readMeet 21 (.invokevirtual 337) 3 24 := ⟨by decide +kernel, rfl⟩
theorem dX12_readMeet_24 : DD cX12_readMeet 24 (.istore_n 2) 1 25 := ⟨by decide +kernel, rfl⟩
theorem dX12_readMeet_25 : DD cX12_readMeet 25 (.aload_n 0) 1 26 := ⟨by decide +kernel, rfl⟩
theorem dX12_readMeet_26 : DD cX12_readMeet 26 (.getfield 197) 3 29 := ⟨by decide +kernel, rfl⟩
theorem dX12_readMeet_29 : DD cX12_readMeet 29 (.ifCond .ne 22) 3 32 := ⟨by decide +kernel, rfl⟩
theorem dX12_readMeet_32 : DD cX12_readMeet 32 (.iload_n 1) 1 33 := ⟨by decide +kernel, rfl⟩
theorem dX12_readMeet_33 : DD cX12_readMeet 33 (.iload_n 2) 1 34 := ⟨by decide +kernel, rfl⟩
theorem dX12_readMeet_34 : DD cX12_readMeet 34 (.if_icmp .eq 12) 3 37 := ⟨by decide +kernel, rfl⟩
theorem dX12_readMeet_37 : DD cX12_readMeet 37 (.aload_n 0) 1 38 := ⟨by decide +kernel, rfl⟩
theorem dX12_readMeet_38 : DD cX12_readMeet 38 (.iload_n 1) 1 39 := ⟨by decide +kernel, rfl⟩
theorem dX12_readMeet_39 : DD cX12_readMeet 39 (.iload_n 2) 1 40 := ⟨by decide +kernel, rfl⟩
theorem dX12_readMeet_40 : DD cX12_readMeet 40 (.invokevirtual 340) 3 43 := ⟨by decide +kernel, rfl⟩
theorem dX12_readMeet_43 : DD cX12_readMeet 43 (.ifCond .eq 8) 3 46 := ⟨by decide +kernel, rfl⟩
theorem dX12_readMeet_46 : DD cX12_readMeet 46 (.aload_n 0) 1 47 := ⟨by decide +kernel, rfl⟩
theorem dX12_readMeet_47 : DD cX12_readMeet 47 (.iconst 3) 1 48 := ⟨by decide +kernel, rfl⟩
theorem dX12_readMeet_48 : DD cX12_readMeet 48 (.invokevirtual 246) 3 51 := ⟨by decide +kernel, rfl⟩
theorem dX12_readMeet_51 : DD cX12_readMeet 51 (.aload_n 0) 1 52 := ⟨by decide +kernel, rfl⟩
theorem dX12_readMeet_52 : DD cX12_readMeet 52 (.getfield 197) 3 55 := ⟨by decide +kernel, rfl⟩
theorem dX12_readMeet_55 : DD cX12_readMeet 55 (.ifCond .ne 7) 3 58 := ⟨by decide +kernel, rfl⟩
theorem dX12_readMeet_58 : DD cX12_readMeet 58 (.aload_n 0) 1 59 := ⟨by decide +kernel, rfl⟩
theorem dX12_readMeet_59 : DD cX12_readMeet 59 (.invokevirtual 249) 3 62 := ⟨by decide +kernel, rfl⟩
theorem dX12_readMeet_62 : DD cX12_readMeet 62 (.aload_n 0) 1 63 := ⟨by decide +kernel, rfl⟩
theorem dX12_readMeet_63 : DD cX12_readMeet 63 (.getfield 76) 3 66 := ⟨by decide +kernel, rfl⟩
theorem dX12_readMeet_66 : DD cX12_readMeet 66 (.aload_n 0) 1 67 := ⟨by decide +kernel, rfl⟩
theorem dX12_readMeet_67 : DD cX12_readMeet 67 (.getfield 334) 3 70 := ⟨by decide +kernel, rfl⟩
theorem dX12_readMeet_70 : DD cX12_readMeet 70 (.aload_n 0) 1 71 := ⟨by decide +kernel, rfl⟩
theorem dX12_readMeet_71 : DD cX12_readMeet 71 (.ldc2_w 210) 3 74 := ⟨by decide +kernel, rfl⟩
theorem dX12_readMeet_74 : DD cX12_readMeet 74 (.iconst 1) 1 75 := ⟨by decide +kernel, rfl⟩
theorem dX12_readMeet_75 : DD cX12_readMeet 75 (.bipush 24) 2 77 := ⟨by decide +kernel, rfl⟩
theorem dX12_readMeet_77 : DD cX12_readMeet 77 (.invokevirtual 330) 3 80 := ⟨by decide +kernel, rfl⟩
theorem dX12_readMeet_80 : DD cX12_readMeet 80 (.iastore) 1 81 := ⟨by decide +kernel, rfl⟩
theorem dX12_readMeet_81 : DD cX12_readMeet 81 (.aload_n 0) 1 82 := ⟨by decide +kernel, rfl⟩
theorem dX12_readMeet_82 : DD cX12_readMeet 82 (.getfield 79) 3 85 := ⟨by decide +kernel, rfl⟩
theorem dX12_readMeet_85 : DD cX12_readMeet 85 (.aload_n 0) 1 86 := ⟨by decide +kernel, rfl⟩
theorem dX12_readMeet_86 : DD cX12_readMeet 86 (.getfield 334) 3 89 := ⟨by decide +kernel, rfl⟩
theorem dX12_readMeet_89 : DD cX12_readMeet 89 (.aload_n 0) 1 90 := ⟨by decide +kernel, rfl⟩
theorem dX12_readMeet_90 : DD cX12_readMeet 90 (.ldc2_w 212) 3 93 := ⟨by decide +kernel, rfl⟩
theorem dX12_readMeet_93 : DD cX12_readMeet 93 (.iconst 1) 1 94 := ⟨by decide +kernel, rfl⟩
theorem dX12_readMeet_94 : DD cX12_readMeet 94 (.bipush 99) 2 96 := ⟨by decide +kernel, rfl⟩
theorem dX12_readMeet_96 : DD cX12_readMeet 96 (.invokevirtual 330) 3 99 := ⟨by decide +kernel, rfl⟩
theorem dX12_readMeet_99 : DD cX12_readMeet 99 (.iastore) 1 100 := ⟨by decide +kernel, rfl⟩
theorem dX12_readMeet_100 : DD cX12_readMeet 100 (.aload_n 0) 1 101 := ⟨by decide +kernel, rfl⟩
theorem dX12_readMeet_101 : DD cX12_readMeet 101 (.getfield 197) 3 104 := ⟨by decide +kernel, rfl⟩
theorem dX12_readMeet_104 : DD cX12_readMeet 104 (.ifCond .le 4) 3 107 := ⟨by decide +kernel, rfl⟩
theorem dX12_readMeet_107 : DD cX12_readMeet 107 (.return_) 1 108 := ⟨by decide +kernel, rfl⟩
theorem dX12_readMeet_108 : DD cX12_readMeet 108 (.aload_n 0) 1 109 := ⟨by decide +kernel, rfl⟩
theorem dX12_readMeet_109 : DD cX12_readMeet 109 (.getfield 70) 3 112 := ⟨by decide +kernel, rfl⟩
theorem dX12_readMeet_112 : DD cX12_readMeet 112 (.aload_n 0) 1 113 := ⟨by decide +kernel, rfl⟩
theorem dX12_readMeet_113 : DD cX12_readMeet 113 (.getfield 334) 3 116 := ⟨by decide +kernel, rfl⟩
theorem dX12_readMeet_116 : DD cX12_readMeet 116 (.iload_n 1) 1 117 := ⟨by decide +kernel, rfl⟩
theorem dX12_readMeet_117 : DD cX12_readMeet 117 (.iastore) 1 118 := ⟨by decide +kernel, rfl⟩
theorem dX12_readMeet_118 : DD cX12_readMeet 118 (.aload_n 0) 1 119 := ⟨by decide +kernel, rfl⟩
theorem dX12_readMeet_119 : DD cX12_readMeet 119 (.getfield 73) 3 122 := ⟨by decide +kernel, rfl⟩
theorem dX12_readMeet_122 : DD cX12_readMeet 122 (.aload_n 0) 1 123 := ⟨by decide +kernel, rfl⟩
theorem dX12_readMeet_123 : DD cX12_readMeet 123 (.getfield 334) 3 126 := ⟨by decide +kernel, rfl⟩
theorem dX12_readMeet_126 : DD cX12_readMeet 126 (.iload_n 2) 1 127 := ⟨by decide +kernel, rfl⟩
theorem dX12_readMeet_127 : DD cX12_readMeet 127 (.iastore) 1 128 := ⟨by decide +kernel, rfl⟩
theorem dX12_readMeet_128 : DD cX12_readMeet 128 (.aload_n 0) 1 129 := ⟨by decide +kernel, rfl⟩
theorem dX12_readMeet_129 : DD cX12_readMeet 129 (.dup) 1 130 := ⟨by decide +kernel, rfl⟩
theorem dX12_readMeet_130 : DD cX12_readMeet 130 (.getfield 334) 3 133 := ⟨by decide +kernel, rfl⟩
theorem dX12_readMeet_133 : DD cX12_readMeet 133 (.iconst 1) 1 134 := ⟨by decide +kernel, rfl⟩
theorem dX12_readMeet_134 : DD cX12_readMeet 134 (.iadd) 1 135 := ⟨by decide +kernel, rfl⟩
theorem dX12_readMeet_135 : DD cX12_readMeet 135 (.putfield 334) 3 138 := ⟨by decide +kernel, rfl⟩
theorem dX12_readMeet_138 : DD cX12_readMeet 138 (.return_) 1 139 := ⟨by decide +kernel, rfl⟩
def gX12_readMeet : Nat → Int32 → Int32 → Mem → Option Mem
  | 0, _, _, _ => none
  | f + 1, x1, x2, m => (cI (fX12_told m (448546566771 : Int64) (1 : Int32) (24 : Int32)) fun r1 m2 => (wr m2 21 10 (m.1 0 48) r1 fun m3 => (cI (fX12_told m3 (512970880104 : Int64) (1 : Int32) (99 : Int32)) fun r4 m5 => (wr m5 22 10 (m3.1 0 48) r4 fun m6 => (if (m6.1 0 2) ≤ 0 then (wr m6 19 10 (m6.1 0 48) x1 fun m8 => (wr m8 20 10 (m8.1 0 48) x2 fun m9 => (pt (sI m9 0 48 ((m9.1 0 48) + (1 : Int32))) fun m10 => (some m10)))) else (some m6))))))
def fX12_readMeet (m : Mem) : Option Mem := (cV (fX12_token m) fun m2 => (cI (fX12_oldPerson m2) fun r3 m4 => (if (m4.1 0 2) = 0 then (cV (fX12_token m4) fun m30 => (cI (fX12_oldPerson m30) fun r31 m32 => (if (m32.1 0 2) = 0 then (if r3 = r31 then (cV (fX12_wrong m32 (3 : Int32)) fun m39 => (if (m39.1 0 2) = 0 then (cV (fX12_token m39) fun m42 => (gX12_readMeet 5000 r3 r31 m42)) else (gX12_readMeet 5000 r3 r31 m39))) else (cP (fX12_isMeetTold m32 r3 r31) fun r43 => (if r43 = 0 then (if (m32.1 0 2) = 0 then (cV (fX12_token m32) fun m48 => (gX12_readMeet 5000 r3 r31 m48)) else (gX12_readMeet 5000 r3 r31 m32)) else (cV (fX12_wrong m32 (3 : Int32)) fun m50 => (if (m50.1 0 2) = 0 then (cV (fX12_token m50) fun m53 => (gX12_readMeet 5000 r3 r31 m53)) else (gX12_readMeet 5000 r3 r31 m50)))))) else (if (m32.1 0 2) = 0 then (cV (fX12_token m32) fun m36 => (gX12_readMeet 5000 r3 r31 m36)) else (gX12_readMeet 5000 r3 r31 m32))))) else (cI (fX12_oldPerson m4) fun r6 m7 => (if (m7.1 0 2) = 0 then (if r3 = r6 then (cV (fX12_wrong m7 (3 : Int32)) fun m14 => (if (m14.1 0 2) = 0 then (cV (fX12_token m14) fun m17 => (gX12_readMeet 5000 r3 r6 m17)) else (gX12_readMeet 5000 r3 r6 m14))) else (cP (fX12_isMeetTold m7 r3 r6) fun r18 => (if r18 = 0 then (if (m7.1 0 2) = 0 then (cV (fX12_token m7) fun m23 => (gX12_readMeet 5000 r3 r6 m23)) else (gX12_readMeet 5000 r3 r6 m7)) else (cV (fX12_wrong m7 (3 : Int32)) fun m25 => (if (m25.1 0 2) = 0 then (cV (fX12_token m25) fun m28 => (gX12_readMeet 5000 r3 r6 m28)) else (gX12_readMeet 5000 r3 r6 m25)))))) else (if (m7.1 0 2) = 0 then (cV (fX12_token m7) fun m11 => (gX12_readMeet 5000 r3 r6 m11)) else (gX12_readMeet 5000 r3 r6 m7)))))))
set_option maxHeartbeats 4000000 in
set_option maxRecDepth 100000 in
theorem wX12_readMeet {X : Cx} {G : Gt} (h : OkX (X, G, wM, nM) cX12_readMeet RX12 3 none 5) : ∀ f : Nat, (∀ (x1 : Int32) (x2 : Int32) (m : Mem), JR (X, G, wM, nM) cvV m 62 [some (.ref (G.2.2 0)), some (.int x1), some (.int x2)] [] (gX12_readMeet f x1 x2 m)) := by
  intro f
  induction f with
  | zero => exact (fun _ _ _ => j_none)
  | succ f ih =>
    intro x1 x2 m
    rw [gX12_readMeet]
    refine j_aload_n h dX12_readMeet_62 rfl ?_
    refine gM_35 h dX12_readMeet_63 ?_
    refine j_aload_n h dX12_readMeet_66 rfl ?_
    refine gM_48 h dX12_readMeet_67 ?_
    refine j_aload_n h dX12_readMeet_70 rfl ?_
    refine j_ldc2 (v := (448546566771 : Int64)) h dX12_readMeet_71 cl12_210 ?_
    refine j_iconst (v := (1 : Int32)) h dX12_readMeet_74 kiconst_1 ?_
    refine j_bipush (v := (24 : Int32)) h dX12_readMeet_75 kbipush_24 ?_
    refine j_callVI (q0 := 0) (ci := 12) h [.long (448546566771 : Int64), .int (1 : Int32), .int (24 : Int32)] (kX12_told _ G h.2.2.2.2.2.2.2.2.2.2 m (448546566771 : Int64) (1 : Int32) (24 : Int32)) okX12_told inX12_told ml12_330 rfl rfl rfl rfl (by decide) (by decide) (Nat.le_of_ble_eq_true rfl) rfl dX12_readMeet_77 (fun r1 m2 hr1 => ?_)
    refine bM_21 h dX12_readMeet_80 (fun m3 hm3 => ?_)
    refine j_aload_n h dX12_readMeet_81 rfl ?_
    refine gM_36 h dX12_readMeet_82 ?_
    refine j_aload_n h dX12_readMeet_85 rfl ?_
    refine gM_48 h dX12_readMeet_86 ?_
    refine j_aload_n h dX12_readMeet_89 rfl ?_
    refine j_ldc2 (v := (512970880104 : Int64)) h dX12_readMeet_90 cl12_212 ?_
    refine j_iconst (v := (1 : Int32)) h dX12_readMeet_93 kiconst_1 ?_
    refine j_bipush (v := (99 : Int32)) h dX12_readMeet_94 kbipush_99 ?_
    refine j_callVI (q0 := 0) (ci := 12) h [.long (512970880104 : Int64), .int (1 : Int32), .int (99 : Int32)] (kX12_told _ G h.2.2.2.2.2.2.2.2.2.2 m3 (512970880104 : Int64) (1 : Int32) (99 : Int32)) okX12_told inX12_told ml12_330 rfl rfl rfl rfl (by decide) (by decide) (Nat.le_of_ble_eq_true rfl) rfl dX12_readMeet_96 (fun r4 m5 hr4 => ?_)
    refine bM_22 h dX12_readMeet_99 (fun m6 hm6 => ?_)
    refine j_aload_n h dX12_readMeet_100 rfl ?_
    refine gM_2 h dX12_readMeet_101 ?_
    refine j_if_le (tgt := 108) h dX12_readMeet_104 (by decide) (fun c7 => ?_) (fun c7 => ?_)
    · refine j_aload_n h dX12_readMeet_108 rfl ?_
      refine gM_33 h dX12_readMeet_109 ?_
      refine j_aload_n h dX12_readMeet_112 rfl ?_
      refine gM_48 h dX12_readMeet_113 ?_
      refine j_iload_n h dX12_readMeet_116 rfl ?_
      refine bM_19 h dX12_readMeet_117 (fun m8 hm8 => ?_)
      refine j_aload_n h dX12_readMeet_118 rfl ?_
      refine gM_34 h dX12_readMeet_119 ?_
      refine j_aload_n h dX12_readMeet_122 rfl ?_
      refine gM_48 h dX12_readMeet_123 ?_
      refine j_iload_n h dX12_readMeet_126 rfl ?_
      refine bM_20 h dX12_readMeet_127 (fun m9 hm9 => ?_)
      refine j_aload_n h dX12_readMeet_128 rfl ?_
      refine j_dup h dX12_readMeet_129 rfl ?_
      refine gM_48 h dX12_readMeet_130 ?_
      refine j_iconst (v := (1 : Int32)) h dX12_readMeet_133 kiconst_1 ?_
      refine j_iadd h dX12_readMeet_134 ?_
      refine pM_48 h dX12_readMeet_135 (fun m10 hm10 => ?_)
      exact j_vret h rfl dX12_readMeet_138
    · exact j_vret h rfl dX12_readMeet_107
set_option maxHeartbeats 4000000 in
set_option maxRecDepth 100000 in
theorem kX12_readMeet (l : Launch) (G : Gt) (hD : ∀ m, va_D (inA G nM) (wM G m)) (m : Mem) : ∀ a, fX12_readMeet m = some a → Ct l G wM nM yX12_readMeet cX12_readMeet 3 none 5 [.ref (G.2.2 0)] m (cvV a) := by
  refine ct_of (own := RX12) (ls0 := [some (.ref (G.2.2 0)), none, none]) (by decide) rfl rfl rfl (Nat.le_of_ble_eq_true rfl) hD (fun X h => ?_) l
  unfold fX12_readMeet
  refine j_aload_n h dX12_readMeet_0 rfl ?_
  refine j_callVV (q0 := 0) (ci := 12) h [] (kX12_token _ G h.2.2.2.2.2.2.2.2.2.2 m) okX12_token inX12_token ml12_249 rfl rfl rfl rfl (by decide) (by decide) (Nat.le_of_ble_eq_true rfl) rfl dX12_readMeet_1 (fun m2 hm2 => ?_)
  refine j_aload_n h dX12_readMeet_4 rfl ?_
  refine j_callVI (q0 := 0) (ci := 12) h [] (kX12_oldPerson _ G h.2.2.2.2.2.2.2.2.2.2 m2) okX12_oldPerson inX12_oldPerson ml12_337 rfl rfl rfl rfl (by decide) (by decide) (Nat.le_of_ble_eq_true rfl) rfl dX12_readMeet_5 (fun r3 m4 hr3 => ?_)
  refine j_istore_n h dX12_readMeet_8 rfl rfl ?_
  refine j_aload_n h dX12_readMeet_9 rfl ?_
  refine gM_2 h dX12_readMeet_10 ?_
  refine j_if_ne (tgt := 20) h dX12_readMeet_13 (by decide) (fun c5 => ?_) (fun c5 => ?_)
  · refine j_aload_n h dX12_readMeet_20 rfl ?_
    refine j_callVI (q0 := 0) (ci := 12) h [] (kX12_oldPerson _ G h.2.2.2.2.2.2.2.2.2.2 m4) okX12_oldPerson inX12_oldPerson ml12_337 rfl rfl rfl rfl (by decide) (by decide) (Nat.le_of_ble_eq_true rfl) rfl dX12_readMeet_21 (fun r6 m7 hr6 => ?_)
    refine j_istore_n h dX12_readMeet_24 rfl rfl ?_
    refine j_aload_n h dX12_readMeet_25 rfl ?_
    refine gM_2 h dX12_readMeet_26 ?_
    refine j_if_ne (tgt := 51) h dX12_readMeet_29 (by decide) (fun c8 => ?_) (fun c8 => ?_)
    · refine j_aload_n h dX12_readMeet_51 rfl ?_
      refine gM_2 h dX12_readMeet_52 ?_
      refine j_if_ne (tgt := 62) h dX12_readMeet_55 (by decide) (fun c9 => ?_) (fun c9 => ?_)
      · refine j_wk (ls' := [some (.ref (G.2.2 0)), some (.int r3), some (.int r6)]) (And.intro rfl (And.intro rfl (And.intro rfl trivial))) ?_
        exact (wX12_readMeet h 5000) r3 r6 m7
      · refine j_aload_n h dX12_readMeet_58 rfl ?_
        refine j_callVV (q0 := 0) (ci := 12) h [] (kX12_token _ G h.2.2.2.2.2.2.2.2.2.2 m7) okX12_token inX12_token ml12_249 rfl rfl rfl rfl (by decide) (by decide) (Nat.le_of_ble_eq_true rfl) rfl dX12_readMeet_59 (fun m11 hm11 => ?_)
        refine j_wk (ls' := [some (.ref (G.2.2 0)), some (.int r3), some (.int r6)]) (And.intro rfl (And.intro rfl (And.intro rfl trivial))) ?_
        exact (wX12_readMeet h 5000) r3 r6 m11
    · refine j_iload_n h dX12_readMeet_32 rfl ?_
      refine j_iload_n h dX12_readMeet_33 rfl ?_
      refine j_icmp_eq (tgt := 46) h dX12_readMeet_34 (by decide) (fun c12 => ?_) (fun c12 => ?_)
      · refine j_aload_n h dX12_readMeet_46 rfl ?_
        refine j_iconst (v := (3 : Int32)) h dX12_readMeet_47 kiconst_3 ?_
        refine j_callVV (q0 := 0) (ci := 12) h [.int (3 : Int32)] (kX12_wrong _ G h.2.2.2.2.2.2.2.2.2.2 m7 (3 : Int32)) okX12_wrong inX12_wrong ml12_246 rfl rfl rfl rfl (by decide) (by decide) (Nat.le_of_ble_eq_true rfl) rfl dX12_readMeet_48 (fun m14 hm14 => ?_)
        refine j_aload_n h dX12_readMeet_51 rfl ?_
        refine gM_2 h dX12_readMeet_52 ?_
        refine j_if_ne (tgt := 62) h dX12_readMeet_55 (by decide) (fun c15 => ?_) (fun c15 => ?_)
        · refine j_wk (ls' := [some (.ref (G.2.2 0)), some (.int r3), some (.int r6)]) (And.intro rfl (And.intro rfl (And.intro rfl trivial))) ?_
          exact (wX12_readMeet h 5000) r3 r6 m14
        · refine j_aload_n h dX12_readMeet_58 rfl ?_
          refine j_callVV (q0 := 0) (ci := 12) h [] (kX12_token _ G h.2.2.2.2.2.2.2.2.2.2 m14) okX12_token inX12_token ml12_249 rfl rfl rfl rfl (by decide) (by decide) (Nat.le_of_ble_eq_true rfl) rfl dX12_readMeet_59 (fun m17 hm17 => ?_)
          refine j_wk (ls' := [some (.ref (G.2.2 0)), some (.int r3), some (.int r6)]) (And.intro rfl (And.intro rfl (And.intro rfl trivial))) ?_
          exact (wX12_readMeet h 5000) r3 r6 m17
      · refine j_aload_n h dX12_readMeet_37 rfl ?_
        refine j_iload_n h dX12_readMeet_38 rfl ?_
        refine j_iload_n h dX12_readMeet_39 rfl ?_
        refine j_callVP (q0 := 0) (ci := 12) h [.int r3, .int r6] (kX12_isMeetTold _ G h.2.2.2.2.2.2.2.2.2.2 m7 r3 r6) okX12_isMeetTold inX12_isMeetTold ml12_340 rfl rfl rfl rfl (by decide) (by decide) (Nat.le_of_ble_eq_true rfl) rfl dX12_readMeet_40 (fun r18 hr18 => ?_)
        refine j_if_eq (tgt := 51) h dX12_readMeet_43 (by decide) (fun c20 => ?_) (fun c20 => ?_)
        · refine j_aload_n h dX12_readMeet_51 rfl ?_
          refine gM_2 h dX12_readMeet_52 ?_
          refine j_if_ne (tgt := 62) h dX12_readMeet_55 (by decide) (fun c21 => ?_) (fun c21 => ?_)
          · refine j_wk (ls' := [some (.ref (G.2.2 0)), some (.int r3), some (.int r6)]) (And.intro rfl (And.intro rfl (And.intro rfl trivial))) ?_
            exact (wX12_readMeet h 5000) r3 r6 m7
          · refine j_aload_n h dX12_readMeet_58 rfl ?_
            refine j_callVV (q0 := 0) (ci := 12) h [] (kX12_token _ G h.2.2.2.2.2.2.2.2.2.2 m7) okX12_token inX12_token ml12_249 rfl rfl rfl rfl (by decide) (by decide) (Nat.le_of_ble_eq_true rfl) rfl dX12_readMeet_59 (fun m23 hm23 => ?_)
            refine j_wk (ls' := [some (.ref (G.2.2 0)), some (.int r3), some (.int r6)]) (And.intro rfl (And.intro rfl (And.intro rfl trivial))) ?_
            exact (wX12_readMeet h 5000) r3 r6 m23
        · refine j_aload_n h dX12_readMeet_46 rfl ?_
          refine j_iconst (v := (3 : Int32)) h dX12_readMeet_47 kiconst_3 ?_
          refine j_callVV (q0 := 0) (ci := 12) h [.int (3 : Int32)] (kX12_wrong _ G h.2.2.2.2.2.2.2.2.2.2 m7 (3 : Int32)) okX12_wrong inX12_wrong ml12_246 rfl rfl rfl rfl (by decide) (by decide) (Nat.le_of_ble_eq_true rfl) rfl dX12_readMeet_48 (fun m25 hm25 => ?_)
          refine j_aload_n h dX12_readMeet_51 rfl ?_
          refine gM_2 h dX12_readMeet_52 ?_
          refine j_if_ne (tgt := 62) h dX12_readMeet_55 (by decide) (fun c26 => ?_) (fun c26 => ?_)
          · refine j_wk (ls' := [some (.ref (G.2.2 0)), some (.int r3), some (.int r6)]) (And.intro rfl (And.intro rfl (And.intro rfl trivial))) ?_
            exact (wX12_readMeet h 5000) r3 r6 m25
          · refine j_aload_n h dX12_readMeet_58 rfl ?_
            refine j_callVV (q0 := 0) (ci := 12) h [] (kX12_token _ G h.2.2.2.2.2.2.2.2.2.2 m25) okX12_token inX12_token ml12_249 rfl rfl rfl rfl (by decide) (by decide) (Nat.le_of_ble_eq_true rfl) rfl dX12_readMeet_59 (fun m28 hm28 => ?_)
            refine j_wk (ls' := [some (.ref (G.2.2 0)), some (.int r3), some (.int r6)]) (And.intro rfl (And.intro rfl (And.intro rfl trivial))) ?_
            exact (wX12_readMeet h 5000) r3 r6 m28
  · refine j_aload_n h dX12_readMeet_16 rfl ?_
    refine j_callVV (q0 := 0) (ci := 12) h [] (kX12_token _ G h.2.2.2.2.2.2.2.2.2.2 m4) okX12_token inX12_token ml12_249 rfl rfl rfl rfl (by decide) (by decide) (Nat.le_of_ble_eq_true rfl) rfl dX12_readMeet_17 (fun m30 hm30 => ?_)
    refine j_aload_n h dX12_readMeet_20 rfl ?_
    refine j_callVI (q0 := 0) (ci := 12) h [] (kX12_oldPerson _ G h.2.2.2.2.2.2.2.2.2.2 m30) okX12_oldPerson inX12_oldPerson ml12_337 rfl rfl rfl rfl (by decide) (by decide) (Nat.le_of_ble_eq_true rfl) rfl dX12_readMeet_21 (fun r31 m32 hr31 => ?_)
    refine j_istore_n h dX12_readMeet_24 rfl rfl ?_
    refine j_aload_n h dX12_readMeet_25 rfl ?_
    refine gM_2 h dX12_readMeet_26 ?_
    refine j_if_ne (tgt := 51) h dX12_readMeet_29 (by decide) (fun c33 => ?_) (fun c33 => ?_)
    · refine j_aload_n h dX12_readMeet_51 rfl ?_
      refine gM_2 h dX12_readMeet_52 ?_
      refine j_if_ne (tgt := 62) h dX12_readMeet_55 (by decide) (fun c34 => ?_) (fun c34 => ?_)
      · refine j_wk (ls' := [some (.ref (G.2.2 0)), some (.int r3), some (.int r31)]) (And.intro rfl (And.intro rfl (And.intro rfl trivial))) ?_
        exact (wX12_readMeet h 5000) r3 r31 m32
      · refine j_aload_n h dX12_readMeet_58 rfl ?_
        refine j_callVV (q0 := 0) (ci := 12) h [] (kX12_token _ G h.2.2.2.2.2.2.2.2.2.2 m32) okX12_token inX12_token ml12_249 rfl rfl rfl rfl (by decide) (by decide) (Nat.le_of_ble_eq_true rfl) rfl dX12_readMeet_59 (fun m36 hm36 => ?_)
        refine j_wk (ls' := [some (.ref (G.2.2 0)), some (.int r3), some (.int r31)]) (And.intro rfl (And.intro rfl (And.intro rfl trivial))) ?_
        exact (wX12_readMeet h 5000) r3 r31 m36
    · refine j_iload_n h dX12_readMeet_32 rfl ?_
      refine j_iload_n h dX12_readMeet_33 rfl ?_
      refine j_icmp_eq (tgt := 46) h dX12_readMeet_34 (by decide) (fun c37 => ?_) (fun c37 => ?_)
      · refine j_aload_n h dX12_readMeet_46 rfl ?_
        refine j_iconst (v := (3 : Int32)) h dX12_readMeet_47 kiconst_3 ?_
        refine j_callVV (q0 := 0) (ci := 12) h [.int (3 : Int32)] (kX12_wrong _ G h.2.2.2.2.2.2.2.2.2.2 m32 (3 : Int32)) okX12_wrong inX12_wrong ml12_246 rfl rfl rfl rfl (by decide) (by decide) (Nat.le_of_ble_eq_true rfl) rfl dX12_readMeet_48 (fun m39 hm39 => ?_)
        refine j_aload_n h dX12_readMeet_51 rfl ?_
        refine gM_2 h dX12_readMeet_52 ?_
        refine j_if_ne (tgt := 62) h dX12_readMeet_55 (by decide) (fun c40 => ?_) (fun c40 => ?_)
        · refine j_wk (ls' := [some (.ref (G.2.2 0)), some (.int r3), some (.int r31)]) (And.intro rfl (And.intro rfl (And.intro rfl trivial))) ?_
          exact (wX12_readMeet h 5000) r3 r31 m39
        · refine j_aload_n h dX12_readMeet_58 rfl ?_
          refine j_callVV (q0 := 0) (ci := 12) h [] (kX12_token _ G h.2.2.2.2.2.2.2.2.2.2 m39) okX12_token inX12_token ml12_249 rfl rfl rfl rfl (by decide) (by decide) (Nat.le_of_ble_eq_true rfl) rfl dX12_readMeet_59 (fun m42 hm42 => ?_)
          refine j_wk (ls' := [some (.ref (G.2.2 0)), some (.int r3), some (.int r31)]) (And.intro rfl (And.intro rfl (And.intro rfl trivial))) ?_
          exact (wX12_readMeet h 5000) r3 r31 m42
      · refine j_aload_n h dX12_readMeet_37 rfl ?_
        refine j_iload_n h dX12_readMeet_38 rfl ?_
        refine j_iload_n h dX12_readMeet_39 rfl ?_
        refine j_callVP (q0 := 0) (ci := 12) h [.int r3, .int r31] (kX12_isMeetTold _ G h.2.2.2.2.2.2.2.2.2.2 m32 r3 r31) okX12_isMeetTold inX12_isMeetTold ml12_340 rfl rfl rfl rfl (by decide) (by decide) (Nat.le_of_ble_eq_true rfl) rfl dX12_readMeet_40 (fun r43 hr43 => ?_)
        refine j_if_eq (tgt := 51) h dX12_readMeet_43 (by decide) (fun c45 => ?_) (fun c45 => ?_)
        · refine j_aload_n h dX12_readMeet_51 rfl ?_
          refine gM_2 h dX12_readMeet_52 ?_
          refine j_if_ne (tgt := 62) h dX12_readMeet_55 (by decide) (fun c46 => ?_) (fun c46 => ?_)
          · refine j_wk (ls' := [some (.ref (G.2.2 0)), some (.int r3), some (.int r31)]) (And.intro rfl (And.intro rfl (And.intro rfl trivial))) ?_
            exact (wX12_readMeet h 5000) r3 r31 m32
          · refine j_aload_n h dX12_readMeet_58 rfl ?_
            refine j_callVV (q0 := 0) (ci := 12) h [] (kX12_token _ G h.2.2.2.2.2.2.2.2.2.2 m32) okX12_token inX12_token ml12_249 rfl rfl rfl rfl (by decide) (by decide) (Nat.le_of_ble_eq_true rfl) rfl dX12_readMeet_59 (fun m48 hm48 => ?_)
            refine j_wk (ls' := [some (.ref (G.2.2 0)), some (.int r3), some (.int r31)]) (And.intro rfl (And.intro rfl (And.intro rfl trivial))) ?_
            exact (wX12_readMeet h 5000) r3 r31 m48
        · refine j_aload_n h dX12_readMeet_46 rfl ?_
          refine j_iconst (v := (3 : Int32)) h dX12_readMeet_47 kiconst_3 ?_
          refine j_callVV (q0 := 0) (ci := 12) h [.int (3 : Int32)] (kX12_wrong _ G h.2.2.2.2.2.2.2.2.2.2 m32 (3 : Int32)) okX12_wrong inX12_wrong ml12_246 rfl rfl rfl rfl (by decide) (by decide) (Nat.le_of_ble_eq_true rfl) rfl dX12_readMeet_48 (fun m50 hm50 => ?_)
          refine j_aload_n h dX12_readMeet_51 rfl ?_
          refine gM_2 h dX12_readMeet_52 ?_
          refine j_if_ne (tgt := 62) h dX12_readMeet_55 (by decide) (fun c51 => ?_) (fun c51 => ?_)
          · refine j_wk (ls' := [some (.ref (G.2.2 0)), some (.int r3), some (.int r31)]) (And.intro rfl (And.intro rfl (And.intro rfl trivial))) ?_
            exact (wX12_readMeet h 5000) r3 r31 m50
          · refine j_aload_n h dX12_readMeet_58 rfl ?_
            refine j_callVV (q0 := 0) (ci := 12) h [] (kX12_token _ G h.2.2.2.2.2.2.2.2.2.2 m50) okX12_token inX12_token ml12_249 rfl rfl rfl rfl (by decide) (by decide) (Nat.le_of_ble_eq_true rfl) rfl dX12_readMeet_59 (fun m53 hm53 => ?_)
            refine j_wk (ls' := [some (.ref (G.2.2 0)), some (.int r3), some (.int r31)]) (And.intro rfl (And.intro rfl (And.intro rfl trivial))) ?_
            exact (wX12_readMeet h 5000) r3 r31 m53
theorem dX12_isNoiseTold_0 : DD cX12_isNoiseTold 0 (.iconst 0) 1 1 := ⟨by decide +kernel, rfl⟩
theorem dX12_isNoiseTold_1 : DD cX12_isNoiseTold 1 (.istore_n 3) 1 2 := ⟨by decide +kernel, rfl⟩
theorem dX12_isNoiseTold_2 : DD cX12_isNoiseTold 2 (.iconst 0) 1 3 := ⟨by decide +kernel, rfl⟩
theorem dX12_isNoiseTold_3 : DD cX12_isNoiseTold 3 (.istore 4) 2 5 := ⟨by decide +kernel, rfl⟩
theorem dX12_isNoiseTold_5 : DD cX12_isNoiseTold 5 (.iload 4) 2 7 := ⟨by decide +kernel, rfl⟩
theorem dX12_isNoiseTold_7 : DD cX12_isNoiseTold 7 (.aload_n 0) 1 8 := ⟨by decide +kernel, rfl⟩
theorem dX12_isNoiseTold_8 : DD cX12_isNoiseTold 8 (.getfield 344) 3 11 := ⟨by decide +kernel, rfl⟩
theorem dX12_isNoiseTold_11 : DD cX12_isNoiseTold 11 (.if_icmp .ge 41) 3 14 := ⟨by decide +kernel, rfl⟩
theorem dX12_isNoiseTold_14 : DD cX12_isNoiseTold 14 (.iload_n 3) 1 15 := ⟨by decide +kernel, rfl⟩
theorem dX12_isNoiseTold_15 : DD cX12_isNoiseTold 15 (.ifCond .ne 25) 3 18 := ⟨by decide +kernel, rfl⟩
theorem dX12_isNoiseTold_18 : DD cX12_isNoiseTold 18 (.aload_n 0) 1 19 := ⟨by decide +kernel, rfl⟩
theorem dX12_isNoiseTold_19 : DD cX12_isNoiseTold 19 (.getfield 94) 3 22 := ⟨by decide +kernel, rfl⟩
theorem dX12_isNoiseTold_22 : DD cX12_isNoiseTold 22 (.iload 4) 2 24 := ⟨by decide +kernel, rfl⟩
theorem dX12_isNoiseTold_24 : DD cX12_isNoiseTold 24 (.iaload) 1 25 := ⟨by decide +kernel, rfl⟩
theorem dX12_isNoiseTold_25 : DD cX12_isNoiseTold 25 (.iload_n 1) 1 26 := ⟨by decide +kernel, rfl⟩
theorem dX12_isNoiseTold_26 : DD cX12_isNoiseTold 26 (.if_icmp .ne 18) 3 29 := ⟨by decide +kernel, rfl⟩
theorem dX12_isNoiseTold_29 : DD cX12_isNoiseTold 29 (.aload_n 0) 1 30 := ⟨by decide +kernel, rfl⟩
theorem dX12_isNoiseTold_30 : DD cX12_isNoiseTold 30 (.getfield 97) 3 33 := ⟨by decide +kernel, rfl⟩
theorem dX12_isNoiseTold_33 : DD cX12_isNoiseTold 33 (.iload 4) 2 35 := ⟨by decide +kernel, rfl⟩
theorem dX12_isNoiseTold_35 : DD cX12_isNoiseTold 35 (.iaload) 1 36 := ⟨by decide +kernel, rfl⟩
theorem dX12_isNoiseTold_36 : DD cX12_isNoiseTold 36 (.iload_n 2) 1 37 := ⟨by decide +kernel, rfl⟩
theorem dX12_isNoiseTold_37 : DD cX12_isNoiseTold 37 (.if_icmp .ne 7) 3 40 := ⟨by decide +kernel, rfl⟩
theorem dX12_isNoiseTold_40 : DD cX12_isNoiseTold 40 (.iconst 1) 1 41 := ⟨by decide +kernel, rfl⟩
theorem dX12_isNoiseTold_41 : DD cX12_isNoiseTold 41 (.goto 4) 3 44 := ⟨by decide +kernel, rfl⟩
theorem dX12_isNoiseTold_44 : DD cX12_isNoiseTold 44 (.iconst 0) 1 45 := ⟨by decide +kernel, rfl⟩
theorem dX12_isNoiseTold_45 : DD cX12_isNoiseTold 45 (.istore_n 3) 1 46 := ⟨by decide +kernel, rfl⟩
theorem dX12_isNoiseTold_46 : DD cX12_isNoiseTold 46 (.iinc 4 1) 3 49 := ⟨by decide +kernel, rfl⟩
theorem dX12_isNoiseTold_49 : DD cX12_isNoiseTold 49 (.goto (-44)) 3 52 := ⟨by decide +kernel, rfl⟩
theorem dX12_isNoiseTold_52 : DD cX12_isNoiseTold 52 (.iload_n 3) 1 53 := ⟨by decide +kernel, rfl⟩
theorem dX12_isNoiseTold_53 : DD cX12_isNoiseTold 53 (.ireturn) 1 54 := ⟨by decide +kernel, rfl⟩
def gX12_isNoiseTold (m : Mem) : Nat → Int32 → Int32 → Int32 → Int32 → Option Int32
  | 0, _, _, _, _ => none
  | f + 1, x1, x2, x3, x4 => (if (m.1 0 49) ≤ x4 then (tz x3 (some x3)) else (if x3 = 0 then (rd (m.1 27) 8 x4 fun v3 => (if v3 = x1 then (rd (m.1 28) 8 x4 fun v5 => (if v5 = x2 then (gX12_isNoiseTold m f x1 x2 (1 : Int32) (x4 + (1 : Int32))) else (gX12_isNoiseTold m f x1 x2 (0 : Int32) (x4 + (1 : Int32))))) else (gX12_isNoiseTold m f x1 x2 (0 : Int32) (x4 + (1 : Int32))))) else (gX12_isNoiseTold m f x1 x2 (1 : Int32) (x4 + (1 : Int32)))))
def fX12_isNoiseTold (m : Mem) (x1 : Int32) (x2 : Int32) : Option Int32 := (gX12_isNoiseTold m 5000 x1 x2 (0 : Int32) (0 : Int32))
set_option maxHeartbeats 4000000 in
set_option maxRecDepth 100000 in
theorem wX12_isNoiseTold {X : Cx} {G : Gt} (h : OkX (X, G, wM, nM) cX12_isNoiseTold RX12 5 (some .boolean) 1) (m : Mem) : ∀ f : Nat, (∀ (x1 : Int32) (x2 : Int32) (x3 : Int32) (x4 : Int32), JR (X, G, wM, nM) (cvP m) m 5 [some (.ref (G.2.2 0)), some (.int x1), some (.int x2), some (.int x3), some (.int x4)] [] (gX12_isNoiseTold m f x1 x2 x3 x4)) := by
  intro f
  induction f with
  | zero => exact (fun _ _ _ _ => j_none)
  | succ f ih =>
    intro x1 x2 x3 x4
    rw [gX12_isNoiseTold]
    refine j_iload h dX12_isNoiseTold_5 rfl ?_
    refine j_aload_n h dX12_isNoiseTold_7 rfl ?_
    refine gM_49 h dX12_isNoiseTold_8 ?_
    refine j_icmp_ge (tgt := 52) h dX12_isNoiseTold_11 (by decide) (fun c1 => ?_) (fun c1 => ?_)
    · refine j_iload_n h dX12_isNoiseTold_52 rfl ?_
      exact j_zret h rfl dX12_isNoiseTold_53
    · refine j_iload_n h dX12_isNoiseTold_14 rfl ?_
      refine j_if_ne (tgt := 40) h dX12_isNoiseTold_15 (by decide) (fun c2 => ?_) (fun c2 => ?_)
      · refine j_iconst (v := (1 : Int32)) h dX12_isNoiseTold_40 kiconst_1 ?_
        refine j_goto (tgt := 45) h dX12_isNoiseTold_41 (by decide) ?_
        refine j_istore_n h dX12_isNoiseTold_45 rfl rfl ?_
        refine j_iinc (v := (x4 + (1 : Int32))) h dX12_isNoiseTold_46 rfl (by rw [kiconst_1]) rfl ?_
        refine j_goto (tgt := 5) h dX12_isNoiseTold_49 (by decide) ?_
        refine j_wk (ls' := [some (.ref (G.2.2 0)), some (.int x1), some (.int x2), some (.int (1 : Int32)), some (.int (x4 + (1 : Int32)))]) (And.intro rfl (And.intro rfl (And.intro rfl (And.intro rfl (And.intro rfl trivial))))) ?_
        exact ih x1 x2 (1 : Int32) (x4 + (1 : Int32))
      · refine j_aload_n h dX12_isNoiseTold_18 rfl ?_
        refine gM_41 h dX12_isNoiseTold_19 ?_
        refine j_iload h dX12_isNoiseTold_22 rfl ?_
        refine aM_27 h dX12_isNoiseTold_24 (fun v3 hv3 => ?_)
        refine j_iload_n h dX12_isNoiseTold_25 rfl ?_
        refine j_icmp_ne (tgt := 44) h dX12_isNoiseTold_26 (by decide) (fun c4 => ?_) (fun c4 => ?_)
        · refine j_iconst (v := (0 : Int32)) h dX12_isNoiseTold_44 kiconst_0 ?_
          refine j_istore_n h dX12_isNoiseTold_45 rfl rfl ?_
          refine j_iinc (v := (x4 + (1 : Int32))) h dX12_isNoiseTold_46 rfl (by rw [kiconst_1]) rfl ?_
          refine j_goto (tgt := 5) h dX12_isNoiseTold_49 (by decide) ?_
          refine j_wk (ls' := [some (.ref (G.2.2 0)), some (.int x1), some (.int x2), some (.int (0 : Int32)), some (.int (x4 + (1 : Int32)))]) (And.intro rfl (And.intro rfl (And.intro rfl (And.intro rfl (And.intro rfl trivial))))) ?_
          exact ih x1 x2 (0 : Int32) (x4 + (1 : Int32))
        · refine j_aload_n h dX12_isNoiseTold_29 rfl ?_
          refine gM_42 h dX12_isNoiseTold_30 ?_
          refine j_iload h dX12_isNoiseTold_33 rfl ?_
          refine aM_28 h dX12_isNoiseTold_35 (fun v5 hv5 => ?_)
          refine j_iload_n h dX12_isNoiseTold_36 rfl ?_
          refine j_icmp_ne (tgt := 44) h dX12_isNoiseTold_37 (by decide) (fun c6 => ?_) (fun c6 => ?_)
          · refine j_iconst (v := (0 : Int32)) h dX12_isNoiseTold_44 kiconst_0 ?_
            refine j_istore_n h dX12_isNoiseTold_45 rfl rfl ?_
            refine j_iinc (v := (x4 + (1 : Int32))) h dX12_isNoiseTold_46 rfl (by rw [kiconst_1]) rfl ?_
            refine j_goto (tgt := 5) h dX12_isNoiseTold_49 (by decide) ?_
            refine j_wk (ls' := [some (.ref (G.2.2 0)), some (.int x1), some (.int x2), some (.int (0 : Int32)), some (.int (x4 + (1 : Int32)))]) (And.intro rfl (And.intro rfl (And.intro rfl (And.intro rfl (And.intro rfl trivial))))) ?_
            exact ih x1 x2 (0 : Int32) (x4 + (1 : Int32))
          · refine j_iconst (v := (1 : Int32)) h dX12_isNoiseTold_40 kiconst_1 ?_
            refine j_goto (tgt := 45) h dX12_isNoiseTold_41 (by decide) ?_
            refine j_istore_n h dX12_isNoiseTold_45 rfl rfl ?_
            refine j_iinc (v := (x4 + (1 : Int32))) h dX12_isNoiseTold_46 rfl (by rw [kiconst_1]) rfl ?_
            refine j_goto (tgt := 5) h dX12_isNoiseTold_49 (by decide) ?_
            refine j_wk (ls' := [some (.ref (G.2.2 0)), some (.int x1), some (.int x2), some (.int (1 : Int32)), some (.int (x4 + (1 : Int32)))]) (And.intro rfl (And.intro rfl (And.intro rfl (And.intro rfl (And.intro rfl trivial))))) ?_
            exact ih x1 x2 (1 : Int32) (x4 + (1 : Int32))
set_option maxHeartbeats 4000000 in
set_option maxRecDepth 100000 in
theorem kX12_isNoiseTold (l : Launch) (G : Gt) (hD : ∀ m, va_D (inA G nM) (wM G m)) (m : Mem) (x1 : Int32) (x2 : Int32) : ∀ a, fX12_isNoiseTold m x1 x2 = some a → Ct l G wM nM yX12_isNoiseTold cX12_isNoiseTold 5 (some .boolean) 1 [.ref (G.2.2 0), .int x1, .int x2] m ((cvP m) a) := by
  refine ct_of (own := RX12) (ls0 := [some (.ref (G.2.2 0)), some (.int x1), some (.int x2), none, none]) (by decide) rfl rfl rfl (Nat.le_of_ble_eq_true rfl) hD (fun X h => ?_) l
  unfold fX12_isNoiseTold
  refine j_iconst (v := (0 : Int32)) h dX12_isNoiseTold_0 kiconst_0 ?_
  refine j_istore_n h dX12_isNoiseTold_1 rfl rfl ?_
  refine j_iconst (v := (0 : Int32)) h dX12_isNoiseTold_2 kiconst_0 ?_
  refine j_istore h dX12_isNoiseTold_3 rfl rfl ?_
  refine j_wk (ls' := [some (.ref (G.2.2 0)), some (.int x1), some (.int x2), some (.int (0 : Int32)), some (.int (0 : Int32))]) (And.intro rfl (And.intro rfl (And.intro rfl (And.intro rfl (And.intro rfl trivial))))) ?_
  exact (wX12_isNoiseTold h m 5000) x1 x2 (0 : Int32) (0 : Int32)
