/-! ===== the tape's texts: what the JDK's own members say of them ===== -/
def fsigns (c : Int32) : Option Int32 := some (if c = 59 then 0 else if c = 40 then 1 else if c = 41 then 2 else if c = 60 then 3 else if c = 62 then 4 else if c = 61 then 5 else if c = 43 then 6 else if c = 45 then 7 else if c = 42 then 8 else if c = 47 then 9 else if c = 37 then 10 else -1)
section RT0
variable {α : Type} {Z : Zx} {cc : ByteArray} {own : String} {nL : Nat} {ret : Option FieldType} {lev : Nat} {cv : α → Option Value × Mem} {m : Mem} {pc nx idx : Nat} {ls : List (Option Value)} {st st0 : List Value} {E : Option α}
theorem j_sval (h : OkX Z cc own nL ret lev) {i : Nat} (hi : i < 2) (hlk : Cond.fieldLink own idx "java/lang/String" "value" "[B" ∈ WT) (d : DD cc pc (.getfield idx) 3 nx) (k : JR Z cv m nx ls (.ref (Z.2.1.2.2 (2000 + i)) :: st) E) : JR Z cv m pc ls (.ref (Z.2.1.2.2 (1000 + i)) :: st) E := by
  obtain ⟨d, rfl⟩ := d
  intro a ha H locs Ls hP hS hl
  exact vk_getf h.1 h.2.1 (h.2.2.2.2.2.2.2.1.2.2.2.1.1 i hi).2.2.1 hS h.2.2.2.2.1 (h.2.2.2.2.2.1 _ hlk) (fun _ hx => hx) d (k a ha H locs Ls hP hS hl)
theorem j_scod (h : OkX Z cc own nL ret lev) {i : Nat} (hi : i < 2) (hlk : Cond.fieldLink own idx "java/lang/String" "coder" "B" ∈ WT) (d : DD cc pc (.getfield idx) 3 nx) (k : JR Z cv m nx ls (.int 0 :: st) E) : JR Z cv m pc ls (.ref (Z.2.1.2.2 (1000 + i)) :: st) E := by
  obtain ⟨d, rfl⟩ := d
  intro a ha H locs Ls hP hS hl
  exact vk_getf h.1 h.2.1 (h.2.2.2.2.2.2.2.1.2.2.2.1.1 i hi).2.1 hS h.2.2.2.2.1 (h.2.2.2.2.2.1 _ hlk) (fun _ hx => hx) d (k a ha H locs Ls hP hS hl)
theorem j_scmp (h : OkX Z cc own nL ret lev) (hlk : Cond.fieldLink own idx "java/lang/String" "COMPACT_STRINGS" "Z" ∈ WT) (d : DD cc pc (.getstatic idx) 3 nx) (k : JR Z cv m nx ls (.int 1 :: st) E) : JR Z cv m pc ls st E := by
  obtain ⟨d, rfl⟩ := d
  intro a ha H locs Ls hP hS hl
  exact va_gets h.1 h.2.1 h.2.2.2.2.2.2.2.1.2.2.2.2.1 hS h.2.2.2.2.1 (h.2.2.2.2.2.1 _ hlk) (fun _ hx => hx) d (k a ha H locs Ls hP hS hl)
theorem j_sfmt (h : OkX Z cc own nL ret lev) (hlk : Cond.fieldLink own idx "jdk/internal/util/Preconditions" "SIOOBE_FORMATTER" "Ljava/util/function/BiFunction;" ∈ WT) (d : DD cc pc (.getstatic idx) 3 nx) (k : ∀ v : Value, (v = .null ∨ ∃ t, v = .ref t) → JR Z cv m nx ls (v :: st) E) : JR Z cv m pc ls st E := by
  obtain ⟨d, rfl⟩ := d
  intro a ha H locs Ls hP hS hl
  rcases h.2.2.2.2.2.2.2.1.2.2.2.2.2 with hz | ⟨t, hz⟩
  · exact va_gets h.1 h.2.1 hz hS h.2.2.2.2.1 (h.2.2.2.2.2.1 _ hlk) (fun _ hx => hx) d (k _ (Or.inl rfl) a ha H locs Ls hP hS hl)
  · exact va_gets h.1 h.2.1 hz hS h.2.2.2.2.1 (h.2.2.2.2.2.1 _ hlk) (fun _ hx => hx) d (k _ (Or.inr ⟨t, rfl⟩) a ha H locs Ls hP hS hl)
theorem j_stlen (h : OkX Z cc own nL ret lev) {i : Nat} (hi : i < 2) (d : DD cc pc .arraylength 1 nx) (k : JR Z cv m nx ls (.int (Int32.ofNat (([98, 11] : List Nat).getD i 0)) :: st) E) : JR Z cv m pc ls (.ref (Z.2.1.2.2 (2000 + i)) :: st) E := by
  obtain ⟨d, rfl⟩ := d
  intro a ha H locs Ls hP hS hl
  exact va_tlen h.1 h.2.1 (h.2.2.2.2.2.2.2.1.2.2.2.1.1 i hi).2.2.2 hS rfl d (k a ha H locs Ls hP hS hl)
theorem j_stb (h : OkX Z cc own nL ret lev) {i j : Nat} (hi : i < 2) (hj : j < ([98, 11] : List Nat).getD i 0) (hj2 : j < 2 ^ 31) (d : DD cc pc .baload 1 nx) (k : JR Z cv m nx ls (.int ((txB.getD i []).getD j 0) :: st) E) : JR Z cv m pc ls (.int (nI j) :: .ref (Z.2.1.2.2 (2000 + i)) :: st) E := by
  obtain ⟨d, rfl⟩ := d
  intro a ha H locs Ls hP hS hl
  refine va_tb h.1 h.2.1 (h.2.2.2.2.2.2.2.1.2.2.2.1.1 i hi).2.2.2 hS ?_ ?_ d (k a ha H locs Ls hP hS hl)
  · intro z
    rcases z with z | z
    · exact nI_pos hj2 z
    · rw [nI_clamp hj2] at z; omega
  · show Value.int _ = _
    rw [nI_clamp hj2]
theorem j_tret {ty : FieldType} (h : OkX Z cc own nL (some ty) lev) {a : α} {v : Int32} (hcv : cv a = (some (.int v), m)) (hn : narrow ty (.int v) = .int v) (d : DD cc pc .ireturn 1 nx) : JR Z cv m pc ls [.int v] (some a) := by
  obtain ⟨d, rfl⟩ := d
  intro a' ha H locs Ls hP hS hl
  cases ha
  exact W.zret h.1 h.2.1 h.2.2.1 hn (fun t ht hW => ⟨by rw [hcv], by rw [hcv, ht]; exact hP, hS.F ht⟩) hS.2.2 d (hlocks := h.2.2.2.2.2.2.2.2.1)
/-- a member of a text is called -/
theorem j_callT (h : OkX Z cc own nL ret lev) {F : Option Int32} {K : Int32 → Option α} {i : Nat} (hi : i < 2) {y : MethodName} {bytes : ByteArray} {maxL n lev2 : Nat} {ret2 : Option FieldType} (As : List Value) (hy : y.cls = "java/lang/String") (hct : ∀ a, F = some a → Ct Z.1.2.1 Z.2.1 Z.2.2.1 Z.2.2.2 y bytes maxL ret2 lev2 (.ref (Z.2.1.2.2 (1000 + i)) :: As) m (cvP m a)) (hM : mOK y bytes maxL ret2 n) (hin : Cond.instanceMethod y ∈ WT ∧ Cond.selects y.cls y y ∈ WT) (hlk : Cond.methodLink own idx y ∈ WT) (hst : st0 = As.reverse ++ .ref (Z.2.1.2.2 (1000 + i)) :: st) (hAs : As.length = n) (hlev : lev2 < lev) (hmax : maxL ≤ 45) (hroom : (st.map fun v => v.category).sum ≤ 8) (hnl : ls.length = nL) (d : DD cc pc (.invokevirtual idx) 3 nx) (kk : ∀ r, F = some r → JR Z cv m nx ls (.int r :: st) (K r)) : JR Z cv m pc ls st0 (cP F K) := by
  obtain ⟨d, rfl⟩ := d
  refine j_back (cv2 := cvP m) (as := (Value.ref (Z.2.1.2.2 (1000 + i)) :: As).toArray) h (fun a ha H locs Ls hP hS hl => ?_) kk
  exact va_runV (C := y.cls) (Ts := WT) ⟨h.1, h.2.1, h.2.2.2.1, h.2.2.2.2.1, h.2.2.2.2.2.1⟩ (hct a ha) ⟨callOK h hM hlk hlev hmax, h.2.2.2.2.2.1 _ hin.1, h.2.2.2.2.2.1 _ hin.2⟩ ⟨Hd.blind, by rw [hy]; exact vk_recv (i := i) h.2.2.2.2.2.2.2.1.2.2.2.1 hi hS, fun U hU hW => ⟨rfl, by rw [hU]; exact hP, va_K.moved hW.alike h.2.2.2.2.2.2.1, NX.warm hS hU hW h.2.2.2.2.2.2.2.1⟩⟩ rfl hAs (hl.1.trans hnl) hst (lv_room hroom) d ⟨Nat.zero_le _, Nat.zero_le _⟩
end RT0
abbrev RS : String := "java/lang/String"
abbrev RL1 : String := "java/lang/StringLatin1"
abbrev RPc : String := "jdk/internal/util/Preconditions"
abbrev cS_length : ByteArray := prog_18_method_54_code
abbrev cS_coder : ByteArray := prog_18_method_152_code
abbrev cS_charAt : ByteArray := prog_18_method_56_code
abbrev cS_latin : ByteArray := prog_18_method_154_code
abbrev cL_charAt : ByteArray := prog_19_method_2_code
abbrev cS_check : ByteArray := prog_18_method_155_code
abbrev cP_check : ByteArray := prog_23_method_11_code
abbrev cS_ix1 : ByteArray := prog_18_method_79_code
abbrev cS_ix2 : ByteArray := prog_18_method_80_code
abbrev cL_ix : ByteArray := prog_19_method_22_code
abbrev cL_can : ByteArray := prog_19_method_4_code
abbrev cL_ch : ByteArray := prog_19_method_23_code
def yS_length : MethodName := ⟨"java/lang/String", "length", "()I"⟩
def yS_coder : MethodName := ⟨"java/lang/String", "coder", "()B"⟩
def yS_charAt : MethodName := ⟨"java/lang/String", "charAt", "(I)C"⟩
def yS_latin : MethodName := ⟨"java/lang/String", "isLatin1", "()Z"⟩
def yL_charAt : MethodName := ⟨"java/lang/StringLatin1", "charAt", "([BI)C"⟩
def yS_check : MethodName := ⟨"java/lang/String", "checkIndex", "(II)V"⟩
def yP_check : MethodName := ⟨"jdk/internal/util/Preconditions", "checkIndex", "(IILjava/util/function/BiFunction;)I"⟩
def yS_ix1 : MethodName := ⟨"java/lang/String", "indexOf", "(I)I"⟩
def yS_ix2 : MethodName := ⟨"java/lang/String", "indexOf", "(II)I"⟩
def yL_ix : MethodName := ⟨"java/lang/StringLatin1", "indexOf", "([BIII)I"⟩
def yL_can : MethodName := ⟨"java/lang/StringLatin1", "canEncode", "(I)Z"⟩
def yL_ch : MethodName := ⟨"java/lang/StringLatin1", "indexOfChar", "([BIII)I"⟩
theorem okS_length : mOK yS_length cS_length 1 (some .int) 0 := ⟨wt_mem 108 (by decide +kernel) rfl, wt_mem 146 (by decide +kernel) rfl, by decide +kernel, by decide +kernel, by decide +kernel⟩
theorem okS_coder : mOK yS_coder cS_coder 1 (some .byte) 0 := ⟨wt_mem 108 (by decide +kernel) rfl, wt_mem 150 (by decide +kernel) rfl, by decide +kernel, by decide +kernel, by decide +kernel⟩
theorem okS_charAt : mOK yS_charAt cS_charAt 2 (some .char) 1 := ⟨wt_mem 108 (by decide +kernel) rfl, wt_mem 156 (by decide +kernel) rfl, by decide +kernel, by decide +kernel, by decide +kernel⟩
theorem okS_latin : mOK yS_latin cS_latin 1 (some .boolean) 0 := ⟨wt_mem 108 (by decide +kernel) rfl, wt_mem 160 (by decide +kernel) rfl, by decide +kernel, by decide +kernel, by decide +kernel⟩
theorem okL_charAt : mOK yL_charAt cL_charAt 2 (some .char) 2 := ⟨wt_mem 109 (by decide +kernel) rfl, wt_mem 163 (by decide +kernel) rfl, by decide +kernel, by decide +kernel, by decide +kernel⟩
theorem okS_check : mOK yS_check cS_check 2 none 2 := ⟨wt_mem 108 (by decide +kernel) rfl, wt_mem 166 (by decide +kernel) rfl, by decide +kernel, by decide +kernel, by decide +kernel⟩
theorem okP_check : mOK yP_check cP_check 3 (some .int) 3 := ⟨wt_mem 110 (by decide +kernel) rfl, wt_mem 171 (by decide +kernel) rfl, by decide +kernel, by decide +kernel, by decide +kernel⟩
theorem okS_ix1 : mOK yS_ix1 cS_ix1 2 (some .int) 1 := ⟨wt_mem 108 (by decide +kernel) rfl, wt_mem 680 (by decide +kernel) rfl, by decide +kernel, by decide +kernel, by decide +kernel⟩
theorem okS_ix2 : mOK yS_ix2 cS_ix2 3 (some .int) 2 := ⟨wt_mem 108 (by decide +kernel) rfl, wt_mem 684 (by decide +kernel) rfl, by decide +kernel, by decide +kernel, by decide +kernel⟩
theorem okL_ix : mOK yL_ix cL_ix 4 (some .int) 4 := ⟨wt_mem 109 (by decide +kernel) rfl, wt_mem 688 (by decide +kernel) rfl, by decide +kernel, by decide +kernel, by decide +kernel⟩
theorem okL_can : mOK yL_can cL_can 1 (some .boolean) 1 := ⟨wt_mem 109 (by decide +kernel) rfl, wt_mem 691 (by decide +kernel) rfl, by decide +kernel, by decide +kernel, by decide +kernel⟩
theorem okL_ch : mOK yL_ch cL_ch 6 (some .int) 4 := ⟨wt_mem 109 (by decide +kernel) rfl, wt_mem 700 (by decide +kernel) rfl, by decide +kernel, by decide +kernel, by decide +kernel⟩
theorem inS_length : Cond.instanceMethod yS_length ∈ WT ∧ Cond.selects (yS_length).cls yS_length yS_length ∈ WT := ⟨wt_mem 144 (by decide +kernel) rfl, wt_mem 145 (by decide +kernel) rfl⟩
theorem inS_coder : Cond.instanceMethod yS_coder ∈ WT ∧ Cond.selects (yS_coder).cls yS_coder yS_coder ∈ WT := ⟨wt_mem 148 (by decide +kernel) rfl, wt_mem 149 (by decide +kernel) rfl⟩
theorem inS_charAt : Cond.instanceMethod yS_charAt ∈ WT ∧ Cond.selects (yS_charAt).cls yS_charAt yS_charAt ∈ WT := ⟨wt_mem 154 (by decide +kernel) rfl, wt_mem 155 (by decide +kernel) rfl⟩
theorem inS_latin : Cond.instanceMethod yS_latin ∈ WT ∧ Cond.selects (yS_latin).cls yS_latin yS_latin ∈ WT := ⟨wt_mem 158 (by decide +kernel) rfl, wt_mem 159 (by decide +kernel) rfl⟩
theorem inS_ix1 : Cond.instanceMethod yS_ix1 ∈ WT ∧ Cond.selects (yS_ix1).cls yS_ix1 yS_ix1 ∈ WT := ⟨wt_mem 678 (by decide +kernel) rfl, wt_mem 679 (by decide +kernel) rfl⟩
theorem inS_ix2 : Cond.instanceMethod yS_ix2 ∈ WT ∧ Cond.selects (yS_ix2).cls yS_ix2 yS_ix2 ∈ WT := ⟨wt_mem 682 (by decide +kernel) rfl, wt_mem 683 (by decide +kernel) rfl⟩
theorem stL_charAt : Cond.static yL_charAt ∈ WT := wt_mem 162 (by decide +kernel) rfl
theorem stS_check : Cond.static yS_check ∈ WT := wt_mem 165 (by decide +kernel) rfl
theorem stP_check : Cond.static yP_check ∈ WT := wt_mem 170 (by decide +kernel) rfl
theorem stL_ix : Cond.static yL_ix ∈ WT := wt_mem 687 (by decide +kernel) rfl
theorem stL_can : Cond.static yL_can ∈ WT := wt_mem 690 (by decide +kernel) rfl
theorem stL_ch : Cond.static yL_ch ∈ WT := wt_mem 699 (by decide +kernel) rfl
theorem lkS_value : Cond.fieldLink RS 9 "java/lang/String" "value" "[B" ∈ WT := wt_mem 2051 (by decide +kernel) rfl
theorem lkS_coder : Cond.fieldLink RS 15 "java/lang/String" "coder" "B" ∈ WT := wt_mem 2052 (by decide +kernel) rfl
theorem lkS_cmp : Cond.fieldLink RS 38 "java/lang/String" "COMPACT_STRINGS" "Z" ∈ WT := wt_mem 151 (by decide +kernel) rfl
theorem lkS_fmt : Cond.fieldLink RS 1053 "jdk/internal/util/Preconditions" "SIOOBE_FORMATTER" "Ljava/util/function/BiFunction;" ∈ WT := wt_mem 167 (by decide +kernel) rfl
theorem mlS_335 : Cond.methodLink RS 335 yS_coder ∈ WT := wt_mem 147 (by decide +kernel) rfl
theorem mlS_492 : Cond.methodLink RS 492 yS_latin ∈ WT := wt_mem 157 (by decide +kernel) rfl
theorem mlS_495 : Cond.methodLink RS 495 yL_charAt ∈ WT := wt_mem 161 (by decide +kernel) rfl
theorem mlL_9 : Cond.methodLink RL1 9 yS_check ∈ WT := wt_mem 164 (by decide +kernel) rfl
theorem mlS_1059 : Cond.methodLink RS 1059 yP_check ∈ WT := wt_mem 169 (by decide +kernel) rfl
theorem mlS_633 : Cond.methodLink RS 633 yS_ix2 ∈ WT := wt_mem 681 (by decide +kernel) rfl
theorem mlS_505 : Cond.methodLink RS 505 yS_length ∈ WT := wt_mem 685 (by decide +kernel) rfl
theorem mlS_637 : Cond.methodLink RS 637 yL_ix ∈ WT := wt_mem 686 (by decide +kernel) rfl
theorem mlL_88 : Cond.methodLink RL1 88 yL_can ∈ WT := wt_mem 689 (by decide +kernel) rfl
theorem mlL_92 : Cond.methodLink RL1 92 Lib.Math.max.name ∈ WT := wt_mem 692 (by decide +kernel) rfl
theorem mlL_38 : Cond.methodLink RL1 38 Lib.Math.min.name ∈ WT := wt_mem 695 (by decide +kernel) rfl
theorem mlL_95 : Cond.methodLink RL1 95 yL_ch ∈ WT := wt_mem 698 (by decide +kernel) rfl
section RT1
variable (l : Launch) (G : Gt) (wf : Wf) (n : Nat)
theorem k_coder (hD : ∀ m, va_D (inA G n) (wf G m)) (m : Mem) {i : Nat} (hi : i < 2) : ∀ a, some (0 : Int32) = some a → Ct l G wf n yS_coder cS_coder 1 (some .byte) 0 [.ref (G.2.2 (1000 + i))] m (cvP m a) := by
  refine ct_of (own := RS) (ls0 := [some (.ref (G.2.2 (1000 + i)))]) (by decide) rfl rfl rfl (Nat.le_of_ble_eq_true rfl) hD (fun X h => ?_) l
  refine j_scmp h lkS_cmp (nx := 3) ⟨by decide +kernel, rfl⟩ ?_
  refine j_if_eqB (tgt := 13) (nx := 6) (off := 10) h ⟨by decide +kernel, rfl⟩ (by decide) (fun c => absurd c (by decide)) (fun _ => ?_)
  refine j_aload_n (i := 0) (nx := 7) h ⟨by decide +kernel, rfl⟩ rfl ?_
  refine j_scod h hi lkS_coder (nx := 10) ⟨by decide +kernel, rfl⟩ ?_
  refine j_goto (tgt := 14) (off := 4) (nx := 13) h ⟨by decide +kernel, rfl⟩ (by decide) ?_
  exact j_tret (nx := 15) h rfl (by decide) ⟨by decide +kernel, rfl⟩
theorem k_latin (hD : ∀ m, va_D (inA G n) (wf G m)) (m : Mem) {i : Nat} (hi : i < 2) : ∀ a, some (1 : Int32) = some a → Ct l G wf n yS_latin cS_latin 1 (some .boolean) 0 [.ref (G.2.2 (1000 + i))] m (cvP m a) := by
  refine ct_of (own := RS) (ls0 := [some (.ref (G.2.2 (1000 + i)))]) (by decide) rfl rfl rfl (Nat.le_of_ble_eq_true rfl) hD (fun X h => ?_) l
  refine j_scmp h lkS_cmp (nx := 3) ⟨by decide +kernel, rfl⟩ ?_
  refine j_if_eqB (tgt := 17) (nx := 6) (off := 14) h ⟨by decide +kernel, rfl⟩ (by decide) (fun c => absurd c (by decide)) (fun _ => ?_)
  refine j_aload_n (i := 0) (nx := 7) h ⟨by decide +kernel, rfl⟩ rfl ?_
  refine j_scod h hi lkS_coder (nx := 10) ⟨by decide +kernel, rfl⟩ ?_
  refine j_if_neB (tgt := 17) (nx := 13) (off := 7) h ⟨by decide +kernel, rfl⟩ (by decide) (fun c => absurd rfl c) (fun _ => ?_)
  refine j_iconst (n := 1) (v := 1) (nx := 14) h ⟨by decide +kernel, rfl⟩ rfl ?_
  refine j_goto (tgt := 18) (off := 4) (nx := 17) h ⟨by decide +kernel, rfl⟩ (by decide) ?_
  exact j_tret (nx := 19) h rfl (by decide) ⟨by decide +kernel, rfl⟩
theorem k_length (hD : ∀ m, va_D (inA G n) (wf G m)) (m : Mem) {i : Nat} (hi : i < 2) : ∀ a, some (Int32.ofNat (([98, 11] : List Nat).getD i 0)) = some a → Ct l G wf n yS_length cS_length 1 (some .int) 1 [.ref (G.2.2 (1000 + i))] m (cvP m a) := by
  refine ct_of (own := RS) (ls0 := [some (.ref (G.2.2 (1000 + i)))]) (by decide) rfl rfl rfl (Nat.le_of_ble_eq_true rfl) hD (fun X h => ?_) l
  refine j_aload_n (i := 0) (nx := 1) h ⟨by decide +kernel, rfl⟩ rfl ?_
  refine j_sval h hi lkS_value (nx := 4) ⟨by decide +kernel, rfl⟩ ?_
  refine j_stlen h hi (nx := 5) ⟨by decide +kernel, rfl⟩ ?_
  refine j_aload_n (i := 0) (nx := 6) h ⟨by decide +kernel, rfl⟩ rfl ?_
  have e : (some (Int32.ofNat (([98, 11] : List Nat).getD i 0)) : Option Int32) = cP (some 0) (fun _ => some (Int32.ofNat (([98, 11] : List Nat).getD i 0))) := rfl
  rw [e]
  refine j_callT h hi [] rfl (k_coder _ G wf n hD m hi) okS_coder inS_coder mlS_335 rfl rfl (by decide) (by decide) (Nat.le_of_ble_eq_true rfl) rfl (nx := 9) ⟨by decide +kernel, rfl⟩ (fun r hr => ?_)
  cases hr
  refine j_ishr (nx := 10) h ⟨by decide +kernel, rfl⟩ ?_
  have e2 : Int32.ofNat (([98, 11] : List Nat).getD i 0) >>> ((0 : Int32) &&& 31) = Int32.ofNat (([98, 11] : List Nat).getD i 0) := by
    rcases (show i = 0 ∨ i = 1 by omega) with rfl | rfl <;> decide
  rw [e2]
  exact j_iret (nx := 11) h rfl ⟨by decide +kernel, rfl⟩
theorem k_can (hD : ∀ m, va_D (inA G n) (wf G m)) (m : Mem) (x : Int32) : ∀ a, some (if x < 0 ∨ 255 < x then (0 : Int32) else 1) = some a → Ct l G wf n yL_can cL_can 1 (some .boolean) 0 [.int x] m (cvP m a) := by
  refine ct_of (own := RL1) (ls0 := [some (.int x)]) (by decide) rfl rfl rfl (Nat.le_of_ble_eq_true rfl) hD (fun X h => ?_) l
  have no : JR (X, G, wf, n) (cvP m) m 15 [some (.int x)] [] (some (0 : Int32)) := by
    refine j_iconst (n := 0) (v := 0) (nx := 16) h ⟨by decide +kernel, rfl⟩ rfl ?_
    exact j_tret (nx := 17) h rfl (by decide) ⟨by decide +kernel, rfl⟩
  refine j_iload_n (i := 0) (nx := 1) h ⟨by decide +kernel, rfl⟩ rfl ?_
  refine j_if_ltB (tgt := 15) (nx := 4) (off := 14) h ⟨by decide +kernel, rfl⟩ (by decide) (fun c => by rw [if_pos (Or.inl c)]; exact no) (fun c0 => ?_)
  refine j_iload_n (i := 0) (nx := 5) h ⟨by decide +kernel, rfl⟩ rfl ?_
  refine j_sipush (n := 255) (v := 255) (nx := 8) h ⟨by decide +kernel, rfl⟩ rfl ?_
  refine j_icmp_gtB (tgt := 15) (nx := 11) (off := 7) h ⟨by decide +kernel, rfl⟩ (by decide) (fun c => by rw [if_pos (Or.inr c)]; exact no) (fun c1 => ?_)
  rw [if_neg (fun z => z.elim c0 c1)]
  refine j_iconst (n := 1) (v := 1) (nx := 12) h ⟨by decide +kernel, rfl⟩ rfl ?_
  refine j_goto (tgt := 16) (off := 4) (nx := 15) h ⟨by decide +kernel, rfl⟩ (by decide) ?_
  exact j_tret (nx := 17) h rfl (by decide) ⟨by decide +kernel, rfl⟩
/-- where a byte stands among the signs -/
def ixS (x : Int32) : Nat → Nat → Int32
  | 0, _ => -1
  | j + 1, i => if (txB.getD 1 []).getD i 0 = x then nI i else ixS x j (i + 1)
theorem k_ch (hD : ∀ m, va_D (inA G n) (wf G m)) (m : Mem) (x : Int32) : ∀ a, some (ixS x.toInt8.toInt32 11 0) = some a → Ct l G wf n yL_ch cL_ch 6 (some .int) 0 [.ref (G.2.2 2001), .int x, .int 0, .int 11] m (cvP m a) := by
  refine ct_of (own := RL1) (ls0 := [some (.ref (G.2.2 2001)), some (.int x), some (.int 0), some (.int 11), none, none]) (by decide) rfl rfl rfl (Nat.le_of_ble_eq_true rfl) hD (fun X h => ?_) l
  have loop : ∀ (j i : Nat), i + j = 11 → JR (X, G, wf, n) (cvP m) m 7 [some (.ref (G.2.2 2001)), some (.int x), some (.int 0), some (.int 11), some (.int x.toInt8.toInt32), some (.int (nI i))] [] (some (ixS x.toInt8.toInt32 j i)) := by
    intro j
    induction j with
    | zero =>
      intro i hi
      have hi : i = 11 := by omega
      subst hi
      refine j_iload (i := 5) (nx := 9) h ⟨by decide +kernel, rfl⟩ rfl ?_
      refine j_iload_n (i := 3) (nx := 10) h ⟨by decide +kernel, rfl⟩ rfl ?_
      refine j_icmp_geB (tgt := 31) (nx := 13) (off := 21) h ⟨by decide +kernel, rfl⟩ (by decide) (fun _ => ?_) (fun c => absurd (by decide) c)
      refine j_iconst (n := -1) (v := -1) (nx := 32) h ⟨by decide +kernel, rfl⟩ rfl ?_
      exact j_iret (nx := 33) h rfl ⟨by decide +kernel, rfl⟩
    | succ j ih =>
      intro i hi
      refine j_iload (i := 5) (nx := 9) h ⟨by decide +kernel, rfl⟩ rfl ?_
      refine j_iload_n (i := 3) (nx := 10) h ⟨by decide +kernel, rfl⟩ rfl ?_
      refine j_icmp_geB (tgt := 31) (nx := 13) (off := 21) h ⟨by decide +kernel, rfl⟩ (by decide) (fun c => absurd c (nI_ge (b := 11) (by omega) (by omega))) (fun _ => ?_)
      refine j_aload_n (i := 0) (nx := 14) h ⟨by decide +kernel, rfl⟩ rfl ?_
      refine j_iload (i := 5) (nx := 16) h ⟨by decide +kernel, rfl⟩ rfl ?_
      refine j_stb (i := 1) (j := i) h (by omega) (show i < 11 by omega) (by omega) (nx := 17) ⟨by decide +kernel, rfl⟩ ?_
      refine j_iload (i := 4) (nx := 19) h ⟨by decide +kernel, rfl⟩ rfl ?_
      refine j_icmp_neB (tgt := 25) (nx := 22) (off := 6) h ⟨by decide +kernel, rfl⟩ (by decide) (fun c => ?_) (fun c => ?_)
      · rw [ixS, if_neg c]
        refine j_iinc (i := 5) (n := 1) (v := nI (i + 1)) (nx := 28) h ⟨by decide +kernel, rfl⟩ rfl (nI_succ i).symm rfl ?_
        refine j_goto (tgt := 7) (off := -21) (nx := 31) h ⟨by decide +kernel, rfl⟩ (by decide) ?_
        exact ih (i + 1) (by omega)
      · rw [ixS, if_pos (Decidable.not_not.mp c)]
        refine j_iload (i := 5) (nx := 24) h ⟨by decide +kernel, rfl⟩ rfl ?_
        exact j_iret (nx := 25) h rfl ⟨by decide +kernel, rfl⟩
  refine j_iload_n (i := 1) (nx := 1) h ⟨by decide +kernel, rfl⟩ rfl ?_
  refine j_i2b (nx := 2) h ⟨by decide +kernel, rfl⟩ ?_
  refine j_istore (i := 4) (nx := 4) h ⟨by decide +kernel, rfl⟩ rfl rfl ?_
  refine j_iload_n (i := 2) (nx := 5) h ⟨by decide +kernel, rfl⟩ rfl ?_
  refine j_istore (i := 5) (nx := 7) h ⟨by decide +kernel, rfl⟩ rfl rfl ?_
  exact loop 11 0 rfl
def ixV (x : Int32) : Int32 := if x < 0 ∨ 255 < x then -1 else ixS x.toInt8.toInt32 11 0
theorem k_ixL (hD : ∀ m, va_D (inA G n) (wf G m)) (m : Mem) (x : Int32) : ∀ a, some (ixV x) = some a → Ct l G wf n yL_ix cL_ix 4 (some .int) 1 [.ref (G.2.2 2001), .int x, .int 0, .int 11] m (cvP m a) := by
  refine ct_of (own := RL1) (ls0 := [some (.ref (G.2.2 2001)), some (.int x), some (.int 0), some (.int 11)]) (by decide) rfl rfl rfl (Nat.le_of_ble_eq_true rfl) hD (fun X h => ?_) l
  refine j_iload_n (i := 1) (nx := 1) h ⟨by decide +kernel, rfl⟩ rfl ?_
  have e : (some (ixV x) : Option Int32) = cP (some (if x < 0 ∨ 255 < x then (0 : Int32) else 1)) (fun _ => some (ixV x)) := rfl
  rw [e]
  refine j_callSP h [.int x] (k_can _ G wf n hD m x) okL_can stL_can mlL_88 rfl rfl (by decide) (by decide) (by decide) rfl (nx := 4) ⟨by decide +kernel, rfl⟩ (fun r hr => ?_)
  cases hr
  unfold ixV
  by_cases c : x < 0 ∨ 255 < x
  · rw [if_pos c, if_pos c]
    refine j_if_neB (tgt := 9) (nx := 7) (off := 5) h ⟨by decide +kernel, rfl⟩ (by decide) (fun c => absurd rfl c) (fun _ => ?_)
    refine j_iconst (n := -1) (v := -1) (nx := 8) h ⟨by decide +kernel, rfl⟩ rfl ?_
    exact j_iret (nx := 9) h rfl ⟨by decide +kernel, rfl⟩
  · rw [if_neg c, if_neg c]
    refine j_if_neB (tgt := 9) (nx := 7) (off := 5) h ⟨by decide +kernel, rfl⟩ (by decide) (fun _ => ?_) (fun c => absurd (by decide) c)
    refine j_iload_n (i := 2) (nx := 10) h ⟨by decide +kernel, rfl⟩ rfl ?_
    refine j_iconst (n := 0) (v := 0) (nx := 11) h ⟨by decide +kernel, rfl⟩ rfl ?_
    refine j_mmax h mlL_92 (by decide) rfl (by decide) (nx := 14) ⟨by decide +kernel, rfl⟩ ?_
    refine j_istore_n (i := 2) (nx := 15) h ⟨by decide +kernel, rfl⟩ rfl rfl ?_
    refine j_iload_n (i := 3) (nx := 16) h ⟨by decide +kernel, rfl⟩ rfl ?_
    refine j_aload_n (i := 0) (nx := 17) h ⟨by decide +kernel, rfl⟩ rfl ?_
    refine j_stlen (i := 1) h (by omega) (nx := 18) ⟨by decide +kernel, rfl⟩ ?_
    refine j_mmin h mlL_38 (by decide) rfl (by decide) (nx := 21) ⟨by decide +kernel, rfl⟩ ?_
    refine j_istore_n (i := 3) (nx := 22) h ⟨by decide +kernel, rfl⟩ rfl rfl ?_
    show JR (X, G, wf, n) (cvP m) m 22 [some (.ref (G.2.2 2001)), some (.int x), some (.int 0), some (.int 11)] [] _
    refine j_iload_n (i := 2) (nx := 23) h ⟨by decide +kernel, rfl⟩ rfl ?_
    refine j_iload_n (i := 3) (nx := 24) h ⟨by decide +kernel, rfl⟩ rfl ?_
    refine j_icmp_ltB (tgt := 29) (nx := 27) (off := 5) h ⟨by decide +kernel, rfl⟩ (by decide) (fun _ => ?_) (fun c => absurd (by decide) c)
    refine j_aload_n (i := 0) (nx := 30) h ⟨by decide +kernel, rfl⟩ rfl ?_
    refine j_iload_n (i := 1) (nx := 31) h ⟨by decide +kernel, rfl⟩ rfl ?_
    refine j_iload_n (i := 2) (nx := 32) h ⟨by decide +kernel, rfl⟩ rfl ?_
    refine j_iload_n (i := 3) (nx := 33) h ⟨by decide +kernel, rfl⟩ rfl ?_
    have e : (some (ixS x.toInt8.toInt32 11 0) : Option Int32) = cP (some (ixS x.toInt8.toInt32 11 0)) some := rfl
    rw [e]
    refine j_callSP h [.ref (G.2.2 2001), .int x, .int 0, .int 11] (k_ch _ G wf n hD m x) okL_ch stL_ch mlL_95 rfl rfl (by decide) (by decide) (by decide) rfl (nx := 36) ⟨by decide +kernel, rfl⟩ (fun r hr => ?_)
    exact j_iret (nx := 37) h rfl ⟨by decide +kernel, rfl⟩
theorem k_ix2 (hD : ∀ m, va_D (inA G n) (wf G m)) (m : Mem) (x : Int32) : ∀ a, some (ixV x) = some a → Ct l G wf n yS_ix2 cS_ix2 3 (some .int) 2 [.ref (G.2.2 1001), .int x, .int 0] m (cvP m a) := by
  refine ct_of (own := RS) (ls0 := [some (.ref (G.2.2 1001)), some (.int x), some (.int 0)]) (by decide) rfl rfl rfl (Nat.le_of_ble_eq_true rfl) hD (fun X h => ?_) l
  refine j_aload_n (i := 0) (nx := 1) h ⟨by decide +kernel, rfl⟩ rfl ?_
  have e : (some (ixV x) : Option Int32) = cP (some 1) (fun _ => some (ixV x)) := rfl
  rw [e]
  refine j_callT (i := 1) h (by omega) [] rfl (k_latin _ G wf n hD m (by omega)) okS_latin inS_latin mlS_492 rfl rfl (by decide) (by decide) (by decide) rfl (nx := 4) ⟨by decide +kernel, rfl⟩ (fun r hr => ?_)
  cases hr
  refine j_if_eqB (tgt := 23) (nx := 7) (off := 19) h ⟨by decide +kernel, rfl⟩ (by decide) (fun c => absurd c (by decide)) (fun _ => ?_)
  refine j_aload_n (i := 0) (nx := 8) h ⟨by decide +kernel, rfl⟩ rfl ?_
  refine j_sval (i := 1) h (by omega) lkS_value (nx := 11) ⟨by decide +kernel, rfl⟩ ?_
  refine j_iload_n (i := 1) (nx := 12) h ⟨by decide +kernel, rfl⟩ rfl ?_
  refine j_iload_n (i := 2) (nx := 13) h ⟨by decide +kernel, rfl⟩ rfl ?_
  refine j_aload_n (i := 0) (nx := 14) h ⟨by decide +kernel, rfl⟩ rfl ?_
  have e : (some (ixV x) : Option Int32) = cP (some (Int32.ofNat (([98, 11] : List Nat).getD 1 0))) (fun _ => some (ixV x)) := rfl
  rw [e]
  refine j_callT (i := 1) h (by omega) [] rfl (k_length _ G wf n hD m (by omega)) okS_length inS_length mlS_505 rfl rfl (by decide) (by decide) (Nat.le_of_ble_eq_true rfl) rfl (nx := 17) ⟨by decide +kernel, rfl⟩ (fun r hr => ?_)
  cases hr
  have e : (some (ixV x) : Option Int32) = cP (some (ixV x)) some := rfl
  rw [e]
  refine j_callSP h [.ref (G.2.2 2001), .int x, .int 0, .int 11] (k_ixL _ G wf n hD m x) okL_ix stL_ix mlS_637 rfl rfl (by decide) (by decide) (by decide) rfl (nx := 20) ⟨by decide +kernel, rfl⟩ (fun r hr => ?_)
  refine j_goto (tgt := 36) (off := 16) (nx := 23) h ⟨by decide +kernel, rfl⟩ (by decide) ?_
  exact j_iret (nx := 37) h rfl ⟨by decide +kernel, rfl⟩
theorem k_ix1 (hD : ∀ m, va_D (inA G n) (wf G m)) (m : Mem) (x : Int32) : ∀ a, some (ixV x) = some a → Ct l G wf n yS_ix1 cS_ix1 2 (some .int) 3 [.ref (G.2.2 1001), .int x] m (cvP m a) := by
  refine ct_of (own := RS) (ls0 := [some (.ref (G.2.2 1001)), some (.int x)]) (by decide) rfl rfl rfl (Nat.le_of_ble_eq_true rfl) hD (fun X h => ?_) l
  refine j_aload_n (i := 0) (nx := 1) h ⟨by decide +kernel, rfl⟩ rfl ?_
  refine j_iload_n (i := 1) (nx := 2) h ⟨by decide +kernel, rfl⟩ rfl ?_
  refine j_iconst (n := 0) (v := 0) (nx := 3) h ⟨by decide +kernel, rfl⟩ rfl ?_
  have e : (some (ixV x) : Option Int32) = cP (some (ixV x)) some := rfl
  rw [e]
  refine j_callT (i := 1) h (by omega) [.int x, .int 0] rfl (k_ix2 _ G wf n hD m x) okS_ix2 inS_ix2 mlS_633 rfl rfl (by decide) (by decide) (by decide) rfl (nx := 6) ⟨by decide +kernel, rfl⟩ (fun r hr => ?_)
  exact j_iret (nx := 7) h rfl ⟨by decide +kernel, rfl⟩
/-- charAt -/
theorem k_pchk (hD : ∀ m, va_D (inA G n) (wf G m)) (m : Mem) {x y : Int32} (hx : ¬ x < 0) (hy : x < y) (v : Value) (hv : v = .null ∨ ∃ t, v = .ref t) : ∀ a, some x = some a → Ct l G wf n yP_check cP_check 3 (some .int) 0 [.int x, .int y, v] m (cvP m a) := by
  refine ct_of (own := RPc) (ls0 := [some (.int x), some (.int y), some v]) (by decide) rfl (by rcases hv with rfl | ⟨t, rfl⟩ <;> rfl) rfl (by rcases hv with rfl | ⟨t, rfl⟩ <;> exact Nat.le_of_ble_eq_true rfl) hD (fun X h => ?_) l
  refine j_iload_n (i := 0) (nx := 1) h ⟨by decide +kernel, rfl⟩ rfl ?_
  refine j_if_ltB (tgt := 9) (nx := 4) (off := 8) h ⟨by decide +kernel, rfl⟩ (by decide) (fun c => absurd c hx) (fun _ => ?_)
  refine j_iload_n (i := 0) (nx := 5) h ⟨by decide +kernel, rfl⟩ rfl ?_
  refine j_iload_n (i := 1) (nx := 6) h ⟨by decide +kernel, rfl⟩ rfl ?_
  refine j_icmp_ltB (tgt := 16) (nx := 9) (off := 10) h ⟨by decide +kernel, rfl⟩ (by decide) (fun _ => ?_) (fun c => absurd hy c)
  refine j_iload_n (i := 0) (nx := 17) h ⟨by decide +kernel, rfl⟩ rfl ?_
  exact j_iret (nx := 18) h rfl ⟨by decide +kernel, rfl⟩
theorem k_schk (hD : ∀ m, va_D (inA G n) (wf G m)) (m : Mem) {x y : Int32} (hx : ¬ x < 0) (hy : x < y) : ∀ a, some m = some a → Ct l G wf n yS_check cS_check 2 none 1 [.int x, .int y] m (cvV a) := by
  refine ct_of (own := RS) (ls0 := [some (.int x), some (.int y)]) (by decide) rfl rfl rfl (Nat.le_of_ble_eq_true rfl) hD (fun X h => ?_) l
  refine j_iload_n (i := 0) (nx := 1) h ⟨by decide +kernel, rfl⟩ rfl ?_
  refine j_iload_n (i := 1) (nx := 2) h ⟨by decide +kernel, rfl⟩ rfl ?_
  refine j_sfmt h lkS_fmt (nx := 5) ⟨by decide +kernel, rfl⟩ (fun v hv => ?_)
  have e : (some m : Option Mem) = cP (some x) (fun _ => some m) := rfl
  rw [e]
  refine j_callSP h [.int x, .int y, v] (k_pchk _ G wf n hD m hx hy v hv) okP_check stP_check mlS_1059 rfl rfl (by decide) (by decide) (by decide) rfl (nx := 8) ⟨by decide +kernel, rfl⟩ (fun r hr => ?_)
  refine j_pop (nx := 9) h ⟨by decide +kernel, rfl⟩ rfl ?_
  exact j_vret (nx := 10) h rfl ⟨by decide +kernel, rfl⟩
theorem tx_fit : ∀ j, j < 98 → ((((txB.getD 0 []).getD j 0) &&& 255).toUInt32 % 65536).toInt32 = (txB.getD 0 []).getD j 0 ∧ narrow .char (.int ((txB.getD 0 []).getD j 0)) = .int ((txB.getD 0 []).getD j 0) := by decide +kernel
theorem k_lch (hD : ∀ m, va_D (inA G n) (wf G m)) (m : Mem) {j : Nat} (hj : j < 98) : ∀ a, some ((txB.getD 0 []).getD j 0) = some a → Ct l G wf n yL_charAt cL_charAt 2 (some .char) 2 [.ref (G.2.2 2000), .int (nI j)] m (cvP m a) := by
  refine ct_of (own := RL1) (ls0 := [some (.ref (G.2.2 2000)), some (.int (nI j))]) (by decide) rfl rfl rfl (Nat.le_of_ble_eq_true rfl) hD (fun X h => ?_) l
  refine j_iload_n (i := 1) (nx := 1) h ⟨by decide +kernel, rfl⟩ rfl ?_
  refine j_aload_n (i := 0) (nx := 2) h ⟨by decide +kernel, rfl⟩ rfl ?_
  refine j_stlen (i := 0) h (by omega) (nx := 3) ⟨by decide +kernel, rfl⟩ ?_
  have e : (some ((txB.getD 0 []).getD j 0) : Option Int32) = cV (some m) (fun _ => some ((txB.getD 0 []).getD j 0)) := rfl
  rw [e]
  refine j_callSV h [.int (nI j), .int 98] (k_schk _ G wf n hD m (nI_pos (by omega)) (nI_lt (b := 98) hj (by omega))) okS_check stS_check mlL_9 rfl rfl (by decide) (by decide) (by decide) rfl (nx := 6) ⟨by decide +kernel, rfl⟩ (fun m1 hm1 => ?_)
  cases hm1
  refine j_aload_n (i := 0) (nx := 7) h ⟨by decide +kernel, rfl⟩ rfl ?_
  refine j_iload_n (i := 1) (nx := 8) h ⟨by decide +kernel, rfl⟩ rfl ?_
  refine j_stb (i := 0) (j := j) h (by omega) hj (by omega) (nx := 9) ⟨by decide +kernel, rfl⟩ ?_
  refine j_sipush (n := 255) (v := 255) (nx := 12) h ⟨by decide +kernel, rfl⟩ rfl ?_
  refine j_iand (nx := 13) h ⟨by decide +kernel, rfl⟩ ?_
  refine j_i2c (nx := 14) h ⟨by decide +kernel, rfl⟩ ?_
  rw [(tx_fit j hj).1]
  exact j_tret (nx := 15) h rfl (tx_fit j hj).2 ⟨by decide +kernel, rfl⟩
theorem k_charAt (hD : ∀ m, va_D (inA G n) (wf G m)) (m : Mem) {j : Nat} (hj : j < 98) : ∀ a, some ((txB.getD 0 []).getD j 0) = some a → Ct l G wf n yS_charAt cS_charAt 2 (some .char) 3 [.ref (G.2.2 1000), .int (nI j)] m (cvP m a) := by
  refine ct_of (own := RS) (ls0 := [some (.ref (G.2.2 1000)), some (.int (nI j))]) (by decide) rfl rfl rfl (Nat.le_of_ble_eq_true rfl) hD (fun X h => ?_) l
  refine j_aload_n (i := 0) (nx := 1) h ⟨by decide +kernel, rfl⟩ rfl ?_
  have e : (some ((txB.getD 0 []).getD j 0) : Option Int32) = cP (some 1) (fun _ => some ((txB.getD 0 []).getD j 0)) := rfl
  rw [e]
  refine j_callT (i := 0) h (by omega) [] rfl (k_latin _ G wf n hD m (by omega)) okS_latin inS_latin mlS_492 rfl rfl (by decide) (by decide) (by decide) rfl (nx := 4) ⟨by decide +kernel, rfl⟩ (fun r hr => ?_)
  cases hr
  refine j_if_eqB (tgt := 16) (nx := 7) (off := 12) h ⟨by decide +kernel, rfl⟩ (by decide) (fun c => absurd c (by decide)) (fun _ => ?_)
  refine j_aload_n (i := 0) (nx := 8) h ⟨by decide +kernel, rfl⟩ rfl ?_
  refine j_sval (i := 0) h (by omega) lkS_value (nx := 11) ⟨by decide +kernel, rfl⟩ ?_
  refine j_iload_n (i := 1) (nx := 12) h ⟨by decide +kernel, rfl⟩ rfl ?_
  have e : (some ((txB.getD 0 []).getD j 0) : Option Int32) = cP (some ((txB.getD 0 []).getD j 0)) some := rfl
  rw [e]
  refine j_callSP h [.ref (G.2.2 2000), .int (nI j)] (k_lch _ G wf n hD m hj) okL_charAt stL_charAt mlS_495 rfl rfl (by decide) (by decide) (by decide) rfl (nx := 15) ⟨by decide +kernel, rfl⟩ (fun r hr => ?_)
  cases hr
  exact j_tret (nx := 16) h rfl (tx_fit j hj).2 ⟨by decide +kernel, rfl⟩
end RT1
theorem ix_all : ∀ k, k < 256 → ixS (nI k).toInt8.toInt32 11 0 = (fsigns (nI k)).getD 0 := by decide +kernel
theorem ix_out {x : Int32} (c : x < 0 ∨ 255 < x) {y : Int32} (hy : ¬ y < 0 ∧ ¬ 255 < y) : ¬ x = y := fun z => by
  rw [z] at c
  exact c.elim hy.1 hy.2
theorem ixV_ok (x : Int32) : fsigns x = some (ixV x) := by
  unfold ixV
  by_cases c : x < 0 ∨ 255 < x
  · rw [if_pos c]
    unfold fsigns
    rw [if_neg (ix_out c (by decide)), if_neg (ix_out c (by decide)), if_neg (ix_out c (by decide)), if_neg (ix_out c (by decide)), if_neg (ix_out c (by decide)), if_neg (ix_out c (by decide)), if_neg (ix_out c (by decide)), if_neg (ix_out c (by decide)), if_neg (ix_out c (by decide)), if_neg (ix_out c (by decide)), if_neg (ix_out c (by decide))]
  · rw [if_neg c]
    obtain ⟨j, hj, rfl⟩ := nI_of (x := x) (fun z => c (Or.inl z))
    have hj2 : j < 256 := by
      rcases Nat.lt_or_ge j 256 with q | q
      · exact q
      · exact absurd (Or.inr (nI_lt (a := 255) (b := j) (by omega) hj)) c
    rw [ix_all j hj2]
    rfl
section RS2
variable {α : Type} {X : Cx} {G : Gt} {cc : ByteArray} {own : String} {nL : Nat} {ret : Option FieldType} {lev : Nat} {cv : α → Option Value × Mem} {m : Mem} {pc nx idx : Nat} {ls : List (Option Value)} {st : List Value} {E : Option α}
theorem j_ldcS61 (h : OkX (X, G, wC, nC) cc RX10 nL ret lev) (d : DD cc pc (.ldc 61) 2 nx) (k : JR (X, G, wC, nC) cv m nx ls (.ref (G.2.2 1001) :: st) E) : JR (X, G, wC, nC) cv m pc ls st E := by
  obtain ⟨d, rfl⟩ := d
  intro a ha H locs Ls hP hS hl
  exact va_ldcS h.1 h.2.1 h.2.2.2.2.1 h.2.2.2.2.2.2.2.1.2.2.1 d (k a ha H locs Ls hP hS hl)
theorem j_signs (h : OkX (X, G, wC, nC) cc own nL ret lev) {x : Int32} {K : Int32 → Option α} (hlk : Cond.methodLink own idx ⟨"java/lang/String", "indexOf", "(I)I"⟩ ∈ WT) (hroom : (st.map fun v => v.category).sum ≤ 8) (hnl : ls.length = nL) (hlev : 3 < lev) (d : DD cc pc (.invokevirtual idx) 3 nx) (kk : ∀ r, fsigns x = some r → JR (X, G, wC, nC) cv m nx ls (.int r :: st) (K r)) : JR (X, G, wC, nC) cv m pc ls (.int x :: .ref (G.2.2 1001) :: st) (cP (fsigns x) K) := by
  refine j_callT (i := 1) (F := fsigns x) h (by omega) [.int x] rfl (fun a ha => k_ix1 _ G wC nC h.2.2.2.2.2.2.2.2.2.2 m x a (by rw [← ixV_ok]; exact ha)) okS_ix1 inS_ix1 hlk rfl rfl hlev (by decide) hroom hnl d kk
end RS2
