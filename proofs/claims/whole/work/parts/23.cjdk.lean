/-! ===== the JDK's members that the class calls ===== -/
def imin (x y : Int32) : Int32 := if y < x then y else x
def imax (x y : Int32) : Int32 := if x < y then y else x
def iabs (x : Int32) : Int32 := if 0 ≤ x then x else 0 - x
theorem mw_min : Cond.static Lib.Math.min.name ∈ WT ∧ Cond.code Lib.Math.min.name Lib.Math.min.code 2 (some .int) ∈ WT := ⟨wt_mem 696 (by decide +kernel) rfl, wt_mem 697 (by decide +kernel) rfl⟩
theorem mw_max : Cond.static Lib.Math.max.name ∈ WT ∧ Cond.code Lib.Math.max.name Lib.Math.max.code 2 (some .int) ∈ WT := ⟨wt_mem 693 (by decide +kernel) rfl, wt_mem 694 (by decide +kernel) rfl⟩
theorem mw_abs : Cond.static Lib.Math.abs.name ∈ WT ∧ Cond.code Lib.Math.abs.name Lib.Math.abs.code 1 (some .int) ∈ WT := ⟨wt_mem 945 (by decide +kernel) rfl, wt_mem 946 (by decide +kernel) rfl⟩
theorem mw_ini : Cond.initialized "java/lang/Math" ∈ WT := wt_mem 123 (by decide +kernel) rfl
theorem mw_copy : Cond.native arraycopyName ∈ WT ∧ Cond.static arraycopyName ∈ WT ∧ Cond.initialized "java/lang/System" ∈ WT := ⟨wt_mem 592 (by decide +kernel) rfl, wt_mem 591 (by decide +kernel) rfl, wt_mem 121 (by decide +kernel) rfl⟩
theorem mw_nfw : nativeFrameWords "java/lang/System" "arraycopy" 5 ≤ 40 := by decide +kernel
/-- a part of a row is copied into another one -/
def cpy {β : Type} (m : Mem) (q0 n0 q1 n1 : Nat) (sp dp n : Int32) (K : Mem → Option β) : Option β := if ¬ sp < 0 ∧ ¬ dp < 0 ∧ ¬ n < 0 ∧ sp.toNatClampNeg + n.toNatClampNeg ≤ n0 ∧ dp.toNatClampNeg + n.toNatClampNeg ≤ n1 then K (sW m q1 (va_cpy (m.1 q0) (m.1 q1) sp.toNatClampNeg dp.toNatClampNeg n.toNatClampNeg)) else none
/-- a row is filled -/
def fil (m : Mem) (q n : Nat) (v : Int32) : Mem := sW m q (fun j => if j < n then v else m.1 q j)
section RJ
variable {α : Type} {Z : Zx} {cc : ByteArray} {own : String} {nL : Nat} {ret : Option FieldType} {lev : Nat} {cv : α → Option Value × Mem} {m : Mem} {pc nx idx : Nat} {ls : List (Option Value)} {st : List Value} {E : Option α}
theorem j_mmin (h : OkX Z cc own nL ret lev) {x y : Int32} (hlk : Cond.methodLink own idx Lib.Math.min.name ∈ WT) (hroom : (st.map fun v => v.category).sum ≤ 8) (hnl : ls.length = nL) (hlev : 1 ≤ lev) (d : DD cc pc (.invokestatic idx) 3 nx) (k : JR Z cv m nx ls (.int (imin x y) :: st) E) : JR Z cv m pc ls (.int y :: .int x :: st) E := by
  obtain ⟨d, rfl⟩ := d
  intro a ha H locs Ls hP hS hl
  exact va_mmin h.1 h.2.1 (h.2.2.2.1.trans (hnl.symm.trans hl.1.symm)) h.2.2.2.2.1 (h.2.2.2.2.2.1 _ hlk) (h.2.2.2.2.2.1 _ mw_min.1) (h.2.2.2.2.2.1 _ mw_ini) (h.2.2.2.2.2.1 _ mw_min.2) (by rw [h.2.2.2.2.2.2.2.2.2.1]; exact hlev) (by rw [h.2.2.2.2.2.2.2.2.2.1]; simp only [rmv]; omega) (Nat.zero_le _) (Nat.zero_le _) d (k a ha H locs Ls hP hS hl)
theorem j_mmax (h : OkX Z cc own nL ret lev) {x y : Int32} (hlk : Cond.methodLink own idx Lib.Math.max.name ∈ WT) (hroom : (st.map fun v => v.category).sum ≤ 8) (hnl : ls.length = nL) (hlev : 1 ≤ lev) (d : DD cc pc (.invokestatic idx) 3 nx) (k : JR Z cv m nx ls (.int (imax x y) :: st) E) : JR Z cv m pc ls (.int y :: .int x :: st) E := by
  obtain ⟨d, rfl⟩ := d
  intro a ha H locs Ls hP hS hl
  exact va_mmax h.1 h.2.1 (h.2.2.2.1.trans (hnl.symm.trans hl.1.symm)) h.2.2.2.2.1 (h.2.2.2.2.2.1 _ hlk) (h.2.2.2.2.2.1 _ mw_max.1) (h.2.2.2.2.2.1 _ mw_ini) (h.2.2.2.2.2.1 _ mw_max.2) (by rw [h.2.2.2.2.2.2.2.2.2.1]; exact hlev) (by rw [h.2.2.2.2.2.2.2.2.2.1]; simp only [rmv]; omega) (Nat.zero_le _) (Nat.zero_le _) d (k a ha H locs Ls hP hS hl)
theorem j_mabs (h : OkX Z cc own nL ret lev) {x : Int32} (hlk : Cond.methodLink own idx Lib.Math.abs.name ∈ WT) (hroom : (st.map fun v => v.category).sum ≤ 8) (hnl : ls.length = nL) (hlev : 1 ≤ lev) (d : DD cc pc (.invokestatic idx) 3 nx) (k : JR Z cv m nx ls (.int (iabs x) :: st) E) : JR Z cv m pc ls (.int x :: st) E := by
  obtain ⟨d, rfl⟩ := d
  intro a ha H locs Ls hP hS hl
  exact va_mabs h.1 h.2.1 (h.2.2.2.1.trans (hnl.symm.trans hl.1.symm)) h.2.2.2.2.1 (h.2.2.2.2.2.1 _ hlk) (h.2.2.2.2.2.1 _ mw_abs.1) (h.2.2.2.2.2.1 _ mw_ini) (h.2.2.2.2.2.1 _ mw_abs.2) (by rw [h.2.2.2.2.2.2.2.2.2.1]; exact hlev) (by rw [h.2.2.2.2.2.2.2.2.2.1]; simp only [rmv]; omega) (Nat.zero_le _) (Nat.zero_le _) d (k a ha H locs Ls hP hS hl)
theorem j_copy (h : OkX Z cc own nL ret lev) {q0 q1 n0 n1 a0 a1 : Nat} {sp dp n : Int32} {K : Mem → Option α} (hlk : Cond.methodLink own idx arraycopyName ∈ WT) (he0 : (Z.2.2.1 Z.2.1 m)[q0]? = some (a0, .inl (Z.2.1.2.1.1, n0, .inl (m.1 q0)))) (he1 : (Z.2.2.1 Z.2.1 m)[q1]? = some (a1, .inl (Z.2.1.2.1.1, n1, .inl (m.1 q1)))) (hset : ∀ g, (Z.2.2.1 Z.2.1 m).set q1 (a1, .inl (Z.2.1.2.1.1, n1, .inl g)) = Z.2.2.1 Z.2.1 (sW m q1 g)) (hroom : (st.map fun v => v.category).sum ≤ 8) (hnl : ls.length = nL) (hlev : 1 ≤ lev) (d : DD cc pc (.invokestatic idx) 3 nx) (kk : ∀ m1, m1 = sW m q1 (va_cpy (m.1 q0) (m.1 q1) sp.toNatClampNeg dp.toNatClampNeg n.toNatClampNeg) → JR Z cv m1 nx ls st (K m1)) : JR Z cv m pc ls (.int n :: .int dp :: .ref a1 :: .int sp :: .ref a0 :: st) (cpy m q0 n0 q1 n1 sp dp n K) := by
  obtain ⟨d, rfl⟩ := d
  intro a ha H locs Ls hP hS hl
  unfold cpy at ha
  split at ha
  · rename_i c
    obtain ⟨c1, c2, c3, c4, c5⟩ := c
    have hnf := mw_nfw
    refine va_copyi (ty := .int) h.1 h.2.1 (h.2.2.2.1.trans (hnl.symm.trans hl.1.symm)) h.2.2.2.2.1 (h.2.2.2.2.2.1 _ hlk) (h.2.2.2.2.2.1 _ mw_copy.1) (h.2.2.2.2.2.1 _ mw_copy.2.1) (h.2.2.2.2.2.1 _ mw_copy.2.2) h.2.2.2.2.2.2.1 hP (h.2.2.2.2.2.2.2.2.2.2 m) hS q0 q1 0 0 he0 he1 rfl rfl rfl c1 c2 c3 c4 c5 (fun _ _ => rfl) (by rw [h.2.2.2.2.2.2.2.2.2.1]; exact hlev) (by rw [h.2.2.2.2.2.2.2.2.2.1]; simp only [rmv]; omega) d (fun H1 locs1 hP1 hD1 hS1 => ?_)
    rw [hset] at hP1
    exact kk _ rfl a ha H1 locs1 Ls hP1 hS1 hl
  · cases ha
end RJ
theorem okJ7_fill : mOK yJ7_fill_53178 cJ7_fill_53178 4 none 2 := ⟨wt_mem 125 (by decide +kernel) rfl, wt_mem 855 (by decide +kernel) rfl, by decide +kernel, by decide +kernel, by decide +kernel⟩
theorem stJ7_fill : Cond.static yJ7_fill_53178 ∈ WT := wt_mem 854 (by decide +kernel) rfl
theorem dF_0 : DD cJ7_fill_53178 0 (.iconst 0) 1 1 := ⟨by decide +kernel, rfl⟩
theorem dF_1 : DD cJ7_fill_53178 1 (.istore_n 2) 1 2 := ⟨by decide +kernel, rfl⟩
theorem dF_2 : DD cJ7_fill_53178 2 (.aload_n 0) 1 3 := ⟨by decide +kernel, rfl⟩
theorem dF_3 : DD cJ7_fill_53178 3 .arraylength 1 4 := ⟨by decide +kernel, rfl⟩
theorem dF_4 : DD cJ7_fill_53178 4 (.istore_n 3) 1 5 := ⟨by decide +kernel, rfl⟩
theorem dF_5 : DD cJ7_fill_53178 5 (.iload_n 2) 1 6 := ⟨by decide +kernel, rfl⟩
theorem dF_6 : DD cJ7_fill_53178 6 (.iload_n 3) 1 7 := ⟨by decide +kernel, rfl⟩
theorem dF_7 : DD cJ7_fill_53178 7 (.if_icmp .ge 13) 3 10 := ⟨by decide +kernel, rfl⟩
theorem dF_10 : DD cJ7_fill_53178 10 (.aload_n 0) 1 11 := ⟨by decide +kernel, rfl⟩
theorem dF_11 : DD cJ7_fill_53178 11 (.iload_n 2) 1 12 := ⟨by decide +kernel, rfl⟩
theorem dF_12 : DD cJ7_fill_53178 12 (.iload_n 1) 1 13 := ⟨by decide +kernel, rfl⟩
theorem dF_13 : DD cJ7_fill_53178 13 .iastore 1 14 := ⟨by decide +kernel, rfl⟩
theorem dF_14 : DD cJ7_fill_53178 14 (.iinc 2 1) 3 17 := ⟨by decide +kernel, rfl⟩
theorem dF_17 : DD cJ7_fill_53178 17 (.goto (-12)) 3 20 := ⟨by decide +kernel, rfl⟩
theorem dF_20 : DD cJ7_fill_53178 20 .return_ 1 21 := ⟨by decide +kernel, rfl⟩
/-- how far the filling is -/
def filN (m : Mem) (q i : Nat) (v : Int32) : Mem := sW m q (fun j => if j < i then v else m.1 q j)
theorem filN_0 (m : Mem) (q : Nat) (v : Int32) : filN m q 0 v = m := by
  obtain ⟨a, b⟩ := m
  simp only [filN, sW]
  congr 1
  funext r
  unfold va_up
  split
  · rename_i e; subst e; funext j; simp
  · rfl
theorem filN_s (m : Mem) (q i : Nat) (v : Int32) : sI (filN m q i v) q i v = filN m q (i + 1) v := by
  simp only [filN, sW, sI]
  congr 1
  funext r
  unfold va_up
  by_cases e : r = q
  · subst e
    simp only [if_true]
    funext j
    unfold upd
    by_cases e1 : j = i
    · subst e1; simp
    · simp only [if_neg e1]
      by_cases e2 : j < i
      · rw [if_pos e2, if_pos (by omega)]
      · rw [if_neg e2, if_neg (by omega)]
  · simp [e]
theorem k_fill (l : Launch) (G : Gt) (wf : Wf) (n : Nat) (hD : ∀ m, va_D (inA G n) (wf G m)) (m : Mem) (q len : Nat) (v : Int32) (he : ∀ m, (wf G m)[q]? = some (G.2.2 q, .inl (G.2.1.1, len, .inl (m.1 q)))) (hset : ∀ m g, (wf G m).set q (G.2.2 q, .inl (G.2.1.1, len, .inl g)) = wf G (sW m q g)) (hlen : len < 2 ^ 31) : ∀ a, (some (fil m q len v)) = some a → Ct l G wf n yJ7_fill_53178 cJ7_fill_53178 4 none 1 [.ref (G.2.2 q), .int v] m (cvV a) := by
  refine ct_of (own := RJ7) (ls0 := [some (.ref (G.2.2 q)), some (.int v), none, none]) (by decide) rfl rfl rfl (Nat.le_of_ble_eq_true rfl) hD (fun X h => ?_) l
  have loop : ∀ (k i : Nat), i + k = len → JR (X, G, wf, n) cvV (filN m q i v) 5 [some (.ref (G.2.2 q)), some (.int v), some (.int (nI i)), some (.int (nI len))] [] (some (fil m q len v)) := by
    intro k
    induction k with
    | zero =>
      intro i hi
      have hi : i = len := by omega
      subst hi
      refine j_iload_n h dF_5 rfl ?_
      refine j_iload_n h dF_6 rfl ?_
      refine j_icmp_geB (tgt := 20) h dF_7 (by decide) (fun _ => ?_) (fun c => absurd (nI_le (Nat.le_refl _) hlen) c)
      exact j_vret h rfl dF_20
    | succ k ih =>
      intro i hi
      refine j_iload_n h dF_5 rfl ?_
      refine j_iload_n h dF_6 rfl ?_
      refine j_icmp_geB (tgt := 20) h dF_7 (by decide) (fun c => absurd c (nI_ge (by omega) hlen)) (fun _ => ?_)
      refine j_aload_n h dF_10 rfl ?_
      refine j_iload_n h dF_11 rfl ?_
      refine j_iload_n h dF_12 rfl ?_
      have hw : (some (fil m q len v)) = wr (filN m q i v) q len (nI i) v (fun _ => some (fil m q len v)) := by
        unfold wr
        rw [if_pos (nI_in (by omega) hlen)]
      rw [hw]
      refine j_iast (q0 := q) h (he _) (hset _) dF_13 (fun m1 hm1 => ?_)
      refine j_iinc (v := nI (i + 1)) h dF_14 rfl (nI_succ i).symm rfl ?_
      refine j_goto (tgt := 5) h dF_17 (by decide) ?_
      rw [hm1, nI_clamp (by omega), filN_s]
      exact ih (i + 1) (by omega)
  refine j_iconst (v := nI 0) h dF_0 rfl ?_
  refine j_istore_n h dF_1 rfl rfl ?_
  refine j_aload_n h dF_2 rfl ?_
  refine j_alen (q0 := q) (v := nI len) h (he m) rfl dF_3 ?_
  refine j_istore_n h dF_4 rfl rfl ?_
  have := loop len 0 (by omega)
  rw [filN_0] at this
  exact this
theorem j_fill {α : Type} {Z : Zx} {cc : ByteArray} {own : String} {nL : Nat} {ret : Option FieldType} {lev : Nat} {cv : α → Option Value × Mem} {m : Mem} {pc nx idx : Nat} {ls : List (Option Value)} {st : List Value} (h : OkX Z cc own nL ret lev) {q len : Nat} {v : Int32} {K : Mem → Option α} (hlk : Cond.methodLink own idx yJ7_fill_53178 ∈ WT) (he : ∀ {m}, (Z.2.2.1 Z.2.1 m)[q]? = some (Z.2.1.2.2 q, .inl (Z.2.1.2.1.1, len, .inl (m.1 q)))) (hset : ∀ {m : Mem}, ∀ g, (Z.2.2.1 Z.2.1 m).set q (Z.2.1.2.2 q, .inl (Z.2.1.2.1.1, len, .inl g)) = Z.2.2.1 Z.2.1 (sW m q g)) (hlen : len < 2 ^ 31) (hroom : (st.map fun v => v.category).sum ≤ 8) (hnl : ls.length = nL) (hlev : 1 < lev) (d : DD cc pc (.invokestatic idx) 3 nx) (kk : ∀ m1, m1 = fil m q len v → JR Z cv m1 nx ls st (K m1)) : JR Z cv m pc ls (.int v :: .ref (Z.2.1.2.2 q) :: st) (pt (fil m q len v) K) := by
  have e : pt (fil m q len v) K = cV (some (fil m q len v)) K := rfl
  rw [e]
  refine j_callSV h [.ref (Z.2.1.2.2 q), .int v] (k_fill _ _ _ _ h.2.2.2.2.2.2.2.2.2.2 m q len v (fun m => he) (fun m g => hset g) hlen) okJ7_fill stJ7_fill hlk rfl rfl hlev (by decide) hroom hnl d (fun m1 hm1 => ?_)
  exact kk m1 (Option.some.inj hm1).symm
