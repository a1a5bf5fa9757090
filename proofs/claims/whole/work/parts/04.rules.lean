/-! ===== rules, an instruction each ===== -/
theorem j_iconst {α : Type} {Z : Zx} {cc : ByteArray} {own : String} {nL : Nat} {ret : Option FieldType} {lev : Nat} (h : OkX Z cc own nL ret lev) {cv : α → Option Value × Mem} {m : Mem} {pc nx : Nat} {ls : List (Option Value)} {st : List Value} {E : Option α} {n : Int} {v : Int32} (d : DD cc pc (.iconst n) 1 nx) (hv : Int32.ofInt n = v) (k : JR Z cv m nx ls (.int v :: st) E) : JR Z cv m pc ls (st) E := by
  obtain ⟨d, rfl⟩ := d
  intro a ha H locs Ls hP hS hl
  exact lv_iconst h.1 h.2.1 d hv (k a ha H locs Ls hP hS hl)
theorem j_bipush {α : Type} {Z : Zx} {cc : ByteArray} {own : String} {nL : Nat} {ret : Option FieldType} {lev : Nat} (h : OkX Z cc own nL ret lev) {cv : α → Option Value × Mem} {m : Mem} {pc nx : Nat} {ls : List (Option Value)} {st : List Value} {E : Option α} {n : Int} {v : Int32} (d : DD cc pc (.bipush n) 2 nx) (hv : (Int8.ofInt n).toInt32 = v) (k : JR Z cv m nx ls (.int v :: st) E) : JR Z cv m pc ls (st) E := by
  obtain ⟨d, rfl⟩ := d
  intro a ha H locs Ls hP hS hl
  exact lv_bipush h.1 h.2.1 d hv (k a ha H locs Ls hP hS hl)
theorem j_sipush {α : Type} {Z : Zx} {cc : ByteArray} {own : String} {nL : Nat} {ret : Option FieldType} {lev : Nat} (h : OkX Z cc own nL ret lev) {cv : α → Option Value × Mem} {m : Mem} {pc nx : Nat} {ls : List (Option Value)} {st : List Value} {E : Option α} {n : Int} {v : Int32} (d : DD cc pc (.sipush n) 3 nx) (hv : (Int16.ofInt n).toInt32 = v) (k : JR Z cv m nx ls (.int v :: st) E) : JR Z cv m pc ls (st) E := by
  obtain ⟨d, rfl⟩ := d
  intro a ha H locs Ls hP hS hl
  exact lv_sipush h.1 h.2.1 d hv (k a ha H locs Ls hP hS hl)
theorem j_lconst {α : Type} {Z : Zx} {cc : ByteArray} {own : String} {nL : Nat} {ret : Option FieldType} {lev : Nat} (h : OkX Z cc own nL ret lev) {cv : α → Option Value × Mem} {m : Mem} {pc nx : Nat} {ls : List (Option Value)} {st : List Value} {E : Option α} {n : Fin 2} {v : Int64} (d : DD cc pc (.lconst n) 1 nx) (hv : Int64.ofNat (n : Nat) = v) (k : JR Z cv m nx ls (.long v :: st) E) : JR Z cv m pc ls (st) E := by
  obtain ⟨d, rfl⟩ := d
  intro a ha H locs Ls hP hS hl
  exact lv_lconst h.1 h.2.1 d hv (k a ha H locs Ls hP hS hl)
theorem j_ldc {α : Type} {Z : Zx} {cc : ByteArray} {own : String} {nL : Nat} {ret : Option FieldType} {lev : Nat} (h : OkX Z cc own nL ret lev) {cv : α → Option Value × Mem} {m : Mem} {pc nx : Nat} {ls : List (Option Value)} {st : List Value} {E : Option α} {idx : Nat} {v : Int32} (d : DD cc pc (.ldc idx) 2 nx) (hw : Cond.constant own idx v ∈ WT) (k : JR Z cv m nx ls (.int v :: st) E) : JR Z cv m pc ls (st) E := by
  obtain ⟨d, rfl⟩ := d
  intro a ha H locs Ls hP hS hl
  exact lv_ldc h.1 h.2.1 h.2.2.2.2.1 (h.2.2.2.2.2.1 _ hw) d (k a ha H locs Ls hP hS hl)
theorem j_ldc2 {α : Type} {Z : Zx} {cc : ByteArray} {own : String} {nL : Nat} {ret : Option FieldType} {lev : Nat} (h : OkX Z cc own nL ret lev) {cv : α → Option Value × Mem} {m : Mem} {pc nx : Nat} {ls : List (Option Value)} {st : List Value} {E : Option α} {idx : Nat} {v : Int64} (d : DD cc pc (.ldc2_w idx) 3 nx) (hw : Cond.constantLong own idx v ∈ WT) (k : JR Z cv m nx ls (.long v :: st) E) : JR Z cv m pc ls (st) E := by
  obtain ⟨d, rfl⟩ := d
  intro a ha H locs Ls hP hS hl
  exact lv_ldc2 h.1 h.2.1 h.2.2.2.2.1 (h.2.2.2.2.2.1 _ hw) d (k a ha H locs Ls hP hS hl)
theorem j_iload_n {α : Type} {Z : Zx} {cc : ByteArray} {own : String} {nL : Nat} {ret : Option FieldType} {lev : Nat} (h : OkX Z cc own nL ret lev) {cv : α → Option Value × Mem} {m : Mem} {pc nx : Nat} {ls : List (Option Value)} {st : List Value} {E : Option α} {i : Fin 4} {x : Int32} (d : DD cc pc (.iload_n i) 1 nx) (hi : ls[(i : Nat)]? = some (some (.int x))) (k : JR Z cv m nx ls (.int x :: st) E) : JR Z cv m pc ls (st) E := by
  obtain ⟨d, rfl⟩ := d
  intro a ha H locs Ls hP hS hl
  exact lv_iload_n h.1 h.2.1 d rfl (lO_at hl hi) (k a ha H locs Ls hP hS hl)
theorem j_iload {α : Type} {Z : Zx} {cc : ByteArray} {own : String} {nL : Nat} {ret : Option FieldType} {lev : Nat} (h : OkX Z cc own nL ret lev) {cv : α → Option Value × Mem} {m : Mem} {pc nx : Nat} {ls : List (Option Value)} {st : List Value} {E : Option α} {i : Nat} {x : Int32} (d : DD cc pc (.iload i) 2 nx) (hi : ls[i]? = some (some (.int x))) (k : JR Z cv m nx ls (.int x :: st) E) : JR Z cv m pc ls (st) E := by
  obtain ⟨d, rfl⟩ := d
  intro a ha H locs Ls hP hS hl
  exact lv_iload h.1 h.2.1 d (lO_at hl hi) (k a ha H locs Ls hP hS hl)
theorem j_lload_n {α : Type} {Z : Zx} {cc : ByteArray} {own : String} {nL : Nat} {ret : Option FieldType} {lev : Nat} (h : OkX Z cc own nL ret lev) {cv : α → Option Value × Mem} {m : Mem} {pc nx : Nat} {ls : List (Option Value)} {st : List Value} {E : Option α} {i : Fin 4} {x : Int64} (d : DD cc pc (.lload_n i) 1 nx) (hi : ls[(i : Nat)]? = some (some (.long x))) (k : JR Z cv m nx ls (.long x :: st) E) : JR Z cv m pc ls (st) E := by
  obtain ⟨d, rfl⟩ := d
  intro a ha H locs Ls hP hS hl
  exact lv_lload_n h.1 h.2.1 d rfl (lO_at hl hi) (k a ha H locs Ls hP hS hl)
theorem j_lload {α : Type} {Z : Zx} {cc : ByteArray} {own : String} {nL : Nat} {ret : Option FieldType} {lev : Nat} (h : OkX Z cc own nL ret lev) {cv : α → Option Value × Mem} {m : Mem} {pc nx : Nat} {ls : List (Option Value)} {st : List Value} {E : Option α} {i : Nat} {x : Int64} (d : DD cc pc (.lload i) 2 nx) (hi : ls[i]? = some (some (.long x))) (k : JR Z cv m nx ls (.long x :: st) E) : JR Z cv m pc ls (st) E := by
  obtain ⟨d, rfl⟩ := d
  intro a ha H locs Ls hP hS hl
  exact lv_lload h.1 h.2.1 d (lO_at hl hi) (k a ha H locs Ls hP hS hl)
theorem j_aload_n {α : Type} {Z : Zx} {cc : ByteArray} {own : String} {nL : Nat} {ret : Option FieldType} {lev : Nat} (h : OkX Z cc own nL ret lev) {cv : α → Option Value × Mem} {m : Mem} {pc nx : Nat} {ls : List (Option Value)} {st : List Value} {E : Option α} {i : Fin 4} {x : Nat} (d : DD cc pc (.aload_n i) 1 nx) (hi : ls[(i : Nat)]? = some (some (.ref x))) (k : JR Z cv m nx ls (.ref x :: st) E) : JR Z cv m pc ls (st) E := by
  obtain ⟨d, rfl⟩ := d
  intro a ha H locs Ls hP hS hl
  exact lv_aload_n h.1 h.2.1 d rfl (lO_at hl hi) (k a ha H locs Ls hP hS hl)
theorem j_aload {α : Type} {Z : Zx} {cc : ByteArray} {own : String} {nL : Nat} {ret : Option FieldType} {lev : Nat} (h : OkX Z cc own nL ret lev) {cv : α → Option Value × Mem} {m : Mem} {pc nx : Nat} {ls : List (Option Value)} {st : List Value} {E : Option α} {i : Nat} {x : Nat} (d : DD cc pc (.aload i) 2 nx) (hi : ls[i]? = some (some (.ref x))) (k : JR Z cv m nx ls (.ref x :: st) E) : JR Z cv m pc ls (st) E := by
  obtain ⟨d, rfl⟩ := d
  intro a ha H locs Ls hP hS hl
  exact lv_aload h.1 h.2.1 d (lO_at hl hi) (k a ha H locs Ls hP hS hl)
theorem j_istore_n {α : Type} {Z : Zx} {cc : ByteArray} {own : String} {nL : Nat} {ret : Option FieldType} {lev : Nat} (h : OkX Z cc own nL ret lev) {cv : α → Option Value × Mem} {m : Mem} {pc nx : Nat} {ls : List (Option Value)} {st : List Value} {E : Option α} {i : Fin 4} {x : Int32} {o : Option Value} (d : DD cc pc (.istore_n i) 1 nx) (hi : ls[(i : Nat)]? = some o) (hc : c2at ls (i : Nat) = false) (k : JR Z cv m nx (ls.set (i : Nat) (some (.int x))) st E) : JR Z cv m pc ls (.int x :: st) E := by
  obtain ⟨d, rfl⟩ := d
  intro a ha H locs Ls hP hS hl
  exact lv_istore_n h.1 h.2.1 d rfl hl (List.getElem?_eq_some_iff.mp hi).1 rfl (fun Ls hl2 => k a ha H locs Ls hP hS (lO_set hi hc hl2))
theorem j_istore {α : Type} {Z : Zx} {cc : ByteArray} {own : String} {nL : Nat} {ret : Option FieldType} {lev : Nat} (h : OkX Z cc own nL ret lev) {cv : α → Option Value × Mem} {m : Mem} {pc nx : Nat} {ls : List (Option Value)} {st : List Value} {E : Option α} {i : Nat} {x : Int32} {o : Option Value} (d : DD cc pc (.istore i) 2 nx) (hi : ls[i]? = some o) (hc : c2at ls i = false) (k : JR Z cv m nx (ls.set i (some (.int x))) st E) : JR Z cv m pc ls (.int x :: st) E := by
  obtain ⟨d, rfl⟩ := d
  intro a ha H locs Ls hP hS hl
  exact lv_istore h.1 h.2.1 d hl (List.getElem?_eq_some_iff.mp hi).1 rfl (fun Ls hl2 => k a ha H locs Ls hP hS (lO_set hi hc hl2))
theorem j_astore_n {α : Type} {Z : Zx} {cc : ByteArray} {own : String} {nL : Nat} {ret : Option FieldType} {lev : Nat} (h : OkX Z cc own nL ret lev) {cv : α → Option Value × Mem} {m : Mem} {pc nx : Nat} {ls : List (Option Value)} {st : List Value} {E : Option α} {i : Fin 4} {x : Nat} {o : Option Value} (d : DD cc pc (.astore_n i) 1 nx) (hi : ls[(i : Nat)]? = some o) (hc : c2at ls (i : Nat) = false) (k : JR Z cv m nx (ls.set (i : Nat) (some (.ref x))) st E) : JR Z cv m pc ls (.ref x :: st) E := by
  obtain ⟨d, rfl⟩ := d
  intro a ha H locs Ls hP hS hl
  exact lv_astore_n h.1 h.2.1 d rfl hl (List.getElem?_eq_some_iff.mp hi).1 rfl (fun Ls hl2 => k a ha H locs Ls hP hS (lO_set hi hc hl2))
theorem j_astore {α : Type} {Z : Zx} {cc : ByteArray} {own : String} {nL : Nat} {ret : Option FieldType} {lev : Nat} (h : OkX Z cc own nL ret lev) {cv : α → Option Value × Mem} {m : Mem} {pc nx : Nat} {ls : List (Option Value)} {st : List Value} {E : Option α} {i : Nat} {x : Nat} {o : Option Value} (d : DD cc pc (.astore i) 2 nx) (hi : ls[i]? = some o) (hc : c2at ls i = false) (k : JR Z cv m nx (ls.set i (some (.ref x))) st E) : JR Z cv m pc ls (.ref x :: st) E := by
  obtain ⟨d, rfl⟩ := d
  intro a ha H locs Ls hP hS hl
  exact lv_astore h.1 h.2.1 d hl (List.getElem?_eq_some_iff.mp hi).1 rfl (fun Ls hl2 => k a ha H locs Ls hP hS (lO_set hi hc hl2))
theorem j_iinc {α : Type} {Z : Zx} {cc : ByteArray} {own : String} {nL : Nat} {ret : Option FieldType} {lev : Nat} (h : OkX Z cc own nL ret lev) {cv : α → Option Value × Mem} {m : Mem} {pc nx : Nat} {ls : List (Option Value)} {st : List Value} {E : Option α} {i : Nat} {n : Int} {x v : Int32} (d : DD cc pc (.iinc i n) 3 nx) (hi : ls[i]? = some (some (.int x))) (hv : x + Int32.ofInt n = v) (hc : c2at ls i = false) (k : JR Z cv m nx (ls.set i (some (.int v))) st E) : JR Z cv m pc ls st E := by
  obtain ⟨d, rfl⟩ := d
  intro a ha H locs Ls hP hS hl
  obtain ⟨kk, hk⟩ := List.getElem?_of_mem ((aL_mem ls 0 i (.int x)).mpr ⟨i, by omega, hi⟩)
  exact lv_iinc h.1 h.2.1 d hl hk hv (List.getElem?_eq_some_iff.mp hi).1 rfl (fun Ls hl2 => k a ha H locs Ls hP hS (lO_set hi hc hl2))
theorem j_iadd {α : Type} {Z : Zx} {cc : ByteArray} {own : String} {nL : Nat} {ret : Option FieldType} {lev : Nat} (h : OkX Z cc own nL ret lev) {cv : α → Option Value × Mem} {m : Mem} {pc nx : Nat} {ls : List (Option Value)} {st : List Value} {E : Option α} {x y : Int32} (d : DD cc pc (.iadd) 1 nx) (k : JR Z cv m nx ls (.int (x + y) :: st) E) : JR Z cv m pc ls (.int y :: .int x :: st) E := by
  obtain ⟨d, rfl⟩ := d
  intro a ha H locs Ls hP hS hl
  exact lv_iadd h.1 h.2.1 d (k a ha H locs Ls hP hS hl)
theorem j_isub {α : Type} {Z : Zx} {cc : ByteArray} {own : String} {nL : Nat} {ret : Option FieldType} {lev : Nat} (h : OkX Z cc own nL ret lev) {cv : α → Option Value × Mem} {m : Mem} {pc nx : Nat} {ls : List (Option Value)} {st : List Value} {E : Option α} {x y : Int32} (d : DD cc pc (.isub) 1 nx) (k : JR Z cv m nx ls (.int (x - y) :: st) E) : JR Z cv m pc ls (.int y :: .int x :: st) E := by
  obtain ⟨d, rfl⟩ := d
  intro a ha H locs Ls hP hS hl
  exact lv_isub h.1 h.2.1 d (k a ha H locs Ls hP hS hl)
theorem j_imul {α : Type} {Z : Zx} {cc : ByteArray} {own : String} {nL : Nat} {ret : Option FieldType} {lev : Nat} (h : OkX Z cc own nL ret lev) {cv : α → Option Value × Mem} {m : Mem} {pc nx : Nat} {ls : List (Option Value)} {st : List Value} {E : Option α} {x y : Int32} (d : DD cc pc (.imul) 1 nx) (k : JR Z cv m nx ls (.int (x * y) :: st) E) : JR Z cv m pc ls (.int y :: .int x :: st) E := by
  obtain ⟨d, rfl⟩ := d
  intro a ha H locs Ls hP hS hl
  exact lv_imul h.1 h.2.1 d (k a ha H locs Ls hP hS hl)
theorem j_iand {α : Type} {Z : Zx} {cc : ByteArray} {own : String} {nL : Nat} {ret : Option FieldType} {lev : Nat} (h : OkX Z cc own nL ret lev) {cv : α → Option Value × Mem} {m : Mem} {pc nx : Nat} {ls : List (Option Value)} {st : List Value} {E : Option α} {x y : Int32} (d : DD cc pc (.iand) 1 nx) (k : JR Z cv m nx ls (.int (x &&& y) :: st) E) : JR Z cv m pc ls (.int y :: .int x :: st) E := by
  obtain ⟨d, rfl⟩ := d
  intro a ha H locs Ls hP hS hl
  exact lv_iand h.1 h.2.1 d (k a ha H locs Ls hP hS hl)
theorem j_ior {α : Type} {Z : Zx} {cc : ByteArray} {own : String} {nL : Nat} {ret : Option FieldType} {lev : Nat} (h : OkX Z cc own nL ret lev) {cv : α → Option Value × Mem} {m : Mem} {pc nx : Nat} {ls : List (Option Value)} {st : List Value} {E : Option α} {x y : Int32} (d : DD cc pc (.ior) 1 nx) (k : JR Z cv m nx ls (.int (x ||| y) :: st) E) : JR Z cv m pc ls (.int y :: .int x :: st) E := by
  obtain ⟨d, rfl⟩ := d
  intro a ha H locs Ls hP hS hl
  exact lv_ior h.1 h.2.1 d (k a ha H locs Ls hP hS hl)
theorem j_ixor {α : Type} {Z : Zx} {cc : ByteArray} {own : String} {nL : Nat} {ret : Option FieldType} {lev : Nat} (h : OkX Z cc own nL ret lev) {cv : α → Option Value × Mem} {m : Mem} {pc nx : Nat} {ls : List (Option Value)} {st : List Value} {E : Option α} {x y : Int32} (d : DD cc pc (.ixor) 1 nx) (k : JR Z cv m nx ls (.int (x ^^^ y) :: st) E) : JR Z cv m pc ls (.int y :: .int x :: st) E := by
  obtain ⟨d, rfl⟩ := d
  intro a ha H locs Ls hP hS hl
  exact lv_ixor h.1 h.2.1 d (k a ha H locs Ls hP hS hl)
theorem j_ishl {α : Type} {Z : Zx} {cc : ByteArray} {own : String} {nL : Nat} {ret : Option FieldType} {lev : Nat} (h : OkX Z cc own nL ret lev) {cv : α → Option Value × Mem} {m : Mem} {pc nx : Nat} {ls : List (Option Value)} {st : List Value} {E : Option α} {x y : Int32} (d : DD cc pc (.ishl) 1 nx) (k : JR Z cv m nx ls (.int (x <<< (y &&& 31)) :: st) E) : JR Z cv m pc ls (.int y :: .int x :: st) E := by
  obtain ⟨d, rfl⟩ := d
  intro a ha H locs Ls hP hS hl
  exact lv_ishl h.1 h.2.1 d (k a ha H locs Ls hP hS hl)
theorem j_ishr {α : Type} {Z : Zx} {cc : ByteArray} {own : String} {nL : Nat} {ret : Option FieldType} {lev : Nat} (h : OkX Z cc own nL ret lev) {cv : α → Option Value × Mem} {m : Mem} {pc nx : Nat} {ls : List (Option Value)} {st : List Value} {E : Option α} {x y : Int32} (d : DD cc pc (.ishr) 1 nx) (k : JR Z cv m nx ls (.int (x >>> (y &&& 31)) :: st) E) : JR Z cv m pc ls (.int y :: .int x :: st) E := by
  obtain ⟨d, rfl⟩ := d
  intro a ha H locs Ls hP hS hl
  exact lv_ishr h.1 h.2.1 d (k a ha H locs Ls hP hS hl)
theorem j_ladd {α : Type} {Z : Zx} {cc : ByteArray} {own : String} {nL : Nat} {ret : Option FieldType} {lev : Nat} (h : OkX Z cc own nL ret lev) {cv : α → Option Value × Mem} {m : Mem} {pc nx : Nat} {ls : List (Option Value)} {st : List Value} {E : Option α} {x y : Int64} (d : DD cc pc (.ladd) 1 nx) (k : JR Z cv m nx ls (.long (x + y) :: st) E) : JR Z cv m pc ls (.long y :: .long x :: st) E := by
  obtain ⟨d, rfl⟩ := d
  intro a ha H locs Ls hP hS hl
  exact lv_ladd h.1 h.2.1 d (k a ha H locs Ls hP hS hl)
theorem j_lsub {α : Type} {Z : Zx} {cc : ByteArray} {own : String} {nL : Nat} {ret : Option FieldType} {lev : Nat} (h : OkX Z cc own nL ret lev) {cv : α → Option Value × Mem} {m : Mem} {pc nx : Nat} {ls : List (Option Value)} {st : List Value} {E : Option α} {x y : Int64} (d : DD cc pc (.lsub) 1 nx) (k : JR Z cv m nx ls (.long (x - y) :: st) E) : JR Z cv m pc ls (.long y :: .long x :: st) E := by
  obtain ⟨d, rfl⟩ := d
  intro a ha H locs Ls hP hS hl
  exact lv_lsub h.1 h.2.1 d (k a ha H locs Ls hP hS hl)
theorem j_lmul {α : Type} {Z : Zx} {cc : ByteArray} {own : String} {nL : Nat} {ret : Option FieldType} {lev : Nat} (h : OkX Z cc own nL ret lev) {cv : α → Option Value × Mem} {m : Mem} {pc nx : Nat} {ls : List (Option Value)} {st : List Value} {E : Option α} {x y : Int64} (d : DD cc pc (.lmul) 1 nx) (k : JR Z cv m nx ls (.long (x * y) :: st) E) : JR Z cv m pc ls (.long y :: .long x :: st) E := by
  obtain ⟨d, rfl⟩ := d
  intro a ha H locs Ls hP hS hl
  exact lv_lmul h.1 h.2.1 d (k a ha H locs Ls hP hS hl)
theorem j_lor {α : Type} {Z : Zx} {cc : ByteArray} {own : String} {nL : Nat} {ret : Option FieldType} {lev : Nat} (h : OkX Z cc own nL ret lev) {cv : α → Option Value × Mem} {m : Mem} {pc nx : Nat} {ls : List (Option Value)} {st : List Value} {E : Option α} {x y : Int64} (d : DD cc pc (.lor) 1 nx) (k : JR Z cv m nx ls (.long (x ||| y) :: st) E) : JR Z cv m pc ls (.long y :: .long x :: st) E := by
  obtain ⟨d, rfl⟩ := d
  intro a ha H locs Ls hP hS hl
  exact lv_lor h.1 h.2.1 d (k a ha H locs Ls hP hS hl)
theorem j_land {α : Type} {Z : Zx} {cc : ByteArray} {own : String} {nL : Nat} {ret : Option FieldType} {lev : Nat} (h : OkX Z cc own nL ret lev) {cv : α → Option Value × Mem} {m : Mem} {pc nx : Nat} {ls : List (Option Value)} {st : List Value} {E : Option α} {x y : Int64} (d : DD cc pc (.land) 1 nx) (k : JR Z cv m nx ls (.long (x &&& y) :: st) E) : JR Z cv m pc ls (.long y :: .long x :: st) E := by
  obtain ⟨d, rfl⟩ := d
  intro a ha H locs Ls hP hS hl
  exact lv_land h.1 h.2.1 d (k a ha H locs Ls hP hS hl)
theorem j_ineg {α : Type} {Z : Zx} {cc : ByteArray} {own : String} {nL : Nat} {ret : Option FieldType} {lev : Nat} (h : OkX Z cc own nL ret lev) {cv : α → Option Value × Mem} {m : Mem} {pc nx : Nat} {ls : List (Option Value)} {st : List Value} {E : Option α} {x : Int32} (d : DD cc pc (.ineg) 1 nx) (k : JR Z cv m nx ls (.int (-x) :: st) E) : JR Z cv m pc ls (.int x :: st) E := by
  obtain ⟨d, rfl⟩ := d
  intro a ha H locs Ls hP hS hl
  exact lv_ineg h.1 h.2.1 d (k a ha H locs Ls hP hS hl)
theorem j_lcmp {α : Type} {Z : Zx} {cc : ByteArray} {own : String} {nL : Nat} {ret : Option FieldType} {lev : Nat} (h : OkX Z cc own nL ret lev) {cv : α → Option Value × Mem} {m : Mem} {pc nx : Nat} {ls : List (Option Value)} {st : List Value} {E : Option α} {x y : Int64} (d : DD cc pc (.lcmp) 1 nx) (k : JR Z cv m nx ls (.int (lg_cmp x y) :: st) E) : JR Z cv m pc ls (.long y :: .long x :: st) E := by
  obtain ⟨d, rfl⟩ := d
  intro a ha H locs Ls hP hS hl
  exact W.lcmp h.1 h.2.1 d (k a ha H locs Ls hP hS hl)
theorem j_i2l {α : Type} {Z : Zx} {cc : ByteArray} {own : String} {nL : Nat} {ret : Option FieldType} {lev : Nat} (h : OkX Z cc own nL ret lev) {cv : α → Option Value × Mem} {m : Mem} {pc nx : Nat} {ls : List (Option Value)} {st : List Value} {E : Option α} {x : Int32} (d : DD cc pc (.i2l) 1 nx) (k : JR Z cv m nx ls (.long x.toInt64 :: st) E) : JR Z cv m pc ls (.int x :: st) E := by
  obtain ⟨d, rfl⟩ := d
  intro a ha H locs Ls hP hS hl
  exact lv_i2l h.1 h.2.1 d rfl (k a ha H locs Ls hP hS hl)
theorem j_l2i {α : Type} {Z : Zx} {cc : ByteArray} {own : String} {nL : Nat} {ret : Option FieldType} {lev : Nat} (h : OkX Z cc own nL ret lev) {cv : α → Option Value × Mem} {m : Mem} {pc nx : Nat} {ls : List (Option Value)} {st : List Value} {E : Option α} {x : Int64} (d : DD cc pc (.l2i) 1 nx) (k : JR Z cv m nx ls (.int x.toInt32 :: st) E) : JR Z cv m pc ls (.long x :: st) E := by
  obtain ⟨d, rfl⟩ := d
  intro a ha H locs Ls hP hS hl
  exact lv_l2i h.1 h.2.1 d rfl (k a ha H locs Ls hP hS hl)
theorem j_i2b {α : Type} {Z : Zx} {cc : ByteArray} {own : String} {nL : Nat} {ret : Option FieldType} {lev : Nat} (h : OkX Z cc own nL ret lev) {cv : α → Option Value × Mem} {m : Mem} {pc nx : Nat} {ls : List (Option Value)} {st : List Value} {E : Option α} {x : Int32} (d : DD cc pc (.i2b) 1 nx) (k : JR Z cv m nx ls (.int x.toInt8.toInt32 :: st) E) : JR Z cv m pc ls (.int x :: st) E := by
  obtain ⟨d, rfl⟩ := d
  intro a ha H locs Ls hP hS hl
  exact lv_i2b h.1 h.2.1 d rfl (k a ha H locs Ls hP hS hl)
theorem j_i2c {α : Type} {Z : Zx} {cc : ByteArray} {own : String} {nL : Nat} {ret : Option FieldType} {lev : Nat} (h : OkX Z cc own nL ret lev) {cv : α → Option Value × Mem} {m : Mem} {pc nx : Nat} {ls : List (Option Value)} {st : List Value} {E : Option α} {x : Int32} (d : DD cc pc (.i2c) 1 nx) (k : JR Z cv m nx ls (.int (x.toUInt32 % 65536).toInt32 :: st) E) : JR Z cv m pc ls (.int x :: st) E := by
  obtain ⟨d, rfl⟩ := d
  intro a ha H locs Ls hP hS hl
  exact lv_i2c h.1 h.2.1 d rfl (k a ha H locs Ls hP hS hl)
theorem j_iushr {α : Type} {Z : Zx} {cc : ByteArray} {own : String} {nL : Nat} {ret : Option FieldType} {lev : Nat} (h : OkX Z cc own nL ret lev) {cv : α → Option Value × Mem} {m : Mem} {pc nx : Nat} {ls : List (Option Value)} {st : List Value} {E : Option α} {x y : Int32} (d : DD cc pc (.iushr) 1 nx) (k : JR Z cv m nx ls (.int (x.toUInt32 >>> (y.toUInt32 &&& Int32.toUInt32 31)).toInt32 :: st) E) : JR Z cv m pc ls (.int y :: .int x :: st) E := by
  obtain ⟨d, rfl⟩ := d
  intro a ha H locs Ls hP hS hl
  exact lv_iushr h.1 h.2.1 d rfl (k a ha H locs Ls hP hS hl)
theorem j_lshl {α : Type} {Z : Zx} {cc : ByteArray} {own : String} {nL : Nat} {ret : Option FieldType} {lev : Nat} (h : OkX Z cc own nL ret lev) {cv : α → Option Value × Mem} {m : Mem} {pc nx : Nat} {ls : List (Option Value)} {st : List Value} {E : Option α} {x : Int64} {y : Int32} (d : DD cc pc (.lshl) 1 nx) (k : JR Z cv m nx ls (.long (x <<< (y.toInt64 &&& 63)) :: st) E) : JR Z cv m pc ls (.int y :: .long x :: st) E := by
  obtain ⟨d, rfl⟩ := d
  intro a ha H locs Ls hP hS hl
  exact lv_lshl h.1 h.2.1 d rfl (k a ha H locs Ls hP hS hl)
theorem j_dup {α : Type} {Z : Zx} {cc : ByteArray} {own : String} {nL : Nat} {ret : Option FieldType} {lev : Nat} (h : OkX Z cc own nL ret lev) {cv : α → Option Value × Mem} {m : Mem} {pc nx : Nat} {ls : List (Option Value)} {st : List Value} {E : Option α} {v : Value} (d : DD cc pc (.dup) 1 nx) (hv : v.category = 1) (k : JR Z cv m nx ls (v :: v :: st) E) : JR Z cv m pc ls (v :: st) E := by
  obtain ⟨d, rfl⟩ := d
  intro a ha H locs Ls hP hS hl
  exact lv_dup h.1 h.2.1 d hv (k a ha H locs Ls hP hS hl)
theorem j_pop {α : Type} {Z : Zx} {cc : ByteArray} {own : String} {nL : Nat} {ret : Option FieldType} {lev : Nat} (h : OkX Z cc own nL ret lev) {cv : α → Option Value × Mem} {m : Mem} {pc nx : Nat} {ls : List (Option Value)} {st : List Value} {E : Option α} {v : Value} (d : DD cc pc (.pop) 1 nx) (hv : v.category = 1) (k : JR Z cv m nx ls (st) E) : JR Z cv m pc ls (v :: st) E := by
  obtain ⟨d, rfl⟩ := d
  intro a ha H locs Ls hP hS hl
  exact lv_pop h.1 h.2.1 d hv (k a ha H locs Ls hP hS hl)
theorem j_dup2 {α : Type} {Z : Zx} {cc : ByteArray} {own : String} {nL : Nat} {ret : Option FieldType} {lev : Nat} (h : OkX Z cc own nL ret lev) {cv : α → Option Value × Mem} {m : Mem} {pc nx : Nat} {ls : List (Option Value)} {st : List Value} {E : Option α} {v w : Value} (d : DD cc pc (.dup2) 1 nx) (hv : v.category = 1) (hw : w.category = 1) (k : JR Z cv m nx ls (v :: w :: v :: w :: st) E) : JR Z cv m pc ls (v :: w :: st) E := by
  obtain ⟨d, rfl⟩ := d
  intro a ha H locs Ls hP hS hl
  exact lv_dup2_11 h.1 h.2.1 d hv hw (k a ha H locs Ls hP hS hl)
theorem j_dupx1 {α : Type} {Z : Zx} {cc : ByteArray} {own : String} {nL : Nat} {ret : Option FieldType} {lev : Nat} (h : OkX Z cc own nL ret lev) {cv : α → Option Value × Mem} {m : Mem} {pc nx : Nat} {ls : List (Option Value)} {st : List Value} {E : Option α} {v w : Value} (d : DD cc pc (.dup_x1) 1 nx) (hv : v.category = 1) (hw : w.category = 1) (k : JR Z cv m nx ls (v :: w :: v :: st) E) : JR Z cv m pc ls (v :: w :: st) E := by
  obtain ⟨d, rfl⟩ := d
  intro a ha H locs Ls hP hS hl
  exact lv_dup_x1 h.1 h.2.1 d hv hw (k a ha H locs Ls hP hS hl)
theorem j_dupx2 {α : Type} {Z : Zx} {cc : ByteArray} {own : String} {nL : Nat} {ret : Option FieldType} {lev : Nat} (h : OkX Z cc own nL ret lev) {cv : α → Option Value × Mem} {m : Mem} {pc nx : Nat} {ls : List (Option Value)} {st : List Value} {E : Option α} {v w z : Value} (d : DD cc pc (.dup_x2) 1 nx) (hv : v.category = 1) (hw : w.category = 1) (hz : z.category = 1) (k : JR Z cv m nx ls (v :: w :: z :: v :: st) E) : JR Z cv m pc ls (v :: w :: z :: st) E := by
  obtain ⟨d, rfl⟩ := d
  intro a ha H locs Ls hP hS hl
  exact lv_dup_x2 h.1 h.2.1 d hv hw hz (k a ha H locs Ls hP hS hl)
theorem j_icmp_eqB {α : Type} {Z : Zx} {cc : ByteArray} {own : String} {nL : Nat} {ret : Option FieldType} {lev : Nat} (h : OkX Z cc own nL ret lev) {cv : α → Option Value × Mem} {m : Mem} {pc nx : Nat} {ls : List (Option Value)} {st : List Value} {E : Option α} {x y : Int32} {off : Int} {tgt : Nat} (d : DD cc pc (.if_icmp .eq off) 3 nx) (ht : (pc : Int) + off = (tgt : Int)) (kt : x = y → JR Z cv m tgt ls st E) (kf : ¬ (x = y) → JR Z cv m nx ls st E) : JR Z cv m pc ls (.int y :: .int x :: st) E := by
  obtain ⟨d, rfl⟩ := d
  intro a ha H locs Ls hP hS hl
  exact lv_icmp_eq h.1 h.2.1 d ht (fun c => kt c a ha H locs Ls hP hS hl) (fun c => kf (by simpa using c) a ha H locs Ls hP hS hl)
theorem j_icmp_eq {α : Type} {Z : Zx} {cc : ByteArray} {own : String} {nL : Nat} {ret : Option FieldType} {lev : Nat} (h : OkX Z cc own nL ret lev) {cv : α → Option Value × Mem} {m : Mem} {pc nx : Nat} {ls : List (Option Value)} {st : List Value} {E1 E2 : Option α} {x y : Int32} {off : Int} {tgt : Nat} (d : DD cc pc (.if_icmp .eq off) 3 nx) (ht : (pc : Int) + off = (tgt : Int)) (kt : x = y → JR Z cv m tgt ls st E1) (kf : ¬ (x = y) → JR Z cv m nx ls st E2) : JR Z cv m pc ls (.int y :: .int x :: st) (if x = y then E1 else E2) :=
  j_icmp_eqB h d ht (fun c => by rw [if_pos c]; exact kt c) (fun c => by rw [if_neg c]; exact kf c)
theorem j_icmp_neB {α : Type} {Z : Zx} {cc : ByteArray} {own : String} {nL : Nat} {ret : Option FieldType} {lev : Nat} (h : OkX Z cc own nL ret lev) {cv : α → Option Value × Mem} {m : Mem} {pc nx : Nat} {ls : List (Option Value)} {st : List Value} {E : Option α} {x y : Int32} {off : Int} {tgt : Nat} (d : DD cc pc (.if_icmp .ne off) 3 nx) (ht : (pc : Int) + off = (tgt : Int)) (kt : ¬ x = y → JR Z cv m tgt ls st E) (kf : ¬ (¬ x = y) → JR Z cv m nx ls st E) : JR Z cv m pc ls (.int y :: .int x :: st) E := by
  obtain ⟨d, rfl⟩ := d
  intro a ha H locs Ls hP hS hl
  exact lv_icmp_ne h.1 h.2.1 d ht (fun c => kt c a ha H locs Ls hP hS hl) (fun c => kf (fun q => q c) a ha H locs Ls hP hS hl)
theorem j_icmp_ne {α : Type} {Z : Zx} {cc : ByteArray} {own : String} {nL : Nat} {ret : Option FieldType} {lev : Nat} (h : OkX Z cc own nL ret lev) {cv : α → Option Value × Mem} {m : Mem} {pc nx : Nat} {ls : List (Option Value)} {st : List Value} {E1 E2 : Option α} {x y : Int32} {off : Int} {tgt : Nat} (d : DD cc pc (.if_icmp .ne off) 3 nx) (ht : (pc : Int) + off = (tgt : Int)) (kt : ¬ x = y → JR Z cv m tgt ls st E2) (kf : x = y → JR Z cv m nx ls st E1) : JR Z cv m pc ls (.int y :: .int x :: st) (if x = y then E1 else E2) :=
  j_icmp_neB h d ht (fun c => by rw [if_neg c]; exact kt c) (fun c => by rw [if_pos (Classical.not_not.mp c)]; exact kf (Classical.not_not.mp c))
theorem j_icmp_ltB {α : Type} {Z : Zx} {cc : ByteArray} {own : String} {nL : Nat} {ret : Option FieldType} {lev : Nat} (h : OkX Z cc own nL ret lev) {cv : α → Option Value × Mem} {m : Mem} {pc nx : Nat} {ls : List (Option Value)} {st : List Value} {E : Option α} {x y : Int32} {off : Int} {tgt : Nat} (d : DD cc pc (.if_icmp .lt off) 3 nx) (ht : (pc : Int) + off = (tgt : Int)) (kt : x < y → JR Z cv m tgt ls st E) (kf : ¬ (x < y) → JR Z cv m nx ls st E) : JR Z cv m pc ls (.int y :: .int x :: st) E := by
  obtain ⟨d, rfl⟩ := d
  intro a ha H locs Ls hP hS hl
  exact lv_icmp_lt h.1 h.2.1 d ht (fun c => kt c a ha H locs Ls hP hS hl) (fun c => kf (by simpa using c) a ha H locs Ls hP hS hl)
theorem j_icmp_lt {α : Type} {Z : Zx} {cc : ByteArray} {own : String} {nL : Nat} {ret : Option FieldType} {lev : Nat} (h : OkX Z cc own nL ret lev) {cv : α → Option Value × Mem} {m : Mem} {pc nx : Nat} {ls : List (Option Value)} {st : List Value} {E1 E2 : Option α} {x y : Int32} {off : Int} {tgt : Nat} (d : DD cc pc (.if_icmp .lt off) 3 nx) (ht : (pc : Int) + off = (tgt : Int)) (kt : x < y → JR Z cv m tgt ls st E1) (kf : ¬ (x < y) → JR Z cv m nx ls st E2) : JR Z cv m pc ls (.int y :: .int x :: st) (if x < y then E1 else E2) :=
  j_icmp_ltB h d ht (fun c => by rw [if_pos c]; exact kt c) (fun c => by rw [if_neg c]; exact kf c)
theorem j_icmp_geB {α : Type} {Z : Zx} {cc : ByteArray} {own : String} {nL : Nat} {ret : Option FieldType} {lev : Nat} (h : OkX Z cc own nL ret lev) {cv : α → Option Value × Mem} {m : Mem} {pc nx : Nat} {ls : List (Option Value)} {st : List Value} {E : Option α} {x y : Int32} {off : Int} {tgt : Nat} (d : DD cc pc (.if_icmp .ge off) 3 nx) (ht : (pc : Int) + off = (tgt : Int)) (kt : y ≤ x → JR Z cv m tgt ls st E) (kf : ¬ (y ≤ x) → JR Z cv m nx ls st E) : JR Z cv m pc ls (.int y :: .int x :: st) E := by
  obtain ⟨d, rfl⟩ := d
  intro a ha H locs Ls hP hS hl
  exact lv_icmp_ge h.1 h.2.1 d ht (fun c => kt c a ha H locs Ls hP hS hl) (fun c => kf (by simpa using c) a ha H locs Ls hP hS hl)
theorem j_icmp_ge {α : Type} {Z : Zx} {cc : ByteArray} {own : String} {nL : Nat} {ret : Option FieldType} {lev : Nat} (h : OkX Z cc own nL ret lev) {cv : α → Option Value × Mem} {m : Mem} {pc nx : Nat} {ls : List (Option Value)} {st : List Value} {E1 E2 : Option α} {x y : Int32} {off : Int} {tgt : Nat} (d : DD cc pc (.if_icmp .ge off) 3 nx) (ht : (pc : Int) + off = (tgt : Int)) (kt : y ≤ x → JR Z cv m tgt ls st E1) (kf : ¬ (y ≤ x) → JR Z cv m nx ls st E2) : JR Z cv m pc ls (.int y :: .int x :: st) (if y ≤ x then E1 else E2) :=
  j_icmp_geB h d ht (fun c => by rw [if_pos c]; exact kt c) (fun c => by rw [if_neg c]; exact kf c)
theorem j_icmp_gtB {α : Type} {Z : Zx} {cc : ByteArray} {own : String} {nL : Nat} {ret : Option FieldType} {lev : Nat} (h : OkX Z cc own nL ret lev) {cv : α → Option Value × Mem} {m : Mem} {pc nx : Nat} {ls : List (Option Value)} {st : List Value} {E : Option α} {x y : Int32} {off : Int} {tgt : Nat} (d : DD cc pc (.if_icmp .gt off) 3 nx) (ht : (pc : Int) + off = (tgt : Int)) (kt : y < x → JR Z cv m tgt ls st E) (kf : ¬ (y < x) → JR Z cv m nx ls st E) : JR Z cv m pc ls (.int y :: .int x :: st) E := by
  obtain ⟨d, rfl⟩ := d
  intro a ha H locs Ls hP hS hl
  exact lv_icmp_gt h.1 h.2.1 d ht (fun c => kt c a ha H locs Ls hP hS hl) (fun c => kf (by simpa using c) a ha H locs Ls hP hS hl)
theorem j_icmp_gt {α : Type} {Z : Zx} {cc : ByteArray} {own : String} {nL : Nat} {ret : Option FieldType} {lev : Nat} (h : OkX Z cc own nL ret lev) {cv : α → Option Value × Mem} {m : Mem} {pc nx : Nat} {ls : List (Option Value)} {st : List Value} {E1 E2 : Option α} {x y : Int32} {off : Int} {tgt : Nat} (d : DD cc pc (.if_icmp .gt off) 3 nx) (ht : (pc : Int) + off = (tgt : Int)) (kt : y < x → JR Z cv m tgt ls st E1) (kf : ¬ (y < x) → JR Z cv m nx ls st E2) : JR Z cv m pc ls (.int y :: .int x :: st) (if y < x then E1 else E2) :=
  j_icmp_gtB h d ht (fun c => by rw [if_pos c]; exact kt c) (fun c => by rw [if_neg c]; exact kf c)
theorem j_icmp_leB {α : Type} {Z : Zx} {cc : ByteArray} {own : String} {nL : Nat} {ret : Option FieldType} {lev : Nat} (h : OkX Z cc own nL ret lev) {cv : α → Option Value × Mem} {m : Mem} {pc nx : Nat} {ls : List (Option Value)} {st : List Value} {E : Option α} {x y : Int32} {off : Int} {tgt : Nat} (d : DD cc pc (.if_icmp .le off) 3 nx) (ht : (pc : Int) + off = (tgt : Int)) (kt : x ≤ y → JR Z cv m tgt ls st E) (kf : ¬ (x ≤ y) → JR Z cv m nx ls st E) : JR Z cv m pc ls (.int y :: .int x :: st) E := by
  obtain ⟨d, rfl⟩ := d
  intro a ha H locs Ls hP hS hl
  exact lv_icmp_le h.1 h.2.1 d ht (fun c => kt c a ha H locs Ls hP hS hl) (fun c => kf (by simpa using c) a ha H locs Ls hP hS hl)
theorem j_icmp_le {α : Type} {Z : Zx} {cc : ByteArray} {own : String} {nL : Nat} {ret : Option FieldType} {lev : Nat} (h : OkX Z cc own nL ret lev) {cv : α → Option Value × Mem} {m : Mem} {pc nx : Nat} {ls : List (Option Value)} {st : List Value} {E1 E2 : Option α} {x y : Int32} {off : Int} {tgt : Nat} (d : DD cc pc (.if_icmp .le off) 3 nx) (ht : (pc : Int) + off = (tgt : Int)) (kt : x ≤ y → JR Z cv m tgt ls st E1) (kf : ¬ (x ≤ y) → JR Z cv m nx ls st E2) : JR Z cv m pc ls (.int y :: .int x :: st) (if x ≤ y then E1 else E2) :=
  j_icmp_leB h d ht (fun c => by rw [if_pos c]; exact kt c) (fun c => by rw [if_neg c]; exact kf c)
theorem j_if_eqB {α : Type} {Z : Zx} {cc : ByteArray} {own : String} {nL : Nat} {ret : Option FieldType} {lev : Nat} (h : OkX Z cc own nL ret lev) {cv : α → Option Value × Mem} {m : Mem} {pc nx : Nat} {ls : List (Option Value)} {st : List Value} {E : Option α} {x : Int32} {off : Int} {tgt : Nat} (d : DD cc pc (.ifCond .eq off) 3 nx) (ht : (pc : Int) + off = (tgt : Int)) (kt : x = 0 → JR Z cv m tgt ls st E) (kf : ¬ (x = 0) → JR Z cv m nx ls st E) : JR Z cv m pc ls (.int x :: st) E := by
  obtain ⟨d, rfl⟩ := d
  intro a ha H locs Ls hP hS hl
  exact lv_if_eq h.1 h.2.1 d ht (fun c => kt c a ha H locs Ls hP hS hl) (fun c => kf (by simpa using c) a ha H locs Ls hP hS hl)
theorem j_if_eq {α : Type} {Z : Zx} {cc : ByteArray} {own : String} {nL : Nat} {ret : Option FieldType} {lev : Nat} (h : OkX Z cc own nL ret lev) {cv : α → Option Value × Mem} {m : Mem} {pc nx : Nat} {ls : List (Option Value)} {st : List Value} {E1 E2 : Option α} {x : Int32} {off : Int} {tgt : Nat} (d : DD cc pc (.ifCond .eq off) 3 nx) (ht : (pc : Int) + off = (tgt : Int)) (kt : x = 0 → JR Z cv m tgt ls st E1) (kf : ¬ (x = 0) → JR Z cv m nx ls st E2) : JR Z cv m pc ls (.int x :: st) (if x = 0 then E1 else E2) :=
  j_if_eqB h d ht (fun c => by rw [if_pos c]; exact kt c) (fun c => by rw [if_neg c]; exact kf c)
theorem j_if_neB {α : Type} {Z : Zx} {cc : ByteArray} {own : String} {nL : Nat} {ret : Option FieldType} {lev : Nat} (h : OkX Z cc own nL ret lev) {cv : α → Option Value × Mem} {m : Mem} {pc nx : Nat} {ls : List (Option Value)} {st : List Value} {E : Option α} {x : Int32} {off : Int} {tgt : Nat} (d : DD cc pc (.ifCond .ne off) 3 nx) (ht : (pc : Int) + off = (tgt : Int)) (kt : ¬ x = 0 → JR Z cv m tgt ls st E) (kf : ¬ (¬ x = 0) → JR Z cv m nx ls st E) : JR Z cv m pc ls (.int x :: st) E := by
  obtain ⟨d, rfl⟩ := d
  intro a ha H locs Ls hP hS hl
  exact lv_if_ne h.1 h.2.1 d ht (fun c => kt c a ha H locs Ls hP hS hl) (fun c => kf (fun q => q c) a ha H locs Ls hP hS hl)
theorem j_if_ne {α : Type} {Z : Zx} {cc : ByteArray} {own : String} {nL : Nat} {ret : Option FieldType} {lev : Nat} (h : OkX Z cc own nL ret lev) {cv : α → Option Value × Mem} {m : Mem} {pc nx : Nat} {ls : List (Option Value)} {st : List Value} {E1 E2 : Option α} {x : Int32} {off : Int} {tgt : Nat} (d : DD cc pc (.ifCond .ne off) 3 nx) (ht : (pc : Int) + off = (tgt : Int)) (kt : ¬ x = 0 → JR Z cv m tgt ls st E2) (kf : x = 0 → JR Z cv m nx ls st E1) : JR Z cv m pc ls (.int x :: st) (if x = 0 then E1 else E2) :=
  j_if_neB h d ht (fun c => by rw [if_neg c]; exact kt c) (fun c => by rw [if_pos (Classical.not_not.mp c)]; exact kf (Classical.not_not.mp c))
theorem j_if_ltB {α : Type} {Z : Zx} {cc : ByteArray} {own : String} {nL : Nat} {ret : Option FieldType} {lev : Nat} (h : OkX Z cc own nL ret lev) {cv : α → Option Value × Mem} {m : Mem} {pc nx : Nat} {ls : List (Option Value)} {st : List Value} {E : Option α} {x : Int32} {off : Int} {tgt : Nat} (d : DD cc pc (.ifCond .lt off) 3 nx) (ht : (pc : Int) + off = (tgt : Int)) (kt : x < 0 → JR Z cv m tgt ls st E) (kf : ¬ (x < 0) → JR Z cv m nx ls st E) : JR Z cv m pc ls (.int x :: st) E := by
  obtain ⟨d, rfl⟩ := d
  intro a ha H locs Ls hP hS hl
  exact lv_if_lt h.1 h.2.1 d ht (fun c => kt c a ha H locs Ls hP hS hl) (fun c => kf (by simpa using c) a ha H locs Ls hP hS hl)
theorem j_if_lt {α : Type} {Z : Zx} {cc : ByteArray} {own : String} {nL : Nat} {ret : Option FieldType} {lev : Nat} (h : OkX Z cc own nL ret lev) {cv : α → Option Value × Mem} {m : Mem} {pc nx : Nat} {ls : List (Option Value)} {st : List Value} {E1 E2 : Option α} {x : Int32} {off : Int} {tgt : Nat} (d : DD cc pc (.ifCond .lt off) 3 nx) (ht : (pc : Int) + off = (tgt : Int)) (kt : x < 0 → JR Z cv m tgt ls st E1) (kf : ¬ (x < 0) → JR Z cv m nx ls st E2) : JR Z cv m pc ls (.int x :: st) (if x < 0 then E1 else E2) :=
  j_if_ltB h d ht (fun c => by rw [if_pos c]; exact kt c) (fun c => by rw [if_neg c]; exact kf c)
theorem j_if_geB {α : Type} {Z : Zx} {cc : ByteArray} {own : String} {nL : Nat} {ret : Option FieldType} {lev : Nat} (h : OkX Z cc own nL ret lev) {cv : α → Option Value × Mem} {m : Mem} {pc nx : Nat} {ls : List (Option Value)} {st : List Value} {E : Option α} {x : Int32} {off : Int} {tgt : Nat} (d : DD cc pc (.ifCond .ge off) 3 nx) (ht : (pc : Int) + off = (tgt : Int)) (kt : 0 ≤ x → JR Z cv m tgt ls st E) (kf : ¬ (0 ≤ x) → JR Z cv m nx ls st E) : JR Z cv m pc ls (.int x :: st) E := by
  obtain ⟨d, rfl⟩ := d
  intro a ha H locs Ls hP hS hl
  exact lv_if_ge h.1 h.2.1 d ht (fun c => kt c a ha H locs Ls hP hS hl) (fun c => kf (by simpa using c) a ha H locs Ls hP hS hl)
theorem j_if_ge {α : Type} {Z : Zx} {cc : ByteArray} {own : String} {nL : Nat} {ret : Option FieldType} {lev : Nat} (h : OkX Z cc own nL ret lev) {cv : α → Option Value × Mem} {m : Mem} {pc nx : Nat} {ls : List (Option Value)} {st : List Value} {E1 E2 : Option α} {x : Int32} {off : Int} {tgt : Nat} (d : DD cc pc (.ifCond .ge off) 3 nx) (ht : (pc : Int) + off = (tgt : Int)) (kt : 0 ≤ x → JR Z cv m tgt ls st E1) (kf : ¬ (0 ≤ x) → JR Z cv m nx ls st E2) : JR Z cv m pc ls (.int x :: st) (if 0 ≤ x then E1 else E2) :=
  j_if_geB h d ht (fun c => by rw [if_pos c]; exact kt c) (fun c => by rw [if_neg c]; exact kf c)
theorem j_if_gtB {α : Type} {Z : Zx} {cc : ByteArray} {own : String} {nL : Nat} {ret : Option FieldType} {lev : Nat} (h : OkX Z cc own nL ret lev) {cv : α → Option Value × Mem} {m : Mem} {pc nx : Nat} {ls : List (Option Value)} {st : List Value} {E : Option α} {x : Int32} {off : Int} {tgt : Nat} (d : DD cc pc (.ifCond .gt off) 3 nx) (ht : (pc : Int) + off = (tgt : Int)) (kt : 0 < x → JR Z cv m tgt ls st E) (kf : ¬ (0 < x) → JR Z cv m nx ls st E) : JR Z cv m pc ls (.int x :: st) E := by
  obtain ⟨d, rfl⟩ := d
  intro a ha H locs Ls hP hS hl
  exact lv_if_gt h.1 h.2.1 d ht (fun c => kt c a ha H locs Ls hP hS hl) (fun c => kf (by simpa using c) a ha H locs Ls hP hS hl)
theorem j_if_gt {α : Type} {Z : Zx} {cc : ByteArray} {own : String} {nL : Nat} {ret : Option FieldType} {lev : Nat} (h : OkX Z cc own nL ret lev) {cv : α → Option Value × Mem} {m : Mem} {pc nx : Nat} {ls : List (Option Value)} {st : List Value} {E1 E2 : Option α} {x : Int32} {off : Int} {tgt : Nat} (d : DD cc pc (.ifCond .gt off) 3 nx) (ht : (pc : Int) + off = (tgt : Int)) (kt : 0 < x → JR Z cv m tgt ls st E1) (kf : ¬ (0 < x) → JR Z cv m nx ls st E2) : JR Z cv m pc ls (.int x :: st) (if 0 < x then E1 else E2) :=
  j_if_gtB h d ht (fun c => by rw [if_pos c]; exact kt c) (fun c => by rw [if_neg c]; exact kf c)
theorem j_if_leB {α : Type} {Z : Zx} {cc : ByteArray} {own : String} {nL : Nat} {ret : Option FieldType} {lev : Nat} (h : OkX Z cc own nL ret lev) {cv : α → Option Value × Mem} {m : Mem} {pc nx : Nat} {ls : List (Option Value)} {st : List Value} {E : Option α} {x : Int32} {off : Int} {tgt : Nat} (d : DD cc pc (.ifCond .le off) 3 nx) (ht : (pc : Int) + off = (tgt : Int)) (kt : x ≤ 0 → JR Z cv m tgt ls st E) (kf : ¬ (x ≤ 0) → JR Z cv m nx ls st E) : JR Z cv m pc ls (.int x :: st) E := by
  obtain ⟨d, rfl⟩ := d
  intro a ha H locs Ls hP hS hl
  exact lv_if_le h.1 h.2.1 d ht (fun c => kt c a ha H locs Ls hP hS hl) (fun c => kf (by simpa using c) a ha H locs Ls hP hS hl)
theorem j_if_le {α : Type} {Z : Zx} {cc : ByteArray} {own : String} {nL : Nat} {ret : Option FieldType} {lev : Nat} (h : OkX Z cc own nL ret lev) {cv : α → Option Value × Mem} {m : Mem} {pc nx : Nat} {ls : List (Option Value)} {st : List Value} {E1 E2 : Option α} {x : Int32} {off : Int} {tgt : Nat} (d : DD cc pc (.ifCond .le off) 3 nx) (ht : (pc : Int) + off = (tgt : Int)) (kt : x ≤ 0 → JR Z cv m tgt ls st E1) (kf : ¬ (x ≤ 0) → JR Z cv m nx ls st E2) : JR Z cv m pc ls (.int x :: st) (if x ≤ 0 then E1 else E2) :=
  j_if_leB h d ht (fun c => by rw [if_pos c]; exact kt c) (fun c => by rw [if_neg c]; exact kf c)
theorem j_goto {α : Type} {Z : Zx} {cc : ByteArray} {own : String} {nL : Nat} {ret : Option FieldType} {lev : Nat} (h : OkX Z cc own nL ret lev) {cv : α → Option Value × Mem} {m : Mem} {pc nx : Nat} {ls : List (Option Value)} {st : List Value} {E : Option α} {off : Int} {tgt : Nat} (d : DD cc pc (.goto off) 3 nx) (ht : (pc : Int) + off = (tgt : Int)) (k : JR Z cv m tgt ls st E) : JR Z cv m pc ls st E := by
  obtain ⟨d, rfl⟩ := d
  intro a ha H locs Ls hP hS hl
  exact lv_goto h.1 h.2.1 d ht (k a ha H locs Ls hP hS hl)
