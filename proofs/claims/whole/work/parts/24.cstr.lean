/-! ===== the tape's signs: where a sign stands in the text of signs ===== -/
def fsigns (c : Int32) : Option Int32 := some (if c = 59 then 0 else if c = 40 then 1 else if c = 41 then 2 else if c = 60 then 3 else if c = 62 then 4 else if c = 61 then 5 else if c = 43 then 6 else if c = 45 then 7 else if c = 42 then 8 else if c = 47 then 9 else if c = 37 then 10 else -1)
section RS
variable {α : Type} {X : Cx} {G : Gt} {cc : ByteArray} {own : String} {nL : Nat} {ret : Option FieldType} {lev : Nat} {cv : α → Option Value × Mem} {m : Mem} {pc nx idx : Nat} {ls : List (Option Value)} {st : List Value} {E : Option α}
theorem j_ldcS61 (h : OkX (X, G, wC, nC) cc RX10 nL ret lev) (d : DD cc pc (.ldc 61) 2 nx) (k : JR (X, G, wC, nC) cv m nx ls (.ref (G.2.2 1001) :: st) E) : JR (X, G, wC, nC) cv m pc ls st E := by
  obtain ⟨d, rfl⟩ := d
  intro a ha H locs Ls hP hS hl
  exact va_ldcS h.1 h.2.1 h.2.2.2.2.1 h.2.2.2.2.2.2.2.1.2.2.1 d (k a ha H locs Ls hP hS hl)
theorem j_signs (h : OkX (X, G, wC, nC) cc own nL ret lev) {x : Int32} {K : Int32 → Option α} (hlk : Cond.methodLink own idx ⟨"java/lang/String", "indexOf", "(I)I"⟩ ∈ WT) (hroom : (st.map fun v => v.category).sum ≤ 8) (hnl : ls.length = nL) (hlev : 1 ≤ lev) (d : DD cc pc (.invokevirtual idx) 3 nx) (kk : ∀ r, fsigns x = some r → JR (X, G, wC, nC) cv m nx ls (.int r :: st) (K r)) : JR (X, G, wC, nC) cv m pc ls (.int x :: .ref (G.2.2 1001) :: st) (cP (fsigns x) K) := by
  sorry
end RS
