/-! ===== the tape's constructor ===== -/
def tapeWords : Nat → Int64 := fun j => ([232608281, 259679, 7742498, 8930969373, 80096, 94565, 158692, 80006, 47, 7622660, 4439075, 4562587, 12532058, 247702, 168984, 4419, 423, 1111, 10631] : List Int64).getD j 0
def mkX10_init (G : Gt) (h0 : Nat) (u : List Nat) : va_W := [(h0, .inr (10, [.ref (u.getD 0 0), .int 0, .ref (u.getD 1 0), .int 0, .int 0, .int 0, .int 0, .long 0])), ((u.getD 0 0), .inl (G.2.1.2.1, 1600, .inl (fun _ => 0))), ((u.getD 1 0), .inl (G.2.1.2.2.1, 19, .inr (.inl tapeWords)))]
theorem cnX10_init (l : Launch) (G : Gt) (h0 : Nat) : CtN l G yX10_init cX10_init 4 5 2 1619 [.ref h0] h0 (.inr (10, [.null, .int 0, .null, .int 0, .int 0, .int 0, .int 0, .long 0])) (mkX10_init G h0) := by
  sorry
