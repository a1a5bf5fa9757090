/-! ===== where both begin; all that can be asked ===== -/
theorem rl_start : Rl mC1 mM0 := by
  obtain ⟨c, a1, a2, a3, a4, a5, a6⟩ := c_forget (m := mC0) (rw := 0) (by omega) rfl
  have e : mC1 = c := by
    have := mC1_ok.symm.trans a1
    injection this
  rw [e]
  have cr : ∀ r, r ≠ 56 → r ≠ 57 → c.1 r = mC0.1 r := fun r x y => a2.2 r (by simp; omega)
  have hcS : cSt c = cSt mC0 := cSt.keep (fun r hr => cr r (by omega) (by omega))
  have hz : ∀ i, cSt mC0 i = 0 := fun i => by
    unfold cSt
    split
    · rfl
    split
    · rfl
    split
    · rfl
    split
    · rfl
    · rfl
  have hok : stOK 0 (mM0.1 33) := ⟨fun p hp => absurd hp (Nat.not_lt_zero p), ⟨0, Nat.two_pow_pos _, rfl⟩, ⟨0, by omega, rfl⟩, ⟨0, by omega, rfl⟩⟩
  refine ⟨T00 32 5, ?_, ?_, ?_, ?_, ?_, ?_, ⟨?_, hok⟩, ?_, ?_, ?_, ?_, ?_, ?_, ?_⟩
  · exact ⟨Nat.zero_le _, Nat.zero_le _, Nat.zero_le _, Nat.zero_le _, fun q hq => absurd hq (Nat.not_lt_zero q), fun q hq => absurd hq (Nat.not_lt_zero q), fun q hq => absurd hq (Nat.not_lt_zero q), fun q _ hq => absurd hq (Nat.not_lt_zero q), fun w hw => Nat.zero_le _⟩
  · refine ⟨Or.inr ⟨rfl, rfl⟩, by rw [a2.1]; rfl, by rw [a2.1]; rfl, ?_, ?_, ?_, ?_, fun q hq => absurd hq (Nat.not_lt_zero q), fun q hq => absurd hq (Nat.not_lt_zero q), fun q hq => absurd hq (Nat.not_lt_zero q)⟩
    · show c.1 32 0 = 0
      rw [cr 32 (by omega) (by omega)]; rfl
    · show c.1 32 5 = 0
      rw [cr 32 (by omega) (by omega)]; rfl
    · show c.1 32 10 = 0
      rw [cr 32 (by omega) (by omega)]; rfl
    · show c.1 32 18 = 0
      rw [cr 32 (by omega) (by omega)]; rfl
  · exact ⟨rfl, rfl, rfl, rfl, fun q hq => absurd hq (Nat.not_lt_zero q), fun q hq => absurd hq (Nat.not_lt_zero q), fun q hq => absurd hq (Nat.not_lt_zero q)⟩
  · intro w hw
    refine ⟨?_, fun z => absurd z Nat.zero_ne_one⟩
    show c.1 (32 + (12 + 3 * w)) 3 = 0
    rw [cr _ (by omega) (by omega)]
    rcases (show w = 0 ∨ w = 1 ∨ w = 2 by omega) with rfl | rfl | rfl <;> rfl
  · exact fun w hw => ⟨rfl, fun _ => rfl, fun z => absurd z Nat.zero_ne_one⟩
  · refine ⟨fun d hd => Or.inl ?_, Or.inl ?_⟩
    · rw [cr 55 (by omega) (by omega)]; rfl
    · rw [cr 53 (by omega) (by omega)]; rfl
  · intro i hi hx
    rw [hcS, hz]; rfl
  · refine ⟨0, 0, 0, by omega, by omega, a3, a4, a5, rfl, rfl, ?_, fun j hj => absurd hj (Nat.not_lt_zero j), fun j hj => absurd hj (Nat.not_lt_zero j)⟩
    intro i hi hx
    rw [a6, rowAt_same hi, hz]; rfl
  · refine ⟨0, 0, by omega, by omega, ?_, rfl, ?_, rfl, fun i hi => absurd hi (Nat.not_lt_zero i)⟩
    · rw [cr 65 (by omega) (by omega)]; rfl
    · rw [cr 65 (by omega) (by omega)]; rfl
  · exact ⟨0, by omega, by rw [cr 0 (by omega) (by omega)]; rfl, rfl, fun i hi => absurd hi (Nat.not_lt_zero i)⟩
  · refine ⟨0, by omega, by rw [cr 0 (by omega) (by omega)]; rfl, fun b hb => ⟨by rw [Nat.zero_div]; rfl, fun z => ?_⟩⟩
    rw [Nat.zero_div] at z; omega
  · exact ⟨0, fun _ => 0, by omega, by rw [cr 1 (by omega) (by omega)]; rfl, rfl, fun i hi => absurd hi (Nat.not_lt_zero i)⟩
  · rw [RF, cr 4 (by omega) (by omega)]
    exact ⟨rfl, rfl⟩
  · rw [CW, a2.1, cr 63 (by omega) (by omega), cr 64 (by omega) (by omega)]
    exact ⟨rfl, rfl, rfl⟩
theorem obs_ok : Obs Rl := ⟨o_feed, o_end, o_town, o_fault, o_person, o_meet, o_light, o_awake, o_noise, o_go, o_hush, o_hour, o_undo, o_redo, o_common, o_can, o_never, o_dates, o_harmed, o_bliss, o_cut, o_joy, o_lonely, o_hinges, o_loudest, o_rest, o_shop, o_post, o_spread, o_wake, o_odds, o_lies, o_lit, o_untell, o_later, o_fits, o_sure, o_ask, o_image, o_back, o_about⟩
