/-- what is owed of each call, over a relation of memories -/
def Ob_feed (Rel : Mem → Mem → Prop) : Prop := ∀ (mC mM : Mem) (x1 : Int32) (x2 : Int32) (x3 : Int32) (x4 : Int32) (x5 : Int32), Rel mC mM → ∃ r mC2 mM2, fX11_feed mC x1 x2 x3 x4 x5 = some (r, mC2) ∧ fX12_feed mM x1 x2 x3 x4 x5 = some (r, mM2) ∧ Rel mC2 mM2
def Ob_end (Rel : Mem → Mem → Prop) : Prop := ∀ (mC mM : Mem) (x1 : Int32), Rel mC mM → ∃ r mC2 mM2, fX11_end mC x1 = some (r, mC2) ∧ fX12_end mM x1 = some (r, mM2) ∧ Rel mC2 mM2
def Ob_town (Rel : Mem → Mem → Prop) : Prop := ∀ (mC mM : Mem), Rel mC mM → ∃ r mC2 mM2, fX11_town mC = some (r, mC2) ∧ fX12_town mM = some (r, mM2) ∧ Rel mC2 mM2
def Ob_fault (Rel : Mem → Mem → Prop) : Prop := ∀ (mC mM : Mem) (x1 : Int32), Rel mC mM → ∃ r, fX11_fault mC x1 = some r ∧ fX12_fault mM x1 = some r ∧ Rel mC mM
def Ob_person (Rel : Mem → Mem → Prop) : Prop := ∀ (mC mM : Mem) (x1 : Int32) (x2 : Int32), Rel mC mM → ∃ r mC2 mM2, fX11_person mC x1 x2 = some (r, mC2) ∧ fX12_person mM x1 x2 = some (r, mM2) ∧ Rel mC2 mM2
def Ob_meet (Rel : Mem → Mem → Prop) : Prop := ∀ (mC mM : Mem) (x1 : Int32) (x2 : Int32), Rel mC mM → ∃ r mC2 mM2, fX11_meet mC x1 x2 = some (r, mC2) ∧ fX12_meet mM x1 x2 = some (r, mM2) ∧ Rel mC2 mM2
def Ob_light (Rel : Mem → Mem → Prop) : Prop := ∀ (mC mM : Mem) (x1 : Int32) (x2 : Int32), Rel mC mM → ∃ r mC2 mM2, fX11_light mC x1 x2 = some (r, mC2) ∧ fX12_light mM x1 x2 = some (r, mM2) ∧ Rel mC2 mM2
def Ob_awake (Rel : Mem → Mem → Prop) : Prop := ∀ (mC mM : Mem) (x1 : Int32) (x2 : Int32), Rel mC mM → ∃ r mC2 mM2, fX11_awake mC x1 x2 = some (r, mC2) ∧ fX12_awake mM x1 x2 = some (r, mM2) ∧ Rel mC2 mM2
def Ob_noise (Rel : Mem → Mem → Prop) : Prop := ∀ (mC mM : Mem) (x1 : Int32) (x2 : Int32), Rel mC mM → ∃ r, fX11_noise mC x1 x2 = some r ∧ fX12_noise mM x1 x2 = some r ∧ Rel mC mM
def Ob_go (Rel : Mem → Mem → Prop) : Prop := ∀ (mC mM : Mem) (x1 : Int32) (x2 : Int32), Rel mC mM → ∃ r mC2 mM2, fX11_go mC x1 x2 = some (r, mC2) ∧ fX12_go mM x1 x2 = some (r, mM2) ∧ Rel mC2 mM2
def Ob_hush (Rel : Mem → Mem → Prop) : Prop := ∀ (mC mM : Mem) (x1 : Int32), Rel mC mM → ∃ r mC2 mM2, fX11_hush mC x1 = some (r, mC2) ∧ fX12_hush mM x1 = some (r, mM2) ∧ Rel mC2 mM2
def Ob_hour (Rel : Mem → Mem → Prop) : Prop := ∀ (mC mM : Mem), Rel mC mM → ∃ r mC2 mM2, fX11_hour mC = some (r, mC2) ∧ fX12_hour mM = some (r, mM2) ∧ Rel mC2 mM2
def Ob_undo (Rel : Mem → Mem → Prop) : Prop := ∀ (mC mM : Mem), Rel mC mM → ∃ r mC2 mM2, fX11_undo mC = some (r, mC2) ∧ fX12_undo mM = some (r, mM2) ∧ Rel mC2 mM2
def Ob_redo (Rel : Mem → Mem → Prop) : Prop := ∀ (mC mM : Mem), Rel mC mM → ∃ r mC2 mM2, fX11_redo mC = some (r, mC2) ∧ fX12_redo mM = some (r, mM2) ∧ Rel mC2 mM2
def Ob_common (Rel : Mem → Mem → Prop) : Prop := ∀ (mC mM : Mem) (x1 : Int32) (x2 : Int32) (x3 : Int32), Rel mC mM → ∃ r mC2 mM2, fX11_common mC x1 x2 x3 = some (r, mC2) ∧ fX12_common mM x1 x2 x3 = some (r, mM2) ∧ Rel mC2 mM2
def Ob_can (Rel : Mem → Mem → Prop) : Prop := ∀ (mC mM : Mem) (x1 : Int32), Rel mC mM → ∃ r mC2 mM2, fX11_can mC x1 = some (r, mC2) ∧ fX12_can mM x1 = some (r, mM2) ∧ Rel mC2 mM2
def Ob_never (Rel : Mem → Mem → Prop) : Prop := ∀ (mC mM : Mem) (x1 : Int32), Rel mC mM → ∃ r mC2 mM2, fX11_never mC x1 = some (r, mC2) ∧ fX12_never mM x1 = some (r, mM2) ∧ Rel mC2 mM2
def Ob_dates (Rel : Mem → Mem → Prop) : Prop := ∀ (mC mM : Mem) (x1 : Int32), Rel mC mM → ∃ r mC2 mM2, fX11_dates mC x1 = some (r, mC2) ∧ fX12_dates mM x1 = some (r, mM2) ∧ Rel mC2 mM2
def Ob_harmed (Rel : Mem → Mem → Prop) : Prop := ∀ (mC mM : Mem) (x1 : Int32) (x2 : Int32), Rel mC mM → ∃ r mC2 mM2, fX11_harmed mC x1 x2 = some (r, mC2) ∧ fX12_harmed mM x1 x2 = some (r, mM2) ∧ Rel mC2 mM2
def Ob_bliss (Rel : Mem → Mem → Prop) : Prop := ∀ (mC mM : Mem) (x1 : Int32), Rel mC mM → ∃ r mC2 mM2, fX11_bliss mC x1 = some (r, mC2) ∧ fX12_bliss mM x1 = some (r, mM2) ∧ Rel mC2 mM2
def Ob_cut (Rel : Mem → Mem → Prop) : Prop := ∀ (mC mM : Mem), Rel mC mM → ∃ r mC2 mM2, fX11_cut mC = some (r, mC2) ∧ fX12_cut mM = some (r, mM2) ∧ Rel mC2 mM2
def Ob_joy (Rel : Mem → Mem → Prop) : Prop := ∀ (mC mM : Mem) (x1 : Int32) (x2 : Int32), Rel mC mM → ∃ r mC2 mM2, fX11_joy mC x1 x2 = some (r, mC2) ∧ fX12_joy mM x1 x2 = some (r, mM2) ∧ Rel mC2 mM2
def Ob_lonely (Rel : Mem → Mem → Prop) : Prop := ∀ (mC mM : Mem) (x1 : Int32), Rel mC mM → ∃ r mC2 mM2, fX11_lonely mC x1 = some (r, mC2) ∧ fX12_lonely mM x1 = some (r, mM2) ∧ Rel mC2 mM2
def Ob_hinges (Rel : Mem → Mem → Prop) : Prop := ∀ (mC mM : Mem) (x1 : Int32), Rel mC mM → ∃ r mC2 mM2, fX11_hinges mC x1 = some (r, mC2) ∧ fX12_hinges mM x1 = some (r, mM2) ∧ Rel mC2 mM2
def Ob_loudest (Rel : Mem → Mem → Prop) : Prop := ∀ (mC mM : Mem) (x1 : Int32) (x2 : Int32), Rel mC mM → ∃ r mC2 mM2, fX11_loudest mC x1 x2 = some (r, mC2) ∧ fX12_loudest mM x1 x2 = some (r, mM2) ∧ Rel mC2 mM2
def Ob_rest (Rel : Mem → Mem → Prop) : Prop := ∀ (mC mM : Mem), Rel mC mM → ∃ r mC2 mM2, fX11_rest mC = some (r, mC2) ∧ fX12_rest mM = some (r, mM2) ∧ Rel mC2 mM2
def Ob_shop (Rel : Mem → Mem → Prop) : Prop := ∀ (mC mM : Mem) (x1 : Int32), Rel mC mM → ∃ r mC2 mM2, fX11_shop mC x1 = some (r, mC2) ∧ fX12_shop mM x1 = some (r, mM2) ∧ Rel mC2 mM2
def Ob_post (Rel : Mem → Mem → Prop) : Prop := ∀ (mC mM : Mem) (x1 : Int32) (x2 : Int32), Rel mC mM → ∃ r mC2 mM2, fX11_post mC x1 x2 = some (r, mC2) ∧ fX12_post mM x1 x2 = some (r, mM2) ∧ Rel mC2 mM2
def Ob_spread (Rel : Mem → Mem → Prop) : Prop := ∀ (mC mM : Mem) (x1 : Int32) (x2 : Int32), Rel mC mM → ∃ r mC2 mM2, fX11_spread mC x1 x2 = some (r, mC2) ∧ fX12_spread mM x1 x2 = some (r, mM2) ∧ Rel mC2 mM2
def Ob_wake (Rel : Mem → Mem → Prop) : Prop := ∀ (mC mM : Mem) (x1 : Int32) (x2 : Int32) (x3 : Int32), Rel mC mM → ∃ r mC2 mM2, fX11_wake mC x1 x2 x3 = some (r, mC2) ∧ fX12_wake mM x1 x2 x3 = some (r, mM2) ∧ Rel mC2 mM2
def Ob_odds (Rel : Mem → Mem → Prop) : Prop := ∀ (mC mM : Mem) (x1 : Int32) (x2 : Int32) (x3 : Int32), Rel mC mM → ∃ r mC2 mM2, fX11_odds mC x1 x2 x3 = some (r, mC2) ∧ fX12_odds mM x1 x2 x3 = some (r, mM2) ∧ Rel mC2 mM2
def Ob_lies (Rel : Mem → Mem → Prop) : Prop := ∀ (mC mM : Mem) (x1 : Int32), Rel mC mM → ∃ r, fX11_lies mC x1 = some r ∧ fX12_lies mM x1 = some r ∧ Rel mC mM
def Ob_lit (Rel : Mem → Mem → Prop) : Prop := ∀ (mC mM : Mem) (x1 : Int32) (x2 : Int32) (x3 : Int32), Rel mC mM → (x3 = 0 ∨ x3 = 1) → ∃ r mC2 mM2, fX11_lit mC x1 x2 x3 = some (r, mC2) ∧ fX12_lit mM x1 x2 x3 = some (r, mM2) ∧ Rel mC2 mM2
def Ob_untell (Rel : Mem → Mem → Prop) : Prop := ∀ (mC mM : Mem) (x1 : Int32), Rel mC mM → ∃ r mC2 mM2, fX11_untell mC x1 = some (r, mC2) ∧ fX12_untell mM x1 = some (r, mM2) ∧ Rel mC2 mM2
def Ob_later (Rel : Mem → Mem → Prop) : Prop := ∀ (mC mM : Mem) (x1 : Int32), Rel mC mM → ∃ r mC2 mM2, fX11_later mC x1 = some (r, mC2) ∧ fX12_later mM x1 = some (r, mM2) ∧ Rel mC2 mM2
def Ob_fits (Rel : Mem → Mem → Prop) : Prop := ∀ (mC mM : Mem) (x1 : Int32), Rel mC mM → ∃ r mC2 mM2, fX11_fits mC x1 = some (r, mC2) ∧ fX12_fits mM x1 = some (r, mM2) ∧ Rel mC2 mM2
def Ob_sure (Rel : Mem → Mem → Prop) : Prop := ∀ (mC mM : Mem) (x1 : Int32) (x2 : Int32), Rel mC mM → ∃ r mC2 mM2, fX11_sure mC x1 x2 = some (r, mC2) ∧ fX12_sure mM x1 x2 = some (r, mM2) ∧ Rel mC2 mM2
def Ob_ask (Rel : Mem → Mem → Prop) : Prop := ∀ (mC mM : Mem) (x1 : Int32) (x2 : Int32) (x3 : Int32), Rel mC mM → ∃ r mC2 mM2, fX11_ask mC x1 x2 x3 = some (r, mC2) ∧ fX12_ask mM x1 x2 x3 = some (r, mM2) ∧ Rel mC2 mM2
def Ob_image (Rel : Mem → Mem → Prop) : Prop := ∀ (mC mM : Mem) (x1 : Int32), Rel mC mM → ∃ r mC2 mM2, fX11_image mC x1 = some (r, mC2) ∧ fX12_image mM x1 = some (r, mM2) ∧ Rel mC2 mM2
def Ob_back (Rel : Mem → Mem → Prop) : Prop := ∀ (mC mM : Mem) (x1 : Int32), Rel mC mM → ∃ r mC2 mM2, fX11_back mC x1 = some (r, mC2) ∧ fX12_back mM x1 = some (r, mM2) ∧ Rel mC2 mM2
def Ob_about (Rel : Mem → Mem → Prop) : Prop := ∀ (mC mM : Mem) (x1 : Int32), Rel mC mM → ∃ r, fX11_about mC x1 = some r ∧ fX12_about mM x1 = some r ∧ Rel mC mM
def Obs (Rel : Mem → Mem → Prop) : Prop := Ob_feed Rel ∧ Ob_end Rel ∧ Ob_town Rel ∧ Ob_fault Rel ∧ Ob_person Rel ∧ Ob_meet Rel ∧ Ob_light Rel ∧ Ob_awake Rel ∧ Ob_noise Rel ∧ Ob_go Rel ∧ Ob_hush Rel ∧ Ob_hour Rel ∧ Ob_undo Rel ∧ Ob_redo Rel ∧ Ob_common Rel ∧ Ob_can Rel ∧ Ob_never Rel ∧ Ob_dates Rel ∧ Ob_harmed Rel ∧ Ob_bliss Rel ∧ Ob_cut Rel ∧ Ob_joy Rel ∧ Ob_lonely Rel ∧ Ob_hinges Rel ∧ Ob_loudest Rel ∧ Ob_rest Rel ∧ Ob_shop Rel ∧ Ob_post Rel ∧ Ob_spread Rel ∧ Ob_wake Rel ∧ Ob_odds Rel ∧ Ob_lies Rel ∧ Ob_lit Rel ∧ Ob_untell Rel ∧ Ob_later Rel ∧ Ob_fits Rel ∧ Ob_sure Rel ∧ Ob_ask Rel ∧ Ob_image Rel ∧ Ob_back Rel ∧ Ob_about Rel
set_option maxHeartbeats 4000000 in
theorem law_loop {X : Cx} {Gc Gm : Gt} {b L : Nat} {xs : Nat → Int32} {Q : State → Prop} {Rel : Mem → Mem → Prop} (hO : Obs Rel) (h : OkL X Gc Gm b L xs) (hL : L ≤ 3072) (hend : ∀ mC mM ls, JL X Gc Gm Q mC mM 1377 ls []) : ∀ (k i : Nat) (mC mM : Mem), L ≤ i + 6 * k → i ≤ L + 6 → Rel mC mM → JL X Gc Gm Q mC mM 18 [some (.ref b), some (.ref (Gc.2.2 0)), some (.ref (Gm.2.2 0)), some (.int (nI i))] [] := by
  intro k
  induction k with
  | zero =>
    intro i mC mM hk hi6 hR
    refine l_iload h dL_18 rfl ?_
    refine l_aload h dL_19 rfl ?_
    refine l_slen h dL_20 ?_
    refine l_bipush (v := nI 6) h dL_21 (by decide) ?_
    refine l_isub h dL_23 ?_
    refine l_gt (tgt := 1377) h dL_24 (by decide) (fun _ => hend _ _ _) (fun c => absurd ?_ c)
    rw [Int32.lt_iff_toInt_lt, pk_sub_toInt (by omega) (by omega), nI_toInt (by omega)]; omega
  | succ k ih =>
    intro i mC mM hk hi6 hR
    refine l_iload h dL_18 rfl ?_
    refine l_aload h dL_19 rfl ?_
    refine l_slen h dL_20 ?_
    refine l_bipush (v := nI 6) h dL_21 (by decide) ?_
    refine l_isub h dL_23 ?_
    refine l_gt (tgt := 1377) h dL_24 (by decide) (fun _ => hend _ _ _) (fun c => ?_)
    have hi : i + 6 ≤ L := by
      rw [Int32.lt_iff_toInt_lt, pk_sub_toInt (by omega) (by omega), nI_toInt (by omega)] at c; omega
    have go : ∀ mC mM, Rel mC mM → JL X Gc Gm Q mC mM 1371 [some (.ref b), some (.ref (Gc.2.2 0)), some (.ref (Gm.2.2 0)), some (.int (nI i))] [] := by
      intro mC mM hR
      refine l_iinc (v := nI (i + 6)) h dL_1371 rfl (nI_add i 6) rfl ?_
      refine l_goto (tgt := 18) h dL_1374 (by decide) ?_
      exact ih (i + 6) mC mM (by omega) (by omega) hR
    have hL2 : L < 2 ^ 31 := by omega
    refine l_aload h dL_27 rfl ?_
    refine l_iload h dL_28 rfl ?_
    refine l_sld h (vp_in_nI (by omega) hL2) dL_29 ?_
    refine l_bipush (v := 63) h dL_30 (by decide) ?_
    refine l_iand h dL_32 ?_
    generalize (xs (nI i).toNatClampNeg &&& 63) = z
    obtain ⟨o_feed, o_end, o_town, o_fault, o_person, o_meet, o_light, o_awake, o_noise, o_go, o_hush, o_hour, o_undo, o_redo, o_common, o_can, o_never, o_dates, o_harmed, o_bliss, o_cut, o_joy, o_lonely, o_hinges, o_loudest, o_rest, o_shop, o_post, o_spread, o_wake, o_odds, o_lies, o_lit, o_untell, o_later, o_fits, o_sure, o_ask, o_image, o_back, o_about⟩ := hO
    by_cases z0 : z = 0
    · exact l_tabIn (off := 179) (tgt := 212) h z0 dL_33 (by decide) (by decide) (by decide) (by decide) (case_feed h hi hL2 (o_feed mC mM (xs (i + 1)) (xs (i + 2)) (xs (i + 3)) (xs (i + 4)) (xs (i + 5)) hR) go)
    by_cases z1 : z = 1
    · exact l_tabIn (off := 242) (tgt := 275) h z1 dL_33 (by decide) (by decide) (by decide) (by decide) (case_end h hi hL2 (o_end mC mM (xs (i + 1)) hR) go)
    by_cases z2 : z = 2
    · exact l_tabIn (off := 265) (tgt := 298) h z2 dL_33 (by decide) (by decide) (by decide) (by decide) (case_town h hi hL2 (o_town mC mM hR) go)
    by_cases z3 : z = 3
    · exact l_tabIn (off := 278) (tgt := 311) h z3 dL_33 (by decide) (by decide) (by decide) (by decide) (case_fault h hi hL2 (o_fault mC mM (xs (i + 1)) hR) go)
    by_cases z4 : z = 4
    · exact l_tabIn (off := 301) (tgt := 334) h z4 dL_33 (by decide) (by decide) (by decide) (by decide) (case_person h hi hL2 (o_person mC mM (xs (i + 1)) (xs (i + 2)) hR) go)
    by_cases z5 : z = 5
    · exact l_tabIn (off := 334) (tgt := 367) h z5 dL_33 (by decide) (by decide) (by decide) (by decide) (case_meet h hi hL2 (o_meet mC mM (xs (i + 1)) (xs (i + 2)) hR) go)
    by_cases z6 : z = 6
    · exact l_tabIn (off := 367) (tgt := 400) h z6 dL_33 (by decide) (by decide) (by decide) (by decide) (case_light h hi hL2 (o_light mC mM (xs (i + 1)) (xs (i + 2)) hR) go)
    by_cases z7 : z = 7
    · exact l_tabIn (off := 400) (tgt := 433) h z7 dL_33 (by decide) (by decide) (by decide) (by decide) (case_awake h hi hL2 (o_awake mC mM (xs (i + 1)) (xs (i + 2)) hR) go)
    by_cases z8 : z = 8
    · exact l_tabIn (off := 433) (tgt := 466) h z8 dL_33 (by decide) (by decide) (by decide) (by decide) (case_noise h hi hL2 (o_noise mC mM (xs (i + 1)) (xs (i + 2)) hR) go)
    by_cases z9 : z = 9
    · exact l_tabIn (off := 466) (tgt := 499) h z9 dL_33 (by decide) (by decide) (by decide) (by decide) (case_go h hi hL2 (o_go mC mM (xs (i + 1)) (xs (i + 2)) hR) go)
    by_cases z10 : z = 10
    · exact l_tabIn (off := 499) (tgt := 532) h z10 dL_33 (by decide) (by decide) (by decide) (by decide) (case_hush h hi hL2 (o_hush mC mM (xs (i + 1)) hR) go)
    by_cases z11 : z = 11
    · exact l_tabIn (off := 522) (tgt := 555) h z11 dL_33 (by decide) (by decide) (by decide) (by decide) (case_hour h hi hL2 (o_hour mC mM hR) go)
    by_cases z12 : z = 12
    · exact l_tabIn (off := 535) (tgt := 568) h z12 dL_33 (by decide) (by decide) (by decide) (by decide) (case_undo h hi hL2 (o_undo mC mM hR) go)
    by_cases z13 : z = 13
    · exact l_tabIn (off := 548) (tgt := 581) h z13 dL_33 (by decide) (by decide) (by decide) (by decide) (case_redo h hi hL2 (o_redo mC mM hR) go)
    by_cases z14 : z = 14
    · exact l_tabIn (off := 561) (tgt := 594) h z14 dL_33 (by decide) (by decide) (by decide) (by decide) (case_common h hi hL2 (o_common mC mM (xs (i + 1)) (xs (i + 2)) (xs (i + 3)) hR) go)
    by_cases z15 : z = 15
    · exact l_tabIn (off := 604) (tgt := 637) h z15 dL_33 (by decide) (by decide) (by decide) (by decide) (case_can h hi hL2 (o_can mC mM (xs (i + 1)) hR) go)
    by_cases z16 : z = 16
    · exact l_tabIn (off := 627) (tgt := 660) h z16 dL_33 (by decide) (by decide) (by decide) (by decide) (case_never h hi hL2 (o_never mC mM (xs (i + 1)) hR) go)
    by_cases z17 : z = 17
    · exact l_tabIn (off := 650) (tgt := 683) h z17 dL_33 (by decide) (by decide) (by decide) (by decide) (case_dates h hi hL2 (o_dates mC mM (xs (i + 1)) hR) go)
    by_cases z18 : z = 18
    · exact l_tabIn (off := 673) (tgt := 706) h z18 dL_33 (by decide) (by decide) (by decide) (by decide) (case_harmed h hi hL2 (o_harmed mC mM (xs (i + 1)) (xs (i + 2)) hR) go)
    by_cases z19 : z = 19
    · exact l_tabIn (off := 706) (tgt := 739) h z19 dL_33 (by decide) (by decide) (by decide) (by decide) (case_bliss h hi hL2 (o_bliss mC mM (xs (i + 1)) hR) go)
    by_cases z20 : z = 20
    · exact l_tabIn (off := 729) (tgt := 762) h z20 dL_33 (by decide) (by decide) (by decide) (by decide) (case_cut h hi hL2 (o_cut mC mM hR) go)
    by_cases z21 : z = 21
    · exact l_tabIn (off := 742) (tgt := 775) h z21 dL_33 (by decide) (by decide) (by decide) (by decide) (case_joy h hi hL2 (o_joy mC mM (xs (i + 1)) (xs (i + 2)) hR) go)
    by_cases z22 : z = 22
    · exact l_tabIn (off := 775) (tgt := 808) h z22 dL_33 (by decide) (by decide) (by decide) (by decide) (case_lonely h hi hL2 (o_lonely mC mM (xs (i + 1)) hR) go)
    by_cases z23 : z = 23
    · exact l_tabIn (off := 798) (tgt := 831) h z23 dL_33 (by decide) (by decide) (by decide) (by decide) (case_hinges h hi hL2 (o_hinges mC mM (xs (i + 1)) hR) go)
    by_cases z24 : z = 24
    · exact l_tabIn (off := 821) (tgt := 854) h z24 dL_33 (by decide) (by decide) (by decide) (by decide) (case_loudest h hi hL2 (o_loudest mC mM (xs (i + 1)) (xs (i + 2)) hR) go)
    by_cases z25 : z = 25
    · exact l_tabIn (off := 854) (tgt := 887) h z25 dL_33 (by decide) (by decide) (by decide) (by decide) (case_rest h hi hL2 (o_rest mC mM hR) go)
    by_cases z26 : z = 26
    · exact l_tabIn (off := 867) (tgt := 900) h z26 dL_33 (by decide) (by decide) (by decide) (by decide) (case_shop h hi hL2 (o_shop mC mM (xs (i + 1)) hR) go)
    by_cases z27 : z = 27
    · exact l_tabIn (off := 890) (tgt := 923) h z27 dL_33 (by decide) (by decide) (by decide) (by decide) (case_post h hi hL2 (o_post mC mM (xs (i + 1)) (xs (i + 2)) hR) go)
    by_cases z28 : z = 28
    · exact l_tabIn (off := 923) (tgt := 956) h z28 dL_33 (by decide) (by decide) (by decide) (by decide) (case_spread h hi hL2 (o_spread mC mM (xs (i + 1)) (xs (i + 2)) hR) go)
    by_cases z29 : z = 29
    · exact l_tabIn (off := 956) (tgt := 989) h z29 dL_33 (by decide) (by decide) (by decide) (by decide) (case_wake h hi hL2 (o_wake mC mM (xs (i + 1)) (xs (i + 2)) (xs (i + 3)) hR) go)
    by_cases z30 : z = 30
    · exact l_tabIn (off := 999) (tgt := 1032) h z30 dL_33 (by decide) (by decide) (by decide) (by decide) (case_odds h hi hL2 (o_odds mC mM (xs (i + 1)) (xs (i + 2)) (xs (i + 3)) hR) go)
    by_cases z31 : z = 31
    · exact l_tabIn (off := 1042) (tgt := 1075) h z31 dL_33 (by decide) (by decide) (by decide) (by decide) (case_lies h hi hL2 (o_lies mC mM (xs (i + 1)) hR) go)
    by_cases z32 : z = 32
    · exact l_tabIn (off := 1065) (tgt := 1098) h z32 dL_33 (by decide) (by decide) (by decide) (by decide) (case_lit h hi hL2 (o_lit mC mM (xs (i + 1)) (xs (i + 2)) (if (xs (i + 3)) = 0 then 0 else 1) hR (by by_cases c : xs (i + 3) = 0 <;> simp [c])) go)
    by_cases z33 : z = 33
    · exact l_tabIn (off := 1124) (tgt := 1157) h z33 dL_33 (by decide) (by decide) (by decide) (by decide) (case_untell h hi hL2 (o_untell mC mM (xs (i + 1)) hR) go)
    by_cases z34 : z = 34
    · exact l_tabIn (off := 1147) (tgt := 1180) h z34 dL_33 (by decide) (by decide) (by decide) (by decide) (case_later h hi hL2 (o_later mC mM (xs (i + 1)) hR) go)
    by_cases z35 : z = 35
    · exact l_tabIn (off := 1170) (tgt := 1203) h z35 dL_33 (by decide) (by decide) (by decide) (by decide) (case_fits h hi hL2 (o_fits mC mM (xs (i + 1)) hR) go)
    by_cases z36 : z = 36
    · exact l_tabIn (off := 1193) (tgt := 1226) h z36 dL_33 (by decide) (by decide) (by decide) (by decide) (case_sure h hi hL2 (o_sure mC mM (xs (i + 1)) (xs (i + 2)) hR) go)
    by_cases z37 : z = 37
    · exact l_tabIn (off := 1226) (tgt := 1259) h z37 dL_33 (by decide) (by decide) (by decide) (by decide) (case_ask h hi hL2 (o_ask mC mM (xs (i + 1)) (xs (i + 2)) (xs (i + 3)) hR) go)
    by_cases z38 : z = 38
    · exact l_tabIn (off := 1269) (tgt := 1302) h z38 dL_33 (by decide) (by decide) (by decide) (by decide) (case_image h hi hL2 (o_image mC mM (xs (i + 1)) hR) go)
    by_cases z39 : z = 39
    · exact l_tabIn (off := 1292) (tgt := 1325) h z39 dL_33 (by decide) (by decide) (by decide) (by decide) (case_back h hi hL2 (o_back mC mM (xs (i + 1)) hR) go)
    by_cases z40 : z = 40
    · exact l_tabIn (off := 1315) (tgt := 1348) h z40 dL_33 (by decide) (by decide) (by decide) (by decide) (case_about h hi hL2 (o_about mC mM (xs (i + 1)) hR) go)
    refine l_tabOut (tgt := 1371) h [(0 : Int32), (1 : Int32), (2 : Int32), (3 : Int32), (4 : Int32), (5 : Int32), (6 : Int32), (7 : Int32), (8 : Int32), (9 : Int32), (10 : Int32), (11 : Int32), (12 : Int32), (13 : Int32), (14 : Int32), (15 : Int32), (16 : Int32), (17 : Int32), (18 : Int32), (19 : Int32), (20 : Int32), (21 : Int32), (22 : Int32), (23 : Int32), (24 : Int32), (25 : Int32), (26 : Int32), (27 : Int32), (28 : Int32), (29 : Int32), (30 : Int32), (31 : Int32), (32 : Int32), (33 : Int32), (34 : Int32), (35 : Int32), (36 : Int32), (37 : Int32), (38 : Int32), (39 : Int32), (40 : Int32)] dL_33 ?_ (by decide) (by decide) (by decide) (go _ _ hR)
    intro v hv; simp only [List.mem_cons, List.not_mem_nil, or_false] at hv; rcases hv with rfl | rfl | rfl | rfl | rfl | rfl | rfl | rfl | rfl | rfl | rfl | rfl | rfl | rfl | rfl | rfl | rfl | rfl | rfl | rfl | rfl | rfl | rfl | rfl | rfl | rfl | rfl | rfl | rfl | rfl | rfl | rfl | rfl | rfl | rfl | rfl | rfl | rfl | rfl | rfl | rfl <;> assumption
