theorem swL (v : Int32) : (v.toInt < 0 ∨ 33 < v.toInt) ∨ ∃ k : Nat, k < 34 ∧ v = nI k := by
  by_cases h : v.toInt < 0 ∨ 33 < v.toInt
  · exact Or.inl h
  · refine Or.inr ⟨v.toInt.toNat, by omega, ?_⟩
    apply Int32.toInt_inj.mp
    rw [nI_toInt (by omega)]
    omega
theorem ix3 {L i : Nat} (hL : L ≤ 1536) (hi : i ≤ L + 3) (c : ¬ nI L - 3 < nI i) : i + 3 ≤ L := by
  rw [show (3 : Int32) = nI 3 from rfl, Int32.lt_iff_toInt_lt, pk_sub_toInt (by omega) (by omega), nI_toInt (by omega)] at c
  omega
set_option maxHeartbeats 4000000 in
set_option maxRecDepth 100000 in
/-- THE LAW'S LOOP, out of what each call does -/
theorem law_loop {Y : LX} (C : CL Y) (hL : lL Y ≤ 1536) {Inv : Nat → A_M → Nat → Nat → Prop} (hB : InvB Inv) (H0 : LO_sign Inv) (H1 : LO_thing Inv) (H2 : LO_count Inv) (H3 : LO_build Inv) (H4 : LO_own Inv) (H5 : LO_add Inv) (H6 : LO_holds Inv) (H7 : LO_broken Inv) (H8 : LO_cost Inv) (H9 : LO_mean Inv) (H10 : LO_length Inv) (H11 : LO_word Inv) (H12 : LO_room Inv) (H13 : LO_full Inv) (H14 : LO_canon Inv) (H15 : LO_node Inv) (H16 : LO_write Inv) (H17 : LO_put Inv) (H18 : LO_wipe Inv) (H19 : LO_line Inv) (H20 : LO_read Inv) (H21 : LO_item Inv) (H22 : LO_grow Inv) (H23 : LO_send Inv) (H24 : LO_hear Inv) (H25 : LO_grown Inv) (H26 : LO_step Inv) (H27 : LO_stepSign Inv) (H28 : LO_keep Inv) (H29 : LO_back Inv) (H30 : LO_differs Inv) (H31 : LO_told Inv) (H32 : LO_price Inv) (H33 : LO_rank Inv) : ∀ (n i z : Nat) (M : A_M) (cs sl : Nat), i ≤ lL Y + 3 → z ≤ i → lL Y + 4 ≤ i + n → Inv z M cs sl → JL Y 18 (nI i) [] M cs sl := by
  intro n
  induction n with
  | zero =>
    intro i z M cs sl h1 hz h2
    exact absurd h2 (by omega)
  | succ n ih =>
    intro i z M cs sl h1 hz h2 hI
    have hc := hB _ _ _ _ hI
    refine L_iload (pc' := 19) C dL_law_18 rfl ?_
    refine L_slen (pc' := 21) C dL_law_19 rfl dL_law_20 rfl ?_
    refine L_iconst (pc' := 22) (v := 3) C dL_law_21 rfl (by decide) ?_
    refine L_isub (pc' := 23) C dL_law_22 rfl ?_
    refine L_icmp_gt (tgt := 927) (pc' := 26) C dL_law_23 (by decide) rfl (fun c => ?_) (fun c => ?_)
    · exact L_end C dL_law_927 rfl dL_law_928 hc.1 hc.2.1
    · have h3 : i + 3 ≤ lL Y := ix3 hL h1 c
      have v0 : vp_in (nI i) (lL Y) := vp_in_nI (by omega) (by omega)
      have v1 : vp_in (nI i + 1) (lL Y) := by rw [nI_1]; exact vp_in_nI (by omega) (by omega)
      have v2 : vp_in (nI i + 2) (lL Y) := by rw [show (2 : Int32) = nI 2 from rfl, nI_add]; exact vp_in_nI (by omega) (by omega)
      have back : ∀ z M cs sl, z ≤ i + 3 → Inv z M cs sl → JL Y 921 (nI i) [] M cs sl := by
        intro z M cs sl hz hI
        refine L_iinc (pc' := 924) (v := nI (i + 3)) C dL_law_921 rfl (by rw [← nI_add]; rfl) ?_
        refine L_goto (tgt := 18) C dL_law_924 (by decide) ?_
        exact ih (i + 3) z M cs sl (by omega) hz (by omega) hI
      refine L_sld0 (pc' := 29) C v0 dL_law_26 rfl dL_law_27 rfl dL_law_28 rfl ?_
      refine L_bipush (pc' := 31) (v := 63) C dL_law_29 rfl (by decide) ?_
      refine L_iand (pc' := 32) C dL_law_31 rfl ?_
      generalize lxs Y (nI i).toNatClampNeg &&& 63 = w
      rcases swL w with h | ⟨k, hk, rfl⟩
      · exact L_tableOut (tgt := 921) C dL_law_32 h (by decide) (back z M cs sl (by omega) hI)
      · match k, hk with
        | 0, _ => exact L_tableIn (tgt := 184) (off := 152) C dL_law_32 (by decide) (by decide) rfl (by decide) (lc_sign C hB H0 (by omega) v1 v2 hI (fun M cs sl h => back (z + 1) M cs sl (by omega) h))
        | 1, _ => exact L_tableIn (tgt := 207) (off := 175) C dL_law_32 (by decide) (by decide) rfl (by decide) (lc_thing C hB H1 (by omega) v1 v2 hI (fun M cs sl h => back (z + 1) M cs sl (by omega) h))
        | 2, _ => exact L_tableIn (tgt := 230) (off := 198) C dL_law_32 (by decide) (by decide) rfl (by decide) (lc_count C hB H2 (by omega) v1 v2 hI (fun M cs sl h => back (z + 1) M cs sl (by omega) h))
        | 3, _ => exact L_tableIn (tgt := 263) (off := 231) C dL_law_32 (by decide) (by decide) rfl (by decide) (lc_build C hB H3 (by omega) v1 v2 hI (fun M cs sl h => back (z + 1) M cs sl (by omega) h))
        | 4, _ => exact L_tableIn (tgt := 297) (off := 265) C dL_law_32 (by decide) (by decide) rfl (by decide) (lc_own C hB H4 (by omega) v1 v2 hI (fun M cs sl h => back (z + 1) M cs sl (by omega) h))
        | 5, _ => exact L_tableIn (tgt := 310) (off := 278) C dL_law_32 (by decide) (by decide) rfl (by decide) (lc_add C hB H5 (by omega) v1 v2 hI (fun M cs sl h => back (z + 1) M cs sl (by omega) h))
        | 6, _ => exact L_tableIn (tgt := 343) (off := 311) C dL_law_32 (by decide) (by decide) rfl (by decide) (lc_holds C hB H6 (by omega) v1 v2 hI (fun M cs sl h => back (z + 1) M cs sl (by omega) h))
        | 7, _ => exact L_tableIn (tgt := 376) (off := 344) C dL_law_32 (by decide) (by decide) rfl (by decide) (lc_broken C hB H7 (by omega) v1 v2 hI (fun M cs sl h => back (z + 1) M cs sl (by omega) h))
        | 8, _ => exact L_tableIn (tgt := 399) (off := 367) C dL_law_32 (by decide) (by decide) rfl (by decide) (lc_cost C hB H8 (by omega) v1 v2 hI (fun M cs sl h => back (z + 1) M cs sl (by omega) h))
        | 9, _ => exact L_tableIn (tgt := 413) (off := 381) C dL_law_32 (by decide) (by decide) rfl (by decide) (lc_mean C hB H9 (by omega) v1 v2 hI (fun M cs sl h => back (z + 1) M cs sl (by omega) h))
        | 10, _ => exact L_tableIn (tgt := 427) (off := 395) C dL_law_32 (by decide) (by decide) rfl (by decide) (lc_length C hB H10 (by omega) v1 v2 hI (fun M cs sl h => back (z + 1) M cs sl (by omega) h))
        | 11, _ => exact L_tableIn (tgt := 450) (off := 418) C dL_law_32 (by decide) (by decide) rfl (by decide) (lc_word C hB H11 (by omega) v1 v2 hI (fun M cs sl h => back (z + 1) M cs sl (by omega) h))
        | 12, _ => exact L_tableIn (tgt := 483) (off := 451) C dL_law_32 (by decide) (by decide) rfl (by decide) (lc_room C hB H12 (by omega) v1 v2 hI (fun M cs sl h => back (z + 1) M cs sl (by omega) h))
        | 13, _ => exact L_tableIn (tgt := 497) (off := 465) C dL_law_32 (by decide) (by decide) rfl (by decide) (lc_full C hB H13 (by omega) v1 v2 hI (fun M cs sl h => back (z + 1) M cs sl (by omega) h))
        | 14, _ => exact L_tableIn (tgt := 510) (off := 478) C dL_law_32 (by decide) (by decide) rfl (by decide) (lc_canon C hB H14 (by omega) v1 v2 hI (fun M cs sl h => back (z + 1) M cs sl (by omega) h))
        | 15, _ => exact L_tableIn (tgt := 523) (off := 491) C dL_law_32 (by decide) (by decide) rfl (by decide) (lc_node C hB H15 (by omega) v1 v2 hI (fun M cs sl h => back (z + 1) M cs sl (by omega) h))
        | 16, _ => exact L_tableIn (tgt := 557) (off := 525) C dL_law_32 (by decide) (by decide) rfl (by decide) (lc_write C hB H16 (by omega) v1 v2 hI (fun M cs sl h => back (z + 1) M cs sl (by omega) h))
        | 17, _ => exact L_tableIn (tgt := 580) (off := 548) C dL_law_32 (by decide) (by decide) rfl (by decide) (lc_put C hB H17 (by omega) v1 v2 hI (fun M cs sl h => back (z + 1) M cs sl (by omega) h))
        | 18, _ => exact L_tableIn (tgt := 603) (off := 571) C dL_law_32 (by decide) (by decide) rfl (by decide) (lc_wipe C hB H18 (by omega) v1 v2 hI (fun M cs sl h => back (z + 1) M cs sl (by omega) h))
        | 19, _ => exact L_tableIn (tgt := 616) (off := 584) C dL_law_32 (by decide) (by decide) rfl (by decide) (lc_line C hB H19 (by omega) v1 v2 hI (fun M cs sl h => back (z + 1) M cs sl (by omega) h))
        | 20, _ => exact L_tableIn (tgt := 639) (off := 607) C dL_law_32 (by decide) (by decide) rfl (by decide) (lc_read C hB H20 (by omega) v1 v2 hI (fun M cs sl h => back (z + 1) M cs sl (by omega) h))
        | 21, _ => exact L_tableIn (tgt := 652) (off := 620) C dL_law_32 (by decide) (by decide) rfl (by decide) (lc_item C hB H21 (by omega) v1 v2 hI (fun M cs sl h => back (z + 1) M cs sl (by omega) h))
        | 22, _ => exact L_tableIn (tgt := 675) (off := 643) C dL_law_32 (by decide) (by decide) rfl (by decide) (lc_grow C hB H22 (by omega) v1 v2 hI (fun M cs sl h => back (z + 1) M cs sl (by omega) h))
        | 23, _ => exact L_tableIn (tgt := 688) (off := 656) C dL_law_32 (by decide) (by decide) rfl (by decide) (lc_send C hB H23 (by omega) v1 v2 hI (fun M cs sl h => back (z + 1) M cs sl (by omega) h))
        | 24, _ => exact L_tableIn (tgt := 711) (off := 679) C dL_law_32 (by decide) (by decide) rfl (by decide) (lc_hear C hB H24 (by omega) v1 v2 hI (fun M cs sl h => back (z + 1) M cs sl (by omega) h))
        | 25, _ => exact L_tableIn (tgt := 724) (off := 692) C dL_law_32 (by decide) (by decide) rfl (by decide) (lc_grown C hB H25 (by omega) v1 v2 hI (fun M cs sl h => back (z + 1) M cs sl (by omega) h))
        | 26, _ => exact L_tableIn (tgt := 747) (off := 715) C dL_law_32 (by decide) (by decide) rfl (by decide) (lc_step C hB H26 (by omega) v1 v2 hI (fun M cs sl h => back (z + 1) M cs sl (by omega) h))
        | 27, _ => exact L_tableIn (tgt := 760) (off := 728) C dL_law_32 (by decide) (by decide) rfl (by decide) (lc_stepSign C hB H27 (by omega) v1 v2 hI (fun M cs sl h => back (z + 1) M cs sl (by omega) h))
        | 28, _ => exact L_tableIn (tgt := 783) (off := 751) C dL_law_32 (by decide) (by decide) rfl (by decide) (lc_keep C hB H28 (by omega) v1 v2 hI (fun M cs sl h => back (z + 1) M cs sl (by omega) h))
        | 29, _ => exact L_tableIn (tgt := 806) (off := 774) C dL_law_32 (by decide) (by decide) rfl (by decide) (lc_back C hB H29 (by omega) v1 v2 hI (fun M cs sl h => back (z + 1) M cs sl (by omega) h))
        | 30, _ => exact L_tableIn (tgt := 829) (off := 797) C dL_law_32 (by decide) (by decide) rfl (by decide) (lc_differs C hB H30 (by omega) v1 v2 hI (fun M cs sl h => back (z + 1) M cs sl (by omega) h))
        | 31, _ => exact L_tableIn (tgt := 852) (off := 820) C dL_law_32 (by decide) (by decide) rfl (by decide) (lc_told C hB H31 (by omega) v1 v2 hI (fun M cs sl h => back (z + 1) M cs sl (by omega) h))
        | 32, _ => exact L_tableIn (tgt := 875) (off := 843) C dL_law_32 (by decide) (by decide) rfl (by decide) (lc_price C hB H32 (by omega) v1 v2 hI (fun M cs sl h => back (z + 1) M cs sl (by omega) h))
        | 33, _ => exact L_tableIn (tgt := 898) (off := 866) C dL_law_32 (by decide) (by decide) rfl (by decide) (lc_rank C hB H33 (by omega) v1 v2 hI (fun M cs sl h => back (z + 1) M cs sl (by omega) h))
        | k + 34, hk => exact absurd hk (by omega)
