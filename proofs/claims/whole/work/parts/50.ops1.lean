/-! THE CALLS, one by one: those that only look -/
theorem ix_of {a : Int32} {n : Nat} (h : 0 ≤ a.toInt ∧ a.toInt < n) (hn : n < 2 ^ 31) : ∃ j, j < n ∧ a = nI j := vp_in_of (vp_in_iff.mpr h) hn
theorem bz1 {p : Prop} [Decidable p] (h : p) : ¬ bz p = 0 := fun e => (bz_eq0 p).mp e h
theorem bz0 {p : Prop} [Decidable p] (h : ¬ p) : bz p = 0 := (bz_eq0 p).mpr h
theorem lo_price : LO_price Inv := fun a => LawI.mk (fx := f_X6_price NN 0 a) (fm := f_X7_price NN 44 a) (fun h => ok_X6_price NN h) (fun h => ok_X7_price NN h) (by
  intro z A B G fl hz hR
  obtain ⟨s, t, ⟨n1, n2, n3, n4, n5, n6, n7, n8⟩, -⟩ := id hR
  unfold f_X6_price f_X7_price
  by_cases h : 0 ≤ a.toInt ∧ a.toInt < s
  · obtain ⟨j, hj, rfl⟩ := ix_of h (by omega)
    refine ⟨A 1 j, A, B, G, A, B, G, ?_, ?_, hR.next⟩
    · rw [ck_0, sb, s_isSignX n1 (by omega), b2s, if_neg (bz1 h), gx_0_0, sb, ldI_n (ly1 fl) (by omega) (by decide), sb]
    · rw [ck_44, sb, s_isSignM n2 (by omega), b2s, if_neg (bz1 h), gx_44_0, sb, ldI_n (ly45 fl) (by omega) (by decide), sb, (n7 j hj).1]
  · refine ⟨-1, A, B, G, A, B, G, ?_, ?_, hR.next⟩
    · rw [ck_0, sb, s_isSignX n1 (by omega), b2s, if_pos (bz0 h)]
    · rw [ck_44, sb, s_isSignM n2 (by omega), b2s, if_pos (bz0 h)])
theorem lo_broken : LO_broken Inv := fun a => LawI.mk (fx := f_X6_broken NN 0 a) (fm := f_X7_broken NN 44 a) (fun h => ok_X6_broken NN h) (fun h => ok_X7_broken NN h) (by
  intro z A B G fl hz hR
  obtain ⟨s, t, -, -, -, -, ⟨b1, b2⟩, -⟩ := id hR
  unfold f_X6_broken f_X7_broken
  by_cases h0 : a = 0
  · refine ⟨G 0 13, A, B, G, A, B, G, ?_, ?_, hR.next⟩
    · rw [if_pos h0, if_pos h0, gx_0_13, sb]
    · rw [if_pos h0, gx_44_36, sb, b1]
  · by_cases h1 : a = 1
    · refine ⟨G 0 14, A, B, G, A, B, G, ?_, ?_, hR.next⟩
      · rw [if_neg h0, if_pos h1, if_neg h0, gx_0_14, sb]
      · rw [if_neg h0, if_pos h1, gx_44_37, sb, b2]
    · refine ⟨-2, A, B, G, A, B, G, ?_, ?_, hR.next⟩
      · rw [if_neg h0, if_neg h1]
      · rw [if_neg h0, if_neg h1])
theorem lo_line : LO_line Inv := fun a => LawI.mk (fx := f_X6_line NN 0 a) (fm := f_X7_line NN 44 a) (fun h => ok_X6_line NN h) (fun h => ok_X7_line NN h) (by
  intro z A B G fl hz hR
  obtain ⟨s, t, -, -, ⟨n, l1, l2, l3, l4⟩, -⟩ := id hR
  unfold f_X6_line f_X7_line
  by_cases h : 0 ≤ a.toInt ∧ a.toInt < n
  · have h1 : ¬ a < 0 := fun q => by have := (i_neg a).mp q; omega
    have h2 : a < nI n := (i_lt (by omega) a).mpr h.2
    obtain ⟨j, hj, rfl⟩ := ix_of h (by omega)
    refine ⟨A 7 j, A, B, G, A, B, G, ?_, ?_, hR.next⟩
    · rw [if_neg h1, gx_0_5, sb, gx_6_2, sb, l1, if_pos h2, sb, gx_6_0, sb, ldI_n (ly7 fl) (by omega) (by decide), sb]
    · rw [gx_44_44, sb, l2, s_in0 (by omega), b2s, if_neg (bz1 h), gx_44_43, sb, ldI_n (ly72 fl) (by omega) (by decide), sb, (l4 j hj).1]
  · refine ⟨-6, A, B, G, A, B, G, ?_, ?_, hR.next⟩
    · by_cases h1 : a < 0
      · rw [if_pos h1]
      · have h1' : ¬ a.toInt < 0 := fun q => h1 ((i_neg a).mpr q)
        have h2 : ¬ a < nI n := fun q => by have := (i_lt (by omega) a).mp q; omega
        rw [if_neg h1, gx_0_5, sb, gx_6_2, sb, l1, if_neg h2]
    · rw [gx_44_44, sb, l2, s_in0 (by omega), b2s, if_pos (bz0 h)])
theorem lo_item : LO_item Inv := fun a => LawI.mk (fx := f_X6_item NN 0 a) (fm := f_X7_item NN 44 a) (fun h => ok_X6_item NN h) (fun h => ok_X7_item NN h) (by
  intro z A B G fl hz hR
  obtain ⟨s, t, -, -, -, ⟨n, l1, l2, l3, l4⟩, -⟩ := id hR
  unfold f_X6_item f_X7_item
  by_cases h : 0 ≤ a.toInt ∧ a.toInt < n
  · have h1 : ¬ a < 0 := fun q => by have := (i_neg a).mp q; omega
    have h2 : a < nI n := (i_lt (by omega) a).mpr h.2
    obtain ⟨j, hj, rfl⟩ := ix_of h (by omega)
    refine ⟨A 8 j, A, B, G, A, B, G, ?_, ?_, hR.next⟩
    · rw [if_neg h1, gx_0_5, sb, gx_6_3, sb, l1, if_pos h2, sb, gx_6_1, sb, ldI_n (ly8 fl) (by omega) (by decide), sb]
    · rw [gx_44_46, sb, l2, s_in0 (by omega), b2s, if_neg (bz1 h), gx_44_45, sb, ldI_n (ly73 fl) (by omega) (by decide), sb, l4 j hj]
  · refine ⟨-6, A, B, G, A, B, G, ?_, ?_, hR.next⟩
    · by_cases h1 : a < 0
      · rw [if_pos h1]
      · have h1' : ¬ a.toInt < 0 := fun q => h1 ((i_neg a).mpr q)
        have h2 : ¬ a < nI n := fun q => by have := (i_lt (by omega) a).mp q; omega
        rw [if_neg h1, gx_0_5, sb, gx_6_3, sb, l1, if_neg h2]
    · rw [gx_44_46, sb, l2, s_in0 (by omega), b2s, if_pos (bz0 h)])
