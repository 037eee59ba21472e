section Hc
variable {A : Nat → Nat → Int32} {B : Nat → Nat → Int64} {G : Nat → Nat → Int32} {fl : Nat → Bool} {N t : Nat}
theorem s_hasCode0 (h : G 13 2 = 0) : f_X6_hasCode N 0 (mem A B G fl) = some (0, mem A B G fl) := by
  unfold f_X6_hasCode
  rw [gx_0_7, sb, gx_13_2, sb, h, if_pos (show (0 : Int32) ≤ 0 by decide)]
theorem s_hasCode1 (h : G 13 2 = nI t) (h0 : 0 < t) (h1 : t ≤ 24) : f_X6_hasCode N 0 (mem A B G fl) = some (1, mem A B G fl) := by
  unfold f_X6_hasCode
  rw [gx_0_7, sb, gx_13_2, sb, h, if_neg (nI_nle h0 (by omega))]
end Hc
theorem lo_length : LO_length Inv := fun a => LawI.mk (fx := f_X6_length NN 0 a) (fm := f_X7_length NN 44 a) (fun h => ok_X6_length NN h) (fun h => ok_X7_length NN h) (by
  intro z A B G fl hz hR
  obtain ⟨s, t, ⟨n1, n2, n3, n4, n5, n6, n7, n8⟩, hc, -⟩ := id hR
  unfold f_X6_length f_X7_length
  by_cases h : 0 ≤ a.toInt ∧ a.toInt < t
  · rcases hc with ⟨c1, c2⟩ | ⟨c1, c2, c3, c4, c5, -⟩
    · refine ⟨-3, A, B, G, A, B, G, ?_, ?_, hR.next⟩
      · rw [ck_0, sb, s_isThingX n4 (by omega), b2s, if_neg (bz1 h), ck_0, sb, s_hasCode0 c1, b2s, if_pos rfl]
      · rw [ck_44, sb, s_isThingM n5 (by omega), b2s, if_neg (bz1 h), gx_44_4, sb, c2, if_pos rfl]
    · obtain ⟨j, hj, rfl⟩ := ix_of h (by omega)
      refine ⟨A 15 j, A, B, G, A, B, G, ?_, ?_, hR.next⟩
      · rw [ck_0, sb, s_isThingX n4 (by omega), b2s, if_neg (bz1 h), ck_0, sb, s_hasCode1 c1 c3 n6, b2s, if_neg (show ¬ (1 : Int32) = 0 by decide), gx_0_7, sb, gx_13_1, sb, ldI_n (ly15 fl) (by omega) (by decide), sb]
      · rw [ck_44, sb, s_isThingM n5 (by omega), b2s, if_neg (bz1 h), gx_44_4, sb, c2, if_neg (show ¬ (1 : Int32) = 0 by decide), gx_44_8, sb, ldI_n (ly48 fl) (by omega) (by decide), sb, (c5 j hj).2.1]
  · refine ⟨-1, A, B, G, A, B, G, ?_, ?_, hR.next⟩
    · rw [ck_0, sb, s_isThingX n4 (by omega), b2s, if_pos (bz0 h)]
    · rw [ck_44, sb, s_isThingM n5 (by omega), b2s, if_pos (bz0 h)])
theorem lo_word : LO_word Inv := fun a k => LawI.mk (fx := f_X6_word NN 0 a k) (fm := f_X7_word NN 44 a k) (fun h => ok_X6_word NN h) (fun h => ok_X7_word NN h) (by
  intro z A B G fl hz hR
  obtain ⟨s, t, ⟨n1, n2, n3, n4, n5, n6, n7, n8⟩, hc, -⟩ := id hR
  unfold f_X6_word f_X7_word
  by_cases h : 0 ≤ a.toInt ∧ a.toInt < t
  · rcases hc with ⟨c1, c2⟩ | ⟨c1, c2, c3, c4, c5, -⟩
    · refine ⟨-3, A, B, G, A, B, G, ?_, ?_, hR.next⟩
      · rw [ck_0, sb, s_isThingX n4 (by omega), b2s, if_neg (bz1 h), ck_0, sb, s_hasCode0 c1, b2s, if_pos rfl]
      · rw [ck_44, sb, s_isThingM n5 (by omega), b2s, if_neg (bz1 h), gx_44_4, sb, c2, if_pos rfl]
    · obtain ⟨j, hj, rfl⟩ := ix_of h (by omega)
      obtain ⟨w1, w2, R, n, e1, e2, hR1, hn, -, -⟩ := c5 j hj
      have hR2 := r48 hR1
      by_cases h2 : 0 ≤ k.toInt ∧ k.toInt < n
      · have k1 : ¬ k < 0 := fun q => by have := (i_neg k).mp q; omega
        have k2 : k < nI n := (i_lt (by omega) k).mpr h2.2
        obtain ⟨i, hi, rfl⟩ := ix_of h2 (by omega)
        refine ⟨nI (dg R i), A, B, G, A, B, G, ?_, ?_, hR.next⟩
        · rw [ck_0, sb, s_isThingX n4 (by omega), b2s, if_neg (bz1 h), ck_0, sb, s_hasCode1 c1 c3 n6, b2s, if_neg (show ¬ (1 : Int32) = 0 by decide), if_neg k1, gx_0_7, sb, gx_13_1, sb, ldI_n (ly15 fl) (by omega) (by decide), sb, e2, if_pos k2, sb, gx_13_0, sb, ldJ_n (ly14 fl) (by omega) (by decide), sb, e1, s_signOfRow (by omega) (by omega), b2s]
        · rw [ck_44, sb, s_isThingM n5 (by omega), b2s, if_neg (bz1 h), gx_44_4, sb, c2, if_neg (show ¬ (1 : Int32) = 0 by decide), gx_44_8, sb, ldI_n (ly48 fl) (by omega) (by decide), sb, w2, e2, s_in0 (by omega), b2s, if_neg (bz1 h2), gx_44_7, sb, ldJ_n (ly47 fl) (by omega) (by decide), sb, w1, e1, s_signAt (by omega) (by omega), b2s]
      · refine ⟨-6, A, B, G, A, B, G, ?_, ?_, hR.next⟩
        · rw [ck_0, sb, s_isThingX n4 (by omega), b2s, if_neg (bz1 h), ck_0, sb, s_hasCode1 c1 c3 n6, b2s, if_neg (show ¬ (1 : Int32) = 0 by decide)]
          by_cases k1 : k < 0
          · rw [if_pos k1]
          · have k1' : ¬ k.toInt < 0 := fun q => k1 ((i_neg k).mpr q)
            have k2 : ¬ k < nI n := fun q => by have := (i_lt (by omega) k).mp q; omega
            rw [if_neg k1, gx_0_7, sb, gx_13_1, sb, ldI_n (ly15 fl) (by omega) (by decide), sb, e2, if_neg k2]
        · rw [ck_44, sb, s_isThingM n5 (by omega), b2s, if_neg (bz1 h), gx_44_4, sb, c2, if_neg (show ¬ (1 : Int32) = 0 by decide), gx_44_8, sb, ldI_n (ly48 fl) (by omega) (by decide), sb, w2, e2, s_in0 (by omega), b2s, if_pos (bz0 h2)]
  · refine ⟨-1, A, B, G, A, B, G, ?_, ?_, hR.next⟩
    · rw [ck_0, sb, s_isThingX n4 (by omega), b2s, if_pos (bz0 h)]
    · rw [ck_44, sb, s_isThingM n5 (by omega), b2s, if_pos (bz0 h)])
theorem lo_grown : LO_grown Inv := fun a => LawI.mk (fx := f_X6_grown NN 0 a) (fm := f_X7_grown NN 44 a) (fun h => ok_X6_grown NN h) (fun h => ok_X7_grown NN h) (by
  intro z A B G fl hz hR
  obtain ⟨s, t, ⟨n1, n2, n3, n4, n5, n6, n7, n8⟩, hc, -⟩ := id hR
  unfold f_X6_grown f_X7_grown
  by_cases h : 0 ≤ a.toInt ∧ a.toInt < t
  · rcases hc with ⟨c1, c2⟩ | ⟨c1, c2, c3, c4, c5, c6⟩
    · refine ⟨-3, A, B, G, A, B, G, ?_, ?_, hR.next⟩
      · rw [ck_0, sb, s_isThingX n4 (by omega), b2s, if_neg (bz1 h), ck_0, sb]
        unfold f_X6_isGrowing
        rw [ck_0, sb, s_hasCode0 c1, b2s, if_pos rfl, b2s, if_pos rfl]
      · rw [ck_44, sb, s_isThingM n5 (by omega), b2s, if_neg (bz1 h), gx_44_4, sb, c2, if_pos rfl]
    · obtain ⟨j, hj, rfl⟩ := ix_of h (by omega)
      have hno : G 0 12 ≠ 2 → G 44 6 = 0 → ∃ r A1 B1 G1 A2 B2 G2, f_X6_grown NN 0 (nI j) (mem A B G fl) = some (r, mem A1 B1 G1 fl) ∧ f_X7_grown NN 44 (nI j) (mem A1 B1 G1 fl) = some (r, mem A2 B2 G2 fl) ∧ Rv (z + 1) A2 B2 G2 fl := by
        intro q1 q2
        unfold f_X6_grown f_X7_grown
        refine ⟨-3, A, B, G, A, B, G, ?_, ?_, hR.next⟩
        · rw [ck_0, sb, s_isThingX n4 (by omega), b2s, if_neg (bz1 h), ck_0, sb]
          unfold f_X6_isGrowing
          rw [ck_0, sb, s_hasCode1 c1 c3 n6, b2s, if_neg (show ¬ (1 : Int32) = 0 by decide), gx_0_12, sb, if_neg q1, b2s, if_pos rfl]
        · rw [ck_44, sb, s_isThingM n5 (by omega), b2s, if_neg (bz1 h), gx_44_4, sb, c2, if_neg (show ¬ (1 : Int32) = 0 by decide), gx_44_6, sb, q2, if_pos rfl]
      rcases c6 with ⟨m1, m2, m3⟩ | ⟨m1, m2, m3⟩ | ⟨m1, m2, m3, -, -, m6⟩
      · exact hno (by rw [m1]; decide) m3
      · exact hno (by rw [m1]; decide) m3
      · refine ⟨A 4 j, A, B, G, A, B, G, ?_, ?_, hR.next⟩
        · rw [ck_0, sb, s_isThingX n4 (by omega), b2s, if_neg (bz1 h), ck_0, sb]
          unfold f_X6_isGrowing
          rw [ck_0, sb, s_hasCode1 c1 c3 n6, b2s, if_neg (show ¬ (1 : Int32) = 0 by decide), gx_0_12, sb, if_pos m1, b2s, if_neg (show ¬ (1 : Int32) = 0 by decide), gx_0_3, sb, ldI_n (ly4 fl) (by omega) (by decide), sb]
        · rw [ck_44, sb, s_isThingM n5 (by omega), b2s, if_neg (bz1 h), gx_44_4, sb, c2, if_neg (show ¬ (1 : Int32) = 0 by decide), gx_44_6, sb, m3, if_neg (show ¬ (1 : Int32) = 0 by decide), gx_44_9, sb, ldI_n (ly49 fl) (by omega) (by decide), sb, (m6 j hj).1]
  · refine ⟨-1, A, B, G, A, B, G, ?_, ?_, hR.next⟩
    · rw [ck_0, sb, s_isThingX n4 (by omega), b2s, if_pos (bz0 h)]
    · rw [ck_44, sb, s_isThingM n5 (by omega), b2s, if_pos (bz0 h)])
theorem s_back {A : Nat → Nat → Int32} {B : Nat → Nat → Int64} {G : Nat → Nat → Int32} {fl : Nat → Bool} {N k st : Nat} {c : Nat → Nat} (hf : fl 3 = true) (hst : st ≤ 2000) (hc : ∀ j, j < st → c j < 2000 ∧ A 101 (c j) = nI (c (j + 1)) ∧ A 102 (c j) = A 78 (st - 1 - j)) (hk : k < st) : ∀ (d n : Nat), k + d < st → d < n → f_X5_signOfStep_L34 N n 98 (nI k) (nI (c (st - 1 - (k + d)))) (nI (k + d)) (mem A B G fl) = some (A 78 k, mem A B G fl) := by
  intro d
  induction d with
  | zero =>
    intro n h1 h2
    obtain ⟨n, rfl⟩ : ∃ j, n = j + 1 := ⟨n - 1, by omega⟩
    have q := hc (st - 1 - k) (by omega)
    rw [f_X5_signOfStep_L34, if_pos (nI_le (by omega) (by omega)), gx_98_3 hf, sb, ldI_n (ly102 hf) (i := c (st - 1 - (k + 0))) (by simpa using q.1) (by decide), sb]
    show some (A 102 (c (st - 1 - k)), _) = _
    rw [q.2.2, show st - 1 - (st - 1 - k) = k by omega]
  | succ d ih =>
    intro n h1 h2
    obtain ⟨n, rfl⟩ : ∃ j, n = j + 1 := ⟨n - 1, by omega⟩
    have q := hc (st - 1 - (k + (d + 1))) (by omega)
    rw [f_X5_signOfStep_L34, if_neg (nI_ge (by omega) (by omega)), gx_98_2 hf, sb, ldI_n (ly101 hf) q.1 (by decide), sb, q.2.1, show st - 1 - (k + (d + 1)) + 1 = st - 1 - (k + d) by omega, show nI (k + (d + 1)) + -1 = nI (k + d) from pk_m1 (k + d)]
    exact ih n (by omega) (by omega)
theorem lo_stepSign : LO_stepSign Inv := fun a => LawI.mk (fx := f_X6_stepSign NN 0 a) (fm := f_X7_stepSign NN 44 a) (fun h => ok_X6_stepSign NN h) (fun h => ok_X7_stepSign NN h) (by
  intro z A B G fl hz hR
  obtain ⟨s, t, -, -, -, -, -, -, hst, -⟩ := id hR
  unfold f_X6_stepSign f_X7_stepSign
  rcases hst with ⟨f0, p1, p2⟩ | ⟨f1, p1, p2⟩
  · refine ⟨-6, A, B, G, A, B, G, ?_, ?_, hR.next⟩
    · rw [gn_0_17, sb, if_neg (by rw [f0]; decide)]
    · rw [gx_44_53, sb, show G 44 53 = nI 0 from p1, s_in0 (by decide), b2s, if_pos (bz0 (by omega))]
  · have hx : f_X6_stepSign NN 0 a (mem A B G fl) = (bnd2 (f_X5_signOfStep NN 98 a (mem A B G fl)) fun v17 M17 => some (v17, M17)) := by
      unfold f_X6_stepSign
      rw [gn_0_17, sb, if_pos f1]
      show ((gR (mem A B G fl) 0 6 17).bind _) = _
      rw [gx_0_17 f1, sb, ck_98 f1, sb]
    have e0 : ∀ r A1 B1 G1, f_X6_stepSign NN 0 a (mem A B G fl) = some (r, mem A1 B1 G1 fl) → ((gN (mem A B G fl) 0 6 17).bind fun v1 => match v1 with | none => some (-6, mem A B G fl) | some _ => (gR (mem A B G fl) 0 6 17).bind fun v13 => (chk (mem A B G fl) v13 5).bind fun _ => bnd2 (f_X5_signOfStep NN v13 a (mem A B G fl)) fun v17 M17 => some (v17, M17)) = some (r, mem A1 B1 G1 fl) := fun r A1 B1 G1 h => h
    rcases p2 with ⟨q1, q2⟩ | ⟨st, c, q1, q2, q3, q4, q5, q6⟩
    · refine ⟨-6, A, B, G, A, B, G, e0 _ _ _ _ ?_, ?_, hR.next⟩
      · rw [hx]
        unfold f_X5_signOfStep
        rw [gx_98_9 f1, sb, q1, if_pos (show (-1 : Int32) < 0 by decide), b2s]
      · rw [gx_44_53, sb, show G 44 53 = nI 0 from q2, s_in0 (by decide), b2s, if_pos (bz0 (by omega))]
    · by_cases h : 0 ≤ a.toInt ∧ a.toInt < st
      · have h1 : ¬ a < 0 := fun q => by have := (i_neg a).mp q; omega
        have h2 : a < nI st := (i_lt (by omega) a).mpr h.2
        obtain ⟨k, hk, rfl⟩ := ix_of h (by omega)
        refine ⟨A 78 k, A, B, G, A, B, G, e0 _ _ _ _ ?_, ?_, hR.next⟩
        · rw [hx]
          unfold f_X5_signOfStep
          have hb := s_back (A := A) (B := B) (G := G) (N := NN) f1 q4 q6 hk (st - 1 - k) NN (by omega) (by show _ < 300000; omega)
          rw [show k + (st - 1 - k) = st - 1 by omega, Nat.sub_self] at hb
          rw [gx_98_9 f1, sb, q1, if_neg (nI_pos (by omega)), if_neg h1, gx_98_10 f1, sb, q2, if_pos h2, sb, sb, show (1 : Int32) = nI 1 from rfl, pk_sub (by omega), hb, b2s]
        · rw [gx_44_53, sb, q3, s_in0 (by omega), b2s, if_neg (bz1 h), gx_44_52, sb, ldI_n (ly78 fl) (by omega) (by decide), sb]
      · refine ⟨-6, A, B, G, A, B, G, e0 _ _ _ _ ?_, ?_, hR.next⟩
        · rw [hx]
          unfold f_X5_signOfStep
          rw [gx_98_9 f1, sb, q1, if_neg (nI_pos (by omega))]
          by_cases h1 : a < 0
          · rw [if_pos h1, b2s]
          · have h1' : ¬ a.toInt < 0 := fun q => h1 ((i_neg a).mpr q)
            have h2 : ¬ a < nI st := fun q => by have := (i_lt (by omega) a).mp q; omega
            rw [if_neg h1, gx_98_10 f1, sb, q2, if_neg h2, b2s]
        · rw [gx_44_53, sb, q3, s_in0 (by omega), b2s, if_pos (bz0 h)])
