/-! back, count, thing, sign -/
theorem lo_back : LO_back Inv := fun a => LawI.mk (fx := f_X6_back NN 0 a) (fm := f_X7_back NN 44 a) (fun h => ok_X6_back NN h) (fun h => ok_X7_back NN h) (by
  intro z A B G fl hz hR
  obtain ⟨s, t, h1, hc, h3, h4, h5, h6, h7, h8⟩ := id hR
  obtain ⟨n1, n2, n3, n4, n5, n6, n7, n8⟩ := id h1
  unfold f_X6_back f_X7_back
  by_cases h : 0 ≤ a.toInt ∧ a.toInt < (8 : Nat)
  · obtain ⟨p, hp, rfl⟩ := ix_of h (by decide)
    obtain ⟨n, p1, p2, p3, p4, p5⟩ := h6 p hp
    by_cases h0 : 0 < n
    · by_cases hnt : n = t
      · subst hnt
        generalize hA1 : upA A 15 (va_cpy (A (20 + 3 * p + 2)) (A 15) 0 0 24) = A1
        generalize hB1 : upA B 14 (va_cpy (B (20 + 3 * p + 1)) (B 14) 0 0 24) = B1
        generalize hG1 : upA (upA G 13 (upd (G 13) 2 (G (20 + 3 * p) 2))) 0 (upd (upA G 13 (upd (G 13) 2 (G (20 + 3 * p) 2)) 0) 12 0) = G1
        have qA : ∀ k, k ≠ 15 → A1 k = A k := fun k hk => by rw [← hA1, upA_ne _ _ _ (by omega)]
        have qB : ∀ k, k ≠ 14 → B1 k = B k := fun k hk => by rw [← hB1, upA_ne _ _ _ (by omega)]
        have qG : ∀ k, k ≠ 0 → k ≠ 13 → G1 k = G k := fun k hk hk2 => by rw [← hG1, upA_ne _ _ _ hk, upA_ne _ _ _ hk2]
        have qG0 : ∀ j, j ≠ 12 → G1 0 j = G 0 j := fun j hj => by rw [← hG1, upA_same, upd_ne _ _ _ hj]; rfl
        have rA : ∀ j, j < 24 → A1 15 j = A (22 + 3 * p) j := fun j hj => by rw [← hA1, show 22 + 3 * p = 20 + 3 * p + 2 by omega, upA_same, cpy_in _ _ hj]
        have rB : ∀ j, j < 24 → B1 14 j = B (21 + 3 * p) j := fun j hj => by rw [← hB1, show 21 + 3 * p = 20 + 3 * p + 1 by omega, upA_same, cpy_in _ _ hj]
        have rG : G1 13 2 = nI n := by rw [← hG1, upA_ne _ _ _ (by decide), upA_same, upd_eq, p2]
        have rG0 : G1 0 12 = 0 := by rw [← hG1, upA_same, upd_eq]
        generalize hA2 : upA A1 48 (pst (A1 48) (fun j => A1 80 (24 * p + j)) 0 0 n) = A2
        generalize hB2 : upA B1 47 (pst (B1 47) (fun j => B1 79 (24 * p + j)) 0 0 n) = B2
        generalize hG2 : upA G1 44 (cmG (G1 44)) = G2
        have uA : ∀ k, k ≠ 48 → A2 k = A1 k := fun k hk => by rw [← hA2, upA_ne _ _ _ hk]
        have uB : ∀ k, k ≠ 47 → B2 k = B1 k := fun k hk => by rw [← hB2, upA_ne _ _ _ hk]
        have uG : ∀ k, k ≠ 44 → G2 k = G1 k := fun k hk => by rw [← hG2, upA_ne _ _ _ hk]
        have uG4 : G2 44 = cmG (G 44) := by rw [← hG2, upA_same, qG 44 (by decide) (by decide)]
        have v48 : ∀ i, i < n → A2 48 i = A 80 (24 * p + i) := fun i hi => by
          rw [← hA2, upA_same]
          have := pst_in (A1 48) (fun j => A1 80 (24 * p + j)) (o := 0) hi
          rw [Nat.zero_add] at this
          rw [this, qA 80 (by decide)]
        have v47 : ∀ i, i < n → B2 47 i = B 79 (24 * p + i) := fun i hi => by
          rw [← hB2, upA_same]
          have := pst_in (B1 47) (fun j => B1 79 (24 * p + j)) (o := 0) hi
          rw [Nat.zero_add] at this
          rw [this, qB 79 (by decide)]
        refine ⟨1, A1, B1, G1, A2, B2, G2, ?_, ?_, s, n, h1.congr ?_ ?_ ?_ ?_ ?_ ?_ ?_ ?_, ?_, h3.congr ?_ ?_ ?_ ?_, h4.congr ?_ ?_ ?_ ?_, h5.congr ?_ ?_ ?_ ?_, h6.congr (fun p hp => ?_) ?_ ?_ (fun p hp => ?_) ?_ (fun p hp => ?_), h7.congr ?_ ?_ ?_ ?_ ?_ ?_ ?_ ?_, h8.congr ?_ ?_⟩
        · rw [ck_0, sb, s_isKept hp (by omega) p2, b2s, if_neg (bz1 h0), gx_0_9, sb, ldA8 hp, sb, cd_num (cdP fl hp), sb, p2, gx_0_11, sb, n4, if_pos rfl, sb, ldA8 hp, sb, ck_0, sb]
          unfold f_X6_handOver
          rw [gx_0_7, sb, ck_13, sb, s_take (cd13 fl) (cdP fl hp) (by omega), sb, px_0_12, sb, sb, hA1, hB1, hG1]
        · rw [s_in07, b2s, if_neg (bz1 h), gx_44_56, sb, ldI_n (ly81 fl) hp (by decide), sb, qA 81 (by decide), p3, if_neg (nI_ne0 h0 (by omega)), sb, ldI_n (ly81 fl) hp (by decide), sb, gx_44_3, sb, qA 81 (by decide), p3, qG 44 (by decide) (by decide), n5, if_pos rfl, show (0 : Int32) = nI 0 from rfl, s_backM hp (by rw [qG 44 (by decide) (by decide)]; exact n5) n6 n 0 NN A1 B1 (by omega) (by show _ < 300000; omega), hA2, hB2, hG2]
        all_goals first
          | (rw [uG4]; rfl)
          | (rw [uG _ (by decide), qG0 _ (by decide)]; done)
          | (rw [uG _ (by omega), qG _ (by omega) (by omega)]; done)
          | (rw [uA _ (by omega), qA _ (by omega)]; done)
          | (rw [uB _ (by omega), qB _ (by omega)]; done)
          | skip
        refine Or.inr ⟨by rw [uG _ (by decide), rG], by rw [uG4]; rfl, h0, p4 h0, fun i hi => ?_, Or.inl ⟨by rw [uG _ (by decide), rG0], by rw [uG4]; rfl, by rw [uG4]; rfl⟩⟩
        rw [v47 i hi, v48 i hi, uA 15 (by decide), uB 14 (by decide), rA i (by omega), rB i (by omega)]
        exact p5 i hi
      · have hne : ¬ nI n = nI t := fun e => hnt ((nI_eq (by omega) (by omega)).mp e)
        refine ⟨-3, A, B, G, A, B, G, ?_, ?_, hR.next⟩
        · rw [ck_0, sb, s_isKept hp (by omega) p2, b2s, if_neg (bz1 h0), gx_0_9, sb, ldA8 hp, sb, cd_num (cdP fl hp), sb, p2, gx_0_11, sb, n4, if_neg hne]
        · rw [s_in07, b2s, if_neg (bz1 h), gx_44_56, sb, ldI_n (ly81 fl) hp (by decide), sb, p3, if_neg (nI_ne0 h0 (by omega)), sb, ldI_n (ly81 fl) hp (by decide), sb, gx_44_3, sb, p3, n5, if_neg hne]
    · have hn0 : n = 0 := by omega
      refine ⟨-1, A, B, G, A, B, G, ?_, ?_, hR.next⟩
      · rw [ck_0, sb, s_isKept hp (by omega) p2, b2s, if_pos (bz0 h0)]
      · rw [s_in07, b2s, if_neg (bz1 h), gx_44_56, sb, ldI_n (ly81 fl) hp (by decide), sb, p3, if_pos (show nI n = 0 by rw [hn0]; rfl)]
  · refine ⟨-1, A, B, G, A, B, G, ?_, ?_, hR.next⟩
    · rw [ck_0, sb]
      unfold f_X6_isKept
      rw [s_isPlace, b2s, if_pos (bz0 h), b2s, if_pos rfl]
    · rw [s_in07, b2s, if_pos (bz0 h)])

theorem fb_orI (a b : Nat) : nI a ||| nI b = nI (a ||| b) := by
  apply Int32.toBitVec_inj.1
  show BitVec.ofNat 32 a ||| BitVec.ofNat 32 b = BitVec.ofNat 32 (a ||| b)
  apply BitVec.eq_of_getLsbD_eq
  intro i hi
  simp
/-- both read a float alike: 0, or a whole number up to a million -/
theorem s_whole {N : Nat} {M : A_M} (a : Int32) : ∃ c, c ≤ 1000000 ∧ f_X6_wholeOfFloat N a M = some (nI c, M) ∧ f_X7_whole N a M = some (nI c, M) := by
  unfold f_X6_wholeOfFloat f_X7_whole
  by_cases h0 : a < 0
  · refine ⟨0, by decide, ?_, ?_⟩
    · rw [if_pos (show a < 1065353216 from by have := (i_neg a).mp h0; rw [Int32.lt_iff_toInt_lt]; show a.toInt < 1065353216; omega)]
      rfl
    · rw [if_pos h0]
      rfl
  · obtain ⟨n, hn, rfl⟩ := nI_of h0
    rw [if_neg h0]
    have e1 : nI n >>> ((23 : Int32) &&& 31) = nI (n / 2 ^ 23) := pk_shrN hn ((23 : Int32) &&& 31) 23 (by decide)
    have e2 : nI (n / 2 ^ 23) &&& (255 : Int32) = nI (n / 2 ^ 23) := by
      rw [pk_andN (by omega) (m := 255) 8 (by decide)]
      congr 1
      omega
    have e3 : ((nI n).toUInt32 >>> ((23 : Int32).toUInt32 &&& Int32.toUInt32 31)).toInt32 = nI (n / 2 ^ 23) := iushr_n (n := n) (k := 23) (by omega) (by decide)
    have e4 : nI n &&& (8388607 : Int32) ||| (8388608 : Int32) = nI (n % 2 ^ 23 + 2 ^ 23) := by
      rw [pk_andN (by omega) (m := 8388607) 23 (by decide), show (8388608 : Int32) = nI (2 ^ 23) from rfl, fb_orI]
      congr 1
      have := Nat.two_pow_add_eq_or_of_lt (i := 23) (b := n % 2 ^ 23) (Nat.mod_lt _ (by decide)) 1
      rw [Nat.mul_one] at this
      rw [Nat.or_comm, ← this, Nat.add_comm]
    rw [e1, e2, e3, e4]
    generalize he : n / 2 ^ 23 = e
    generalize hm : n % 2 ^ 23 + 2 ^ 23 = m
    have hn2 : n = 2 ^ 23 * e + (m - 2 ^ 23) := by have := Nat.div_add_mod n (2 ^ 23); omega
    have hm1 : 2 ^ 23 ≤ m := by omega
    have hm2 : m < 2 ^ 24 := by have := Nat.mod_lt n (show 0 < 2 ^ 23 by decide); omega
    by_cases h1 : e < 127
    · refine ⟨0, by decide, ?_, ?_⟩
      · rw [if_pos (show nI n < 1065353216 from nI_lt (b := 1065353216) (by omega) (by decide))]
        rfl
      · rw [if_pos (show nI e - 127 < 0 from by
          rw [i_neg, show (127 : Int32) = nI 127 from rfl, pk_sub_toInt (by omega) (by decide)]; omega)]
        rfl
    · rw [if_neg (show ¬ nI n < 1065353216 from nI_nlt (b := 1065353216) (by omega) hn), show nI e - 127 = nI (e - 127) from pk_sub (b := 127) (by omega), if_neg (nI_pos (by omega))]
      by_cases h2 : e ≤ 146
      · rw [if_pos (show nI (e - 127) ≤ 19 from nI_le (b := 19) (by omega) (by decide)), show (23 : Int32) - nI (e - 127) = nI (150 - e) from by
          rw [show (23 : Int32) = nI 23 from rfl, pk_sub (by omega), show 23 - (e - 127) = 150 - e by omega]]
        have hs : ((nI (150 - e) &&& 31).toBitVec.smod 32).toNat = 150 - e := by
          have q : ∀ k, k < 32 → ((nI k &&& 31).toBitVec.smod 32).toNat = k := by decide +kernel
          exact q _ (by omega)
        rw [iushr_n (n := m) (by omega) (by omega), pk_shrN (n := m) (by omega) _ (150 - e) hs]
        by_cases h3 : e = 146
        · subst h3
          rw [pk_shlN (n := m / 2 ^ (150 - 146)) _ (150 - 146) hs (by omega)]
          by_cases h4 : m ≤ 16000000
          · refine ⟨m / 16, by omega, ?_, ?_⟩
            · rw [if_pos (show nI n ≤ 1232348160 from nI_le (b := 1232348160) (by omega) (by decide))]
            · by_cases h5 : m / 2 ^ (150 - 146) * 2 ^ (150 - 146) = m
              · rw [if_pos (by rw [h5])]
                unfold f_X7_whole_K58
                rw [if_neg (show ¬ (1000000 : Int32) < nI (m / 2 ^ (150 - 146)) from nI_nlt (a := 1000000) (by omega) (by decide)), if_pos rfl, ite_self]
              · rw [if_neg (fun q => h5 ((nI_eq (by omega) (by omega)).mp q))]
                unfold f_X7_whole_K58
                rw [if_neg (show ¬ (1000000 : Int32) < nI (m / 2 ^ (150 - 146)) from nI_nlt (a := 1000000) (by omega) (by decide)), if_neg (show ¬ nI (m / 2 ^ (150 - 146)) = 1000000 from fun q => by have := (nI_eq (b := 1000000) (by omega) (by decide)).mp q; omega)]
          · refine ⟨0, by omega, ?_, ?_⟩
            · rw [if_neg (show ¬ nI n ≤ 1232348160 from nI_ge (a := 1232348160) (by omega) hn)]
              rfl
            · by_cases h5 : m / 2 ^ (150 - 146) * 2 ^ (150 - 146) = m
              · rw [if_pos (by rw [h5])]
                unfold f_X7_whole_K58
                rw [if_pos (show (1000000 : Int32) < nI (m / 2 ^ (150 - 146)) from nI_lt (a := 1000000) (by omega) (by omega))]
                rfl
              · rw [if_neg (fun q => h5 ((nI_eq (by omega) (by omega)).mp q))]
                unfold f_X7_whole_K58
                by_cases h6 : m / 2 ^ (150 - 146) = 1000000
                · rw [h6, if_neg (show ¬ (1000000 : Int32) < nI 1000000 by decide), if_pos (show nI 1000000 = 1000000 from rfl), if_neg (show ¬ (1 : Int32) = 0 by decide)]
                  rfl
                · rw [if_pos (show (1000000 : Int32) < nI (m / 2 ^ (150 - 146)) from nI_lt (a := 1000000) (by omega) (by omega))]
                  rfl
        · have hv : m / 2 ^ (150 - e) < 2 ^ 19 := by
            rw [Nat.div_lt_iff_lt_mul (Nat.pow_pos (by decide)), ← Nat.pow_add]
            exact Nat.lt_of_lt_of_le hm2 (Nat.pow_le_pow_right (by decide) (by omega))
          have hk : ∀ x, f_X7_whole_K58 N (nI (m / 2 ^ (150 - e))) x M = some (nI (m / 2 ^ (150 - e)), M) := by
            intro x
            unfold f_X7_whole_K58
            rw [if_neg (show ¬ (1000000 : Int32) < nI (m / 2 ^ (150 - e)) from nI_nlt (a := 1000000) (by omega) (by decide)), if_neg (show ¬ nI (m / 2 ^ (150 - e)) = 1000000 from fun q => by have := (nI_eq (b := 1000000) (by omega) (by decide)).mp q; omega)]
          refine ⟨m / 2 ^ (150 - e), by omega, ?_, ?_⟩
          · rw [if_pos (show nI n ≤ 1232348160 from nI_le (b := 1232348160) (by omega) (by decide))]
          · rw [hk, hk, ite_self]
      · refine ⟨0, by decide, ?_, ?_⟩
        · rw [if_neg (show ¬ nI n ≤ 1232348160 from nI_ge (a := 1232348160) (by omega) hn)]
          rfl
        · rw [if_neg (show ¬ nI (e - 127) ≤ 19 from nI_ge (a := 19) (by omega) (by omega))]
          rfl

theorem whole_irr {N : Nat} {M M' : A_M} {a r : Int32} (h : f_X7_whole N a M = some (r, M)) : f_X7_whole N a M' = some (r, M') := by
  revert h
  unfold f_X7_whole f_X7_whole_K58
  repeat' split
  all_goals
    intro h
    simp only [Option.some.injEq, Prod.mk.injEq, and_true] at h ⊢
    exact h
theorem lo_count : LO_count Inv := fun a v => LawI.mk (fx := f_X6_count NN 0 a v) (fm := f_X7_count NN 44 a v) (fun h => ok_X6_count NN h) (fun h => ok_X7_count NN h) (by
  intro z A B G fl hz hR
  obtain ⟨s, t, h1, hc, h3, h4, h5, h6, h7, h8⟩ := id hR
  obtain ⟨n1, n2, n3, n4, n5, n6, n7, n8⟩ := id h1
  unfold f_X6_count f_X7_count
  by_cases h : 0 ≤ a.toInt ∧ a.toInt < t
  · obtain ⟨i, hi, rfl⟩ := ix_of h (by omega)
    obtain ⟨c, hc6, e6, e7⟩ := s_whole (N := NN) (M := mem A B G fl) v
    by_cases h0 : 0 < c
    · refine ⟨A 2 i, upA A 2 (upd (A 2) i (nI c)), B, G, upA (upA A 2 (upd (A 2) i (nI c))) 46 (upd (A 46) i (nI c)), B, G, ?_, ?_, s, t, ?_, hc.congr rfl rfl rfl rfl rfl rfl rfl rfl rfl rfl rfl rfl, h3.congr rfl rfl rfl rfl, h4.congr rfl rfl rfl rfl, h5.congr rfl rfl rfl rfl, h6.congr (fun p hp => rfl) rfl rfl (fun p hp => ?_) rfl (fun p hp => rfl), h7.congr rfl rfl rfl rfl rfl rfl rfl rfl, h8.congr rfl rfl⟩
      · rw [ck_0, sb, s_isThingX n4 (by omega), b2s, if_neg (bz1 h), e6, b2s, if_pos (show (1 : Int32) ≤ nI c from nI_le (a := 1) h0 (by omega)), gx_0_1, sb, ldI_n (ly2 fl) (by omega) (by decide), sb, sb, stI_n (ly2 fl) (by omega) (by decide), sb]
      · rw [ck_44, sb, s_isThingM n5 (by omega), b2s, if_neg (bz1 h), whole_irr e7, b2s, if_neg (nI_ne0 h0 (by omega)), gx_44_2, sb, ldI_n (ly46 fl) (by omega) (by decide), sb, sb, stI_n (ly46 fl) (by omega) (by decide), sb]
        show some (A 46 i, _) = _
        rw [(n8 i hi).1]
        rfl
      · refine ⟨n1, n2, n3, n4, n5, n6, n7, fun j hj => ?_⟩
        show upd (A 46) i (nI c) j = upd (A 2) i (nI c) j ∧ ∃ q, 1 ≤ q ∧ q ≤ 1000000 ∧ upd (A 2) i (nI c) j = nI q
        by_cases e : j = i
        · subst e
          rw [upd_eq, upd_eq]
          exact ⟨rfl, c, h0, hc6, rfl⟩
        · rw [upd_ne _ _ _ e, upd_ne _ _ _ e]
          exact n8 j hj
      · rw [upA_ne _ _ _ (by omega), upA_ne _ _ _ (by omega)]
    · have hc0 : c = 0 := by omega
      subst hc0
      refine ⟨-2, A, B, G, A, B, G, ?_, ?_, hR.next⟩
      · rw [ck_0, sb, s_isThingX n4 (by omega), b2s, if_neg (bz1 h), e6, b2s, if_neg (show ¬ (1 : Int32) ≤ nI 0 by decide)]
      · rw [ck_44, sb, s_isThingM n5 (by omega), b2s, if_neg (bz1 h), e7, b2s, if_pos (show nI 0 = 0 from rfl)]
  · refine ⟨-1, A, B, G, A, B, G, ?_, ?_, hR.next⟩
    · rw [ck_0, sb, s_isThingX n4 (by omega), b2s, if_pos (bz0 h)]
    · rw [ck_44, sb, s_isThingM n5 (by omega), b2s, if_pos (bz0 h)])

section Dc
variable {A : Nat → Nat → Int32} {B : Nat → Nat → Int64} {G : Nat → Nat → Int32} {fl : Nat → Bool} {N : Nat}
/-- no code any more -/
theorem s_dropCode (hN : 24 < N) : f_X6_dropCode N 0 (mem A B G fl) = some (mem (upA A 15 (fun j => if 0 ≤ j ∧ j < 24 then 0 else A 15 j)) (upA B 14 (fun j => if 0 ≤ j ∧ j < 24 then 0 else B 14 j)) (upA (upA G 13 (upd (G 13) 2 0)) 0 (upd (G 0) 12 0)) fl) := by
  unfold f_X6_dropCode
  rw [gx_0_7, sb, ck_13, sb, s_begin (cd13 fl) hN, sb, px_0_12, sb]
  rfl
end Dc
theorem lo_thing : LO_thing Inv := fun a => LawI.mk (fx := f_X6_thing NN 0 a) (fm := f_X7_thing NN 44 a) (fun h => ok_X6_thing NN h) (fun h => ok_X7_thing NN h) (by
  intro z A B G fl hz hR
  obtain ⟨s, t, h1, hc, h3, h4, h5, h6, h7, h8⟩ := id hR
  obtain ⟨n1, n2, n3, n4, n5, n6, n7, n8⟩ := id h1
  obtain ⟨c, hc6, e6, e7⟩ := s_whole (N := NN) (M := mem A B G fl) a
  unfold f_X6_thing f_X7_thing
  by_cases h0 : 0 < c
  · by_cases ht : t < 24
    · refine ⟨nI t, upA (upA A 2 (upd (A 2) t (nI c))) 15 (fun j => if 0 ≤ j ∧ j < 24 then 0 else A 15 j), upA B 14 (fun j => if 0 ≤ j ∧ j < 24 then 0 else B 14 j), upA (upA (upA G 0 (upd (G 0) 11 (nI (t + 1)))) 13 (upd (G 13) 2 0)) 0 (upd (upd (G 0) 11 (nI (t + 1))) 12 0), upA (upA (upA A 2 (upd (A 2) t (nI c))) 15 (fun j => if 0 ≤ j ∧ j < 24 then 0 else A 15 j)) 46 (upd (A 46) t (nI c)), upA B 14 (fun j => if 0 ≤ j ∧ j < 24 then 0 else B 14 j), upA (upA (upA (upA G 0 (upd (G 0) 11 (nI (t + 1)))) 13 (upd (G 13) 2 0)) 0 (upd (upd (G 0) 11 (nI (t + 1))) 12 0)) 44 (upd (upd (G 44) 3 (nI (t + 1))) 4 0), ?_, ?_, s, t + 1, ?_, Or.inl ⟨rfl, rfl⟩, h3.congr rfl rfl rfl rfl, h4.congr rfl rfl rfl rfl, h5.congr rfl rfl rfl rfl, ?_, h7.congr rfl rfl rfl rfl rfl rfl rfl rfl, h8.congr rfl rfl⟩
      · rw [e6, b2s, if_pos (show (1 : Int32) ≤ nI c from nI_le (a := 1) h0 (by omega)), gx_0_11, sb, n4, if_pos (show nI t < 24 from nI_lt (b := 24) ht (by decide)), gx_0_1, sb, sb, stI_n (ly2 fl) ht (by decide), sb, gx_0_11, sb, n4, nI_1, px_0_11, sb, ck_0, sb, s_dropCode (by show _ < 300000; omega), sb, gx_0_11, sb]
        show some (nI (t + 1) - 1, _) = _
        rw [nI_pred]
        rfl
      · rw [whole_irr e7, b2s, if_neg (nI_ne0 h0 (by omega)), gx_44_3, sb]
        show (if G 44 3 = 24 then _ else _) = _
        rw [n5, if_neg (show ¬ nI t = 24 from fun e => by have := (nI_eq (b := 24) (by omega) (by decide)).mp e; omega), gx_44_2, sb]
        show (stI _ 46 (G 44 3) (nI c)).bind _ = _
        rw [n5, stI_n (ly46 fl) ht (by decide), sb, gx_44_3, sb, px_44_3, sb, px_44_4, sb, gx_44_3, sb]
        show some (G 44 3 + 1 - 1, mem _ _ (upA (upA _ 44 (upd (G 44) 3 (G 44 3 + 1))) 44 (upd (upd (G 44) 3 (G 44 3 + 1)) 4 0)) fl) = _
        rw [n5, nI_1, nI_pred, upA_twice]
        rfl
      · refine ⟨n1, n2, n3, rfl, rfl, by omega, n7, fun j hj => ?_⟩
        show upd (A 46) t (nI c) j = upd (A 2) t (nI c) j ∧ ∃ q, 1 ≤ q ∧ q ≤ 1000000 ∧ upd (A 2) t (nI c) j = nI q
        by_cases e : j = t
        · subst e
          rw [upd_eq, upd_eq]
          exact ⟨rfl, c, h0, hc6, rfl⟩
        · rw [upd_ne _ _ _ e, upd_ne _ _ _ e]
          exact n8 j (by omega)
      · have h6' : ChestOk A B G s (t + 1) := fun p hp => by
          obtain ⟨n, q1, q2⟩ := h6 p hp
          exact ⟨n, by omega, q2⟩
        refine h6'.congr (fun p hp => ?_) rfl rfl (fun p hp => ?_) rfl (fun p hp => ?_)
        · rw [upA_ne _ _ _ (by omega), upA_ne _ _ _ (by omega), upA_ne _ _ _ (by omega), upA_ne _ _ _ (by omega)]
        · rw [upA_ne _ _ _ (by omega), upA_ne _ _ _ (by omega), upA_ne _ _ _ (by omega)]
        · rw [upA_ne _ _ _ (by omega)]
    · have ht2 : t = 24 := by omega
      refine ⟨-4, A, B, G, A, B, G, ?_, ?_, hR.next⟩
      · rw [e6, b2s, if_pos (show (1 : Int32) ≤ nI c from nI_le (a := 1) h0 (by omega)), gx_0_11, sb, n4, if_neg (show ¬ nI t < 24 from nI_nlt (b := 24) (by omega) (by omega))]
      · rw [e7, b2s, if_neg (nI_ne0 h0 (by omega)), gx_44_3, sb, n5, if_pos (show nI t = 24 by rw [ht2]; rfl)]
  · have hc0 : c = 0 := by omega
    subst hc0
    refine ⟨-2, A, B, G, A, B, G, ?_, ?_, hR.next⟩
    · rw [e6, b2s, if_neg (show ¬ (1 : Int32) ≤ nI 0 by decide)]
    · rw [e7, b2s, if_pos (show nI 0 = 0 from rfl)])
