/-! send -/
theorem s_isGr0 {A : Nat → Nat → Int32} {B : Nat → Nat → Int64} {G : Nat → Nat → Int32} {fl : Nat → Bool} (c1 : G 13 2 = 0) : f_X6_isGrowing NN 0 (mem A B G fl) = some (0, mem A B G fl) := by
  unfold f_X6_isGrowing
  rw [ck_0, sb, s_hasCode0 c1, b2s, if_pos rfl]
theorem s_isGr1 {A : Nat → Nat → Int32} {B : Nat → Nat → Int64} {G : Nat → Nat → Int32} {fl : Nat → Bool} {t : Nat} (c1 : G 13 2 = nI t) (c3 : 0 < t) (n6 : t ≤ 24) : f_X6_isGrowing NN 0 (mem A B G fl) = some (bz (G 0 12 = 2), mem A B G fl) := by
  unfold f_X6_isGrowing
  rw [ck_0, sb, s_hasCode1 c1 c3 n6, b2s, if_neg (show ¬ (1 : Int32) = 0 by decide), gx_0_12, sb]
  by_cases h : G 0 12 = 2
  · rw [if_pos h, bz_t h]
  · rw [if_neg h, bz_f h]
theorem lo_send : LO_send Inv := fun a => LawI.mk (fx := f_X6_send_A NN 0 a) (fm := f_X7_send NN 44 a) (fun h => ok_X6_send_A NN h) (fun h => ok_X7_send NN h) (by
  intro z A B G fl hz hR
  obtain ⟨s, t, h1, hc, h3, h4, h5, h6, h7, h8⟩ := id hR
  obtain ⟨n1, n2, n3, n4, n5, n6, n7, n8⟩ := id h1
  by_cases h : 0 ≤ a.toInt ∧ a.toInt < t
  · rcases id hc with ⟨c1, c2⟩ | ⟨c1, c2, c3, c4, c5, c6⟩
    · refine ⟨-3, A, B, G, A, B, G, ?_, ?_, hR.next⟩
      · unfold f_X6_send_A
        rw [ck_0, sb, s_isThingX n4 (by omega), b2s, if_neg (bz1 h), ck_0, sb, s_isGr0 c1, b2s, if_pos rfl]
      · unfold f_X7_send
        rw [ck_44, sb, s_isThingM n5 (by omega), b2s, if_neg (bz1 h), gx_44_4, sb, c2, if_pos rfl]
    · have no : G 0 12 ≠ 2 → G 44 6 = 0 → ∃ r A1 B1 G1 A2 B2 G2, f_X6_send_A NN 0 a (mem A B G fl) = some (r, mem A1 B1 G1 fl) ∧ f_X7_send NN 44 a (mem A1 B1 G1 fl) = some (r, mem A2 B2 G2 fl) ∧ Rv (z + 1) A2 B2 G2 fl := by
        intro q1 q2
        refine ⟨-3, A, B, G, A, B, G, ?_, ?_, hR.next⟩
        · unfold f_X6_send_A
          rw [ck_0, sb, s_isThingX n4 (by omega), b2s, if_neg (bz1 h), ck_0, sb, s_isGr1 c1 c3 n6, b2s, if_pos (bz0 q1)]
        · unfold f_X7_send
          rw [ck_44, sb, s_isThingM n5 (by omega), b2s, if_neg (bz1 h), gx_44_4, sb, c2, if_neg (show ¬ (1 : Int32) = 0 by decide), gx_44_6, sb, q2, if_pos rfl]
      rcases c6 with ⟨q1, q2, q3⟩ | ⟨q1, q2, q3⟩ | ⟨q1, q2, q3, f1, hMF, q6⟩
      · exact no (by rw [q1]; decide) q3
      · exact no (by rw [q1]; decide) q3
      · obtain ⟨i, hi, rfl⟩ := ix_of h (by omega)
        obtain ⟨R, n, w1, w2⟩ := ws_both c5
        obtain ⟨v1, v2, v3, v4, v5, v6⟩ := w1 i hi
        obtain ⟨u1, u2, -⟩ := w2 i hi
        obtain ⟨L, l1, l2, l3, l4⟩ := id h3
        have v3' := r48 v3
        by_cases hL : L + n i ≤ 200
        · obtain ⟨P, C0, hP, hC0⟩ := h1.nums
          have hM : MayF P s t := mayF_to (fun j hj => ⟨(hP j hj).1, (hP j hj).2.2.2⟩) hMF
          obtain ⟨C, hC⟩ := nat_of (n := t) (a := A 4) (Q := fun q => 1 ≤ q ∧ q ≤ z + 1) (fun j hj => by
            obtain ⟨-, c, g1, g2, e⟩ := q6 j hj
            exact ⟨c, by omega, ⟨g1, g2⟩, e⟩)
          obtain ⟨F, hF⟩ := free_F hM n3 n6 (fun u hu => ⟨(hP u hu).2.2.1, (hP u hu).2.2.2⟩)
          have hC2 : ∀ j, j < t → 1 ≤ (if j = i then C i + 1 else C j) ∧ (if j = i then C i + 1 else C j) ≤ z + 2 := fun j hj => by
            have b1 := (hC j hj).2.1
            have b2 := (hC i hi).2.1
            by_cases e : j = i
            · rw [if_pos e]; omega
            · rw [if_neg e]; omega
          obtain ⟨y1, y2, y3, y4⟩ := hF (fun j => if j = i then C i + 1 else C j) (fun j hj => by have := hC2 j hj; exact ⟨this.1, by omega⟩)
          obtain ⟨sp, sp1, sp2, sp3⟩ := h8 f1
          -- the class writes
          generalize hA1 : upA A 7 (pst (A 7) (fun j => nI (dg (R i) j)) L 0 (n i)) = A1
          generalize hG1 : upA G 6 (upd (G 6) 2 (nI (L + n i))) = G1
          have a1 : ∀ k, k ≠ 7 → A1 k = A k := fun k hk => by rw [← hA1, upA_ne _ _ _ hk]
          have a17 : A1 7 = pst (A 7) (fun j => nI (dg (R i) j)) L 0 (n i) := by rw [← hA1, upA_same]
          have g1 : ∀ k, k ≠ 6 → G1 k = G k := fun k hk => by rw [← hG1, upA_ne _ _ _ hk]
          have g162 : G1 6 2 = nI (L + n i) := by rw [← hG1, upA_same, upd_eq]
          have g16 : ∀ f, f ≠ 2 → G1 6 f = G 6 f := fun f hf => by rw [← hG1, upA_same, upd_ne _ _ _ hf]
          have eW : f_X2_writeWord NN 6 13 (nI i) (mem A B G fl) = some (1, mem A1 B G1 fl) := by
            unfold f_X2_writeWord
            rw [gx_13_1, sb, ldI_n (ly15 fl) (by omega) (by decide), sb, gx_6_2, sb, l1, v2, nI_add, if_pos (show nI (L + n i) ≤ 200 from nI_le (b := 200) hL (by decide)), show (0 : Int32) = nI 0 from rfl, s_writeX (by omega) v1 (by omega) v4 hL (n i) 0 NN A G (by omega) (by show _ < 300000; omega) l1, hA1, hG1]
          -- and counts
          generalize hA2 : upA A1 4 (upd (A1 4) i (nI (C i + 1))) = A2
          have a2 : ∀ k, k ≠ 4 → A2 k = A1 k := fun k hk => by rw [← hA2, upA_ne _ _ _ hk]
          have a24 : ∀ j, j < t → A2 4 j = nI (if j = i then C i + 1 else C j) := fun j hj => by
            rw [← hA2, upA_same]
            by_cases e : j = i
            · rw [if_pos e, e, upd_eq]
            · rw [if_neg e, upd_ne _ _ _ e, a1 4 (by decide)]; exact (hC j hj).1
          obtain ⟨A3, B3, G3, r, e1, e2, e3, e4, e5, e6, e7⟩ := y3 fl A2 B G1 13 4 sp f1 (cd13 fl) (by decide) (ly4 fl) (by decide) (by decide) (by rw [g1 0 (by decide)]; exact n1) (by rw [g1 0 (by decide)]; exact n4) (fun u hu => by rw [a2 1 (by decide), a1 1 (by decide)]; exact (hP u hu).1) a24 (by rw [g1 82 (by decide)]; exact sp2) (fun j hj => by rw [a2 84 (by decide), a1 84 (by decide)]; exact sp3 j hj) (by omega)
          obtain ⟨-, x2, x3, x4⟩ : True ∧ r = 1 ∧ G3 13 = upd (G1 13) 2 (nI t) ∧ ∀ j, j < t → B3 14 j = lN (F (fun j => if j = i then C i + 1 else C j) j).1 ∧ A3 15 j = nI (F (fun j => if j = i then C i + 1 else C j) j).2 := by
            rcases e7 with h | ⟨h, -⟩
            · exact h
            · exact absurd trivial h
          have eX : f_X6_send_A NN 0 (nI i) (mem A B G fl) = some (nI (L + n i), mem A3 B3 G3 fl) := by
            unfold f_X6_send_A f_X6_makeByLevels_A
            rw [ck_0, sb, s_isThingX n4 (by omega), b2s, if_neg (bz1 h), ck_0, sb, s_isGr1 c1 c3 n6, b2s, if_neg (bz1 q1), gx_0_5, sb, gx_0_7, sb, ck_6, sb, eW, b2s, if_neg (show ¬ (1 : Int32) = 0 by decide), gx_0_3, sb, ldI_n (ly4 fl) (by omega) (by decide), sb, show A1 4 i = nI (C i) by rw [a1 4 (by decide)]; exact (hC i hi).1]
            rw [show nI (C i) + (1 : Int32) = nI (C i + 1) from nI_add (C i) 1, stI_n (ly4 fl) (by omega) (by decide), sb, hA2, gx_0_7, sb, gx_0_3, sb, ck_0, sb, gx_0_15 f1, sb, show (0 : Int32) = nI 0 from rfl, e1, b2s, gx_0_5, sb, gx_6_2, sb, e4 6 (by omega) (by omega) (by omega), g162]
          -- the reference
          have cA : ∀ k, k ≤ 2 ∨ k = 8 ∨ (19 ≤ k ∧ k ≤ 81) ∨ 98 ≤ k → A3 k = A k := fun k hk => by rw [e2 k (by omega) (by omega) (by omega) (by omega) (by omega) (by omega) (by omega), a2 k (by omega), a1 k (by omega)]
          have cB : ∀ k, 19 ≤ k ∧ k ≤ 81 → B3 k = B k := fun k hk => e3 k (by omega) (by omega) (by omega) (by omega)
          have cG : ∀ k, k = 0 ∨ (19 ≤ k ∧ k ≤ 81) ∨ 98 ≤ k → G3 k = G k := fun k hk => by rw [e4 k (by omega) (by omega) (by omega), g1 k (by omega)]
          have c44 : G3 44 = G 44 := cG 44 (by omega)
          generalize hA5 : upA A3 72 (pst (A3 72) (fun j => nI (dg (R i) j)) L 0 (n i)) = A5
          generalize hG5 : upA G3 44 (upd (G3 44) 44 (nI (L + n i))) = G5
          have a5 : ∀ k, k ≠ 72 → A5 k = A3 k := fun k hk => by rw [← hA5, upA_ne _ _ _ hk]
          have a572 : A5 72 = pst (A 72) (fun j => nI (dg (R i) j)) L 0 (n i) := by rw [← hA5, upA_same, cA 72 (by omega)]
          have g5 : ∀ k, k ≠ 44 → G5 k = G3 k := fun k hk => by rw [← hG5, upA_ne _ _ _ hk]
          have g544 : ∀ f, f ≠ 44 → G5 44 f = G 44 f := fun f hf => by rw [← hG5, upA_same, upd_ne _ _ _ hf, c44]
          have g54444 : G5 44 44 = nI (L + n i) := by rw [← hG5, upA_same, upd_eq]
          have eV : f_X7_writeWord NN 44 (nI i) (mem A3 B3 G3 fl) = some (mem A5 B3 G5 fl) := by
            unfold f_X7_writeWord
            rw [show (0 : Int32) = nI 0 from rfl, s_writeM (i := i) (R := R i) (n := n i) (L := L) (by omega) (by rw [cB 47 (by omega)]; exact u1) (by omega) v4 hL (n i) 0 NN _ _ (by omega) (by show _ < 300000; omega) (by rw [cA 48 (by omega)]; exact u2) (by rw [c44]; exact l2), hA5, hG5]
          generalize hA6 : upA A5 49 (upd (A5 49) i (nI (C i + 1))) = A6
          have a6 : ∀ k, k ≠ 49 → A6 k = A5 k := fun k hk => by rw [← hA6, upA_ne _ _ _ hk]
          have a549 : A5 49 = A 49 := by rw [a5 49 (by decide), cA 49 (by omega)]
          have a649 : ∀ j, j < t → A6 49 j = nI (if j = i then C i + 1 else C j) := fun j hj => by
            rw [← hA6, upA_same]
            by_cases e : j = i
            · rw [if_pos e, e, upd_eq]
            · rw [if_neg e, upd_ne _ _ _ e, a549, (q6 j hj).1]; exact (hC j hj).1
          obtain ⟨A7, B7, G7, r7, d1, d2, d3, d4, d5, d6⟩ := y4 fl A6 B3 G5 49 (ly49 fl) (by decide) (by rw [g544 1 (by decide)]; exact n2) (by rw [g544 3 (by decide)]; exact n5) (fun u hu => by rw [a6 45 (by decide), a5 45 (by decide), cA 45 (by omega)]; exact (hP u hu).2.1) a649
          obtain ⟨-, z2, z3⟩ : True ∧ r7 = 1 ∧ ∀ j, j < t → B7 47 j = lN (F (fun j => if j = i then C i + 1 else C j) j).1 ∧ A7 48 j = nI (F (fun j => if j = i then C i + 1 else C j) j).2 := by
            rcases d6 with h | ⟨h, -⟩
            · exact h
            · exact absurd trivial h
          rw [if_pos rfl] at d1
          generalize hG8 : upA G7 44 (upd (G7 44) 6 1) = G8
          have g8 : ∀ k, k ≠ 44 → G8 k = G5 k := fun k hk => by rw [← hG8, upA_ne _ _ _ hk, d4 k hk]
          have g844 : ∀ f, f ≠ 6 → f ≠ 14 → f ≠ 15 → f ≠ 16 → f ≠ 21 → f ≠ 23 → f ≠ 25 → f ≠ 26 → G8 44 f = G5 44 f := fun f b0 b1 b2 b3 b4 b5 b6 b7 => by rw [← hG8, upA_same, upd_ne _ _ _ b0, d5 f b1 b2 b3 b4 b5 b6 b7]
          have eM : f_X7_send NN 44 (nI i) (mem A3 B3 G3 fl) = some (nI (L + n i), mem A7 B7 G8 fl) := by
            unfold f_X7_send
            rw [ck_44, sb, s_isThingM (n := t) (by rw [c44]; exact n5) (by omega), b2s, if_neg (bz1 h), gx_44_4, sb, c44, c2, if_neg (show ¬ (1 : Int32) = 0 by decide), gx_44_6, sb, c44, q3, if_neg (show ¬ (1 : Int32) = 0 by decide), gx_44_44, sb, gx_44_8, sb, ldI_n (ly48 fl) (by omega) (by decide), sb, c44, l2, show A3 48 i = nI (n i) by rw [cA 48 (by omega)]; exact u2, nI_add, if_pos (show nI (L + n i) ≤ 200 from nI_le (b := 200) hL (by decide)), ck_44, sb, eV, sb, gx_44_9, sb, ldI_n (ly49 fl) (by omega) (by decide), sb, show A5 49 i = nI (C i) by rw [a549, (q6 i hi).1]; exact (hC i hi).1]
            rw [show nI (C i) + (1 : Int32) = nI (C i + 1) from nI_add (C i) 1, stI_n (ly49 fl) (by omega) (by decide), sb, hA6, gx_44_9, sb, ck_44, sb, show (24 : Int32) = nI 24 from rfl, d1, b2s, z2, show zb 1 = some () from rfl, sb, px_44_6, sb, hG8, gx_44_44, sb, g844 44 (by decide) (by decide) (by decide) (by decide) (by decide) (by decide) (by decide) (by decide), g54444]
          have qA : ∀ k, k ≤ 2 ∨ k = 8 ∨ (19 ≤ k ∧ k ≤ 46) ∨ k = 73 ∨ (78 ≤ k ∧ k ≤ 81) ∨ 98 ≤ k → A7 k = A k := fun k hk => by rw [d2 k (by omega) (by omega) (by omega) (by omega) (by omega) (by omega) (by omega), a6 k (by omega), a5 k (by omega), cA k (by omega)]
          have qf : ∀ f, f = 1 ∨ f = 3 ∨ f = 4 ∨ f = 5 ∨ f = 36 ∨ f = 37 ∨ f = 46 ∨ f = 50 ∨ f = 53 → G8 44 f = G 44 f := fun f hf => by rw [g844 f (by omega) (by omega) (by omega) (by omega) (by omega) (by omega) (by omega) (by omega), g544 f (by omega)]
          have q86 : G8 6 = G1 6 := by rw [g8 6 (by decide), g5 6 (by decide), e4 6 (by omega) (by omega) (by omega)]
          refine ⟨nI (L + n i), A3, B3, G3, A7, B7, G8, eX, eM, s, t, ?_⟩
          obtain ⟨r1, r2, r3, r4⟩ := rv_rest (A' := A7) (B' := B7) (G' := G8) (fl' := fl) h1 h5 h6 h7 (fun k hk => qA k (by omega)) (fun k hk => by rw [d3 k (by omega) (by omega) (by omega) (by omega), cB k (by omega)]) (fun k hk => by rw [g8 k (by omega), g5 k (by omega), cG k (by omega)]) (fun f hf => by rw [g8 0 (by omega), g5 0 (by omega), cG 0 (by omega)]) (fun f hf => qf f (by omega)) rfl
          have hMF2 : MayFree A7 s t := mayF_of (fun j hj => by rw [qA 1 (by omega)]; exact (hP j hj).1) hM
          refine ⟨r1, Or.inr ⟨?_, ?_, c3, c4, fun j hj => ?_, Or.inr (Or.inr ⟨?_, ?_, ?_, f1, hMF2, fun j hj => ?_⟩)⟩, ⟨L + n i, ?_, ?_, hL, fun j hj => ?_⟩, h4.congr ?_ ?_ ?_ ?_, r2, r3, r4, fun _ => ⟨sp + 1, by omega, ?_, ?_⟩⟩
          · rw [g8 13 (by decide), g5 13 (by decide), x3, upd_eq]
          · rw [qf 4 (by decide)]; exact c2
          · rw [d3 14 (by omega) (by omega) (by omega) (by omega), d2 15 (by omega) (by omega) (by omega) (by omega) (by omega) (by omega) (by omega), a6 15 (by decide), a5 15 (by decide), (z3 j hj).1, (z3 j hj).2, (x4 j hj).1, (x4 j hj).2]
            exact ⟨rfl, rfl, (y1 j hj).wd⟩
          · rw [g8 0 (by decide), g5 0 (by decide), cG 0 (by omega)]; exact q1
          · rw [qf 5 (by decide)]; exact q2
          · rw [← hG8, upA_same, upd_eq]
          · rw [d2 49 (by omega) (by omega) (by omega) (by omega) (by omega) (by omega) (by omega), d2 4 (by omega) (by omega) (by omega) (by omega) (by omega) (by omega) (by omega), a6 4 (by decide), a5 4 (by decide), e2 4 (by omega) (by omega) (by omega) (by omega) (by omega) (by omega) (by omega), a649 j hj, a24 j hj]
            exact ⟨rfl, _, (hC2 j hj).1, (hC2 j hj).2, rfl⟩
          · rw [q86]; exact g162
          · rw [g844 44 (by decide) (by decide) (by decide) (by decide) (by decide) (by decide) (by decide) (by decide)]; exact g54444
          · rw [d2 72 (by omega) (by omega) (by omega) (by omega) (by omega) (by omega) (by omega), d2 7 (by omega) (by omega) (by omega) (by omega) (by omega) (by omega) (by omega), a6 72 (by decide), a6 7 (by decide), a5 7 (by decide), e2 7 (by omega) (by omega) (by omega) (by omega) (by omega) (by omega) (by omega), a2 7 (by decide), a572, a17]
            by_cases e : j < L
            · rw [pst_out _ _ (Or.inl e), pst_out _ _ (Or.inl e)]
              exact l4 j e
            · obtain ⟨q, rfl⟩ : ∃ q, j = L + q := ⟨j - L, by omega⟩
              rw [pst_in _ _ (by omega), pst_in _ _ (by omega)]
              exact ⟨rfl, dg (R i) q, dg_lt _ _, rfl⟩
          · rw [q86, g16 3 (by decide)]
          · exact qf 46 (by decide)
          · exact qA 73 (by omega)
          · exact qA 8 (by omega)
          · rw [g8 82 (by decide), g5 82 (by decide)]; exact e5
          · intro j hj
            rw [d2 84 (by omega) (by omega) (by omega) (by omega) (by omega) (by omega) (by omega), a6 84 (by decide), a5 84 (by decide)]
            exact e6 j hj
        · refine ⟨-4, A, B, G, A, B, G, ?_, ?_, hR.next⟩
          · unfold f_X6_send_A
            rw [ck_0, sb, s_isThingX n4 (by omega), b2s, if_neg (bz1 h), ck_0, sb, s_isGr1 c1 c3 n6, b2s, if_neg (bz1 q1), gx_0_5, sb, gx_0_7, sb, ck_6, sb]
            unfold f_X2_writeWord
            rw [gx_13_1, sb, ldI_n (ly15 fl) (by omega) (by decide), sb, gx_6_2, sb, l1, v2, nI_add, if_neg (show ¬ nI (L + n i) ≤ 200 from nI_ge (a := 200) (by omega) (by omega)), b2s, if_pos rfl]
          · unfold f_X7_send
            rw [ck_44, sb, s_isThingM n5 (by omega), b2s, if_neg (bz1 h), gx_44_4, sb, c2, if_neg (show ¬ (1 : Int32) = 0 by decide), gx_44_6, sb, q3, if_neg (show ¬ (1 : Int32) = 0 by decide), gx_44_44, sb, gx_44_8, sb, ldI_n (ly48 fl) (by omega) (by decide), sb, l2, u2, nI_add, if_neg (show ¬ nI (L + n i) ≤ 200 from nI_ge (a := 200) (by omega) (by omega))]
  · refine ⟨-1, A, B, G, A, B, G, ?_, ?_, hR.next⟩
    · unfold f_X6_send_A
      rw [ck_0, sb, s_isThingX n4 (by omega), b2s, if_pos (bz0 h)]
    · unfold f_X7_send
      rw [ck_44, sb, s_isThingM n5 (by omega), b2s, if_pos (bz0 h)])
