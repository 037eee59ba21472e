/-! build: the end on both sides -/
theorem rv_rest {A A' : Nat → Nat → Int32} {B B' : Nat → Nat → Int64} {G G' : Nat → Nat → Int32} {fl fl' : Nat → Bool} {s t : Nat} (h1 : Num A G s t) (h5 : BrkOk G) (h6 : ChestOk A B G s t) (h7 : StepOk A G fl)
    (qA : ∀ k, k ≤ 2 ∨ (19 ≤ k ∧ k ≤ 46) ∨ (78 ≤ k ∧ k ≤ 81) ∨ 98 ≤ k → A' k = A k) (qB : ∀ k, (19 ≤ k ∧ k ≤ 43) ∨ k = 79 → B' k = B k) (qG : ∀ k, (19 ≤ k ∧ k ≤ 43) ∨ 98 ≤ k → G' k = G k) (q0 : ∀ f, f ≠ 12 → G' 0 f = G 0 f) (q44 : ∀ f, f = 1 ∨ f = 3 ∨ f = 36 ∨ f = 37 ∨ f = 50 ∨ f = 53 → G' 44 f = G 44 f) (f3 : fl' 3 = fl 3) :
    Num A' G' s t ∧ BrkOk G' ∧ ChestOk A' B' G' s t ∧ StepOk A' G' fl' := by
  refine ⟨?_, ?_, ?_, ?_⟩
  · exact h1.congr (q0 10 (by decide)) (q44 1 (by decide)) (q0 11 (by decide)) (q44 3 (by decide)) (qA 45 (by omega)) (qA 1 (by omega)) (qA 46 (by omega)) (qA 2 (by omega))
  · exact h5.congr (q44 36 (by decide)) (q44 37 (by decide)) (q0 13 (by decide)) (q0 14 (by decide))
  · exact h6.congr (fun p hp => by rw [qG _ (by omega)]) (qA 81 (by omega)) (qA 80 (by omega)) (fun p hp => qA _ (by omega)) (qB 79 (by omega)) (fun p hp => qB _ (by omega))
  · have := h7.congr (A' := A') (G' := G') (q44 53 (by decide)) (q44 50 (by decide)) (by rw [qG 98 (by omega)]) (by rw [qG 98 (by omega)]) (by rw [qG 98 (by omega)]) (qA 101 (by omega)) (qA 102 (by omega)) (qA 78 (by omega))
    unfold StepOk at this ⊢
    rw [f3]
    exact this
/-- the class's end -/
def HC (N : Nat) (M : A_M) : Option (Int64 × A_M) := (gR M 0 6 8).bind fun v109 => (chk M 0 6).bind fun _ => (f_X6_handOver N 0 v109 M).bind fun M112 => (chk M112 0 6).bind fun _ => bnd2 (f_X6_costAtHand N 0 M112) fun v116 M116 => some (v116, M116)
/-- the reference's -/
def RC (N : Nat) (M : A_M) : Option (Int64 × A_M) := (chk M 44 7).bind fun _ => (f_X7_comes N 44 M).bind fun M208 => (chk M208 44 7).bind fun _ => bnd2 (f_X7_costNow N 44 M208) fun v212 M212 => some (v212, M212)
section He
variable {fl : Nat → Bool} {s t : Nat} {P C : Nat → Nat} {W : Nat → Nat × Nat}
theorem s_HC (hs : s ≤ 4) (ht : t ≤ 24) (hW : ∀ i, i < t → Wv s (W i)) (A : Nat → Nat → Int32) (B : Nat → Nat → Int64) (G : Nat → Nat → Int32) (hP : ∀ j, j < s → A 1 j = nI (P j) ∧ P j ≤ 9) (hC : ∀ i, i < t → A 2 i = nI (C i) ∧ C i ≤ 1000000) (g16 : G 16 2 = nI t) (hw : ∀ i, i < t → B 17 i = lN (W i).1 ∧ A 18 i = nI (W i).2) :
    ∃ A' B' G', HC NN (mem A B G fl) = some (lN (0 + csum P C (fun i => (W i).1) (fun i => (W i).2) t 0), mem A' B' G' fl) ∧ (∀ k, k ≠ 15 → A' k = A k) ∧ (∀ k, k ≠ 14 → B' k = B k) ∧ (∀ k, k ≠ 0 → k ≠ 13 → G' k = G k) ∧ (∀ f, f ≠ 12 → G' 0 f = G 0 f) ∧ G' 0 12 = 0 ∧ G' 13 2 = nI t ∧ (∀ i, i < t → B' 14 i = lN (W i).1 ∧ A' 15 i = nI (W i).2) := by
  generalize hA1 : upA A 15 (va_cpy (A 18) (A 15) 0 0 24) = A1
  generalize hB1 : upA B 14 (va_cpy (B 17) (B 14) 0 0 24) = B1
  generalize hG1 : upA (upA G 13 (upd (G 13) 2 (G 16 2))) 0 (upd (upA G 13 (upd (G 13) 2 (G 16 2)) 0) 12 0) = G1
  have rA : ∀ k, k ≠ 15 → A1 k = A k := fun k a => by rw [← hA1, upA_ne _ _ _ a]
  have rB : ∀ k, k ≠ 14 → B1 k = B k := fun k a => by rw [← hB1, upA_ne _ _ _ a]
  have rG : ∀ k, k ≠ 0 → k ≠ 13 → G1 k = G k := fun k a b => by rw [← hG1, upA_ne _ _ _ a, upA_ne _ _ _ b]
  have rG0 : ∀ j, j ≠ 12 → G1 0 j = G 0 j := fun j hj => by rw [← hG1, upA_same, upd_ne _ _ _ hj, upA_ne _ _ _ (by decide)]
  have rG13 : G1 13 2 = nI t := by rw [← hG1, upA_ne _ _ _ (by decide), upA_same, upd_eq, g16]
  have rG12 : G1 0 12 = 0 := by rw [← hG1, upA_same, upd_eq]
  have rw1 : ∀ i, i < t → B1 14 i = lN (W i).1 ∧ A1 15 i = nI (W i).2 := fun i hi => by
    rw [← hA1, ← hB1, upA_same, upA_same, cpy_in _ _ (by omega), cpy_in _ _ (by omega)]
    exact hw i hi
  have hws : Ws s t (B1 14) (A1 15) (fun i => (W i).1) (fun i => (W i).2) := fun i hi => ⟨(rw1 i hi).1, (rw1 i hi).2, (hW i hi).1, (hW i hi).2.1, (hW i hi).2.2.1, (hW i hi).2.2.2⟩
  refine ⟨A1, B1, G1, ?_, rA, rB, rG, rG0, rG12, rG13, rw1⟩
  unfold HC f_X6_handOver
  rw [gx_0_8, sb, ck_0, sb, gx_0_7, sb, ck_13, sb, s_take (cd13 fl) (cd16 fl) (by omega), sb, px_0_12, sb, sb, hA1, hB1, hG1, ck_0, sb]
  unfold f_X6_costAtHand
  rw [show (0 : Int64) = lN 0 from rfl, show (0 : Int32) = nI 0 from rfl, s_costX hs ht (fun j hj => by rw [rA 1 (by decide)]; exact (hP j hj).1) (fun j hj => (hP j hj).2) (fun j hj => by rw [rA 2 (by decide)]; exact (hC j hj).1) (fun j hj => by have := (hC j hj).2; omega) hws (by decide) rG13 t 0 NN 0 (by omega) (by show _ < 300000; omega), b2s]
theorem s_RC (hs : s ≤ 4) (ht : t ≤ 24) (hW : ∀ i, i < t → Wv s (W i)) (A : Nat → Nat → Int32) (B : Nat → Nat → Int64) (G : Nat → Nat → Int32) (hP : ∀ j, j < s → A 45 j = nI (P j) ∧ P j ≤ 9) (hC : ∀ i, i < t → A 46 i = nI (C i) ∧ C i ≤ 1000000) (g3 : G 44 3 = nI t) (hw : ∀ i, i < t → B 47 i = lN (W i).1 ∧ A 48 i = nI (W i).2) :
    RC NN (mem A B G fl) = some (lN (0 + csum P C (fun i => (W i).1) (fun i => (W i).2) t 0), mem A B (upA G 44 (cmG (G 44))) fl) := by
  have hws : Ws s t (B 47) (A 48) (fun i => (W i).1) (fun i => (W i).2) := fun i hi => ⟨(hw i hi).1, (hw i hi).2, (hW i hi).1, (hW i hi).2.1, (hW i hi).2.2.1, (hW i hi).2.2.2⟩
  unfold RC
  rw [ck_44, sb, s_comes, sb, ck_44, sb]
  unfold f_X7_costNow
  rw [show (0 : Int64) = lN 0 from rfl, show (0 : Int32) = nI 0 from rfl, s_costM hs ht (fun j hj => (hP j hj).1) (fun j hj => (hP j hj).2) (fun j hj => (hC j hj).1) (fun j hj => by have := (hC j hj).2; omega) hws (by decide) (by rw [upA_same]; exact g3) t 0 NN 0 (by omega) (by show _ < 300000; omega), b2s]
end He
/-- class and reference have the words: a code -/
theorem b_suc {z : Nat} {A : Nat → Nat → Int32} {B : Nat → Nat → Int64} {G : Nat → Nat → Int32} {fl fl' : Nat → Bool} {s t : Nat} {a x : Int32} {W : Nat → Nat × Nat} (h1 : Num A G s t) (h3 : LineOk A G) (h4 : ItemOk A G) (h5 : BrkOk G) (h6 : ChestOk A B G s t) (h7 : StepOk A G fl) (hs2 : 2 ≤ s) (ht0 : 0 < t) (f3 : fl' 3 = fl 3) (hW : ∀ i, i < t → Wv s (W i))
    {A1 : Nat → Nat → Int32} {B1 : Nat → Nat → Int64} {G1 : Nat → Nat → Int32} (cA : ∀ k, k ≤ 2 ∨ (7 ≤ k ∧ k ≤ 8) ∨ (19 ≤ k ∧ k ≤ 81) ∨ 98 ≤ k → A1 k = A k) (cB : ∀ k, 19 ≤ k ∧ k ≤ 81 → B1 k = B k) (cG : ∀ k, k = 0 ∨ k = 6 ∨ (19 ≤ k ∧ k ≤ 81) ∨ 98 ≤ k → G1 k = G k) (lm : LmOk (z + 1) A1 G1 fl') (g16 : G1 16 2 = nI t) (hw : ∀ i, i < t → B1 17 i = lN (W i).1 ∧ A1 18 i = nI (W i).2)
    (hm : ∀ A2 B2 G2, (∀ k, k ≤ 2 ∨ (19 ≤ k ∧ k ≤ 81) → A2 k = A k) → (∀ k, 19 ≤ k ∧ k ≤ 81 → B2 k = B k) → G2 44 = G 44 → ∃ A3 B3 G3, f_X7_build NN 44 a x (mem A2 B2 G2 fl') = RC NN (mem A3 B3 G3 fl') ∧ (∀ k, k ≤ 46 ∨ (72 ≤ k ∧ k ≤ 73) ∨ 78 ≤ k → A3 k = A2 k) ∧ (∀ k, k ≤ 46 ∨ k = 79 → B3 k = B2 k) ∧ (∀ k, k ≠ 44 → G3 k = G2 k) ∧ (∀ f, f = 1 ∨ f = 3 ∨ f = 36 ∨ f = 37 ∨ f = 44 ∨ f = 46 ∨ f = 50 ∨ f = 53 → G3 44 f = G2 44 f) ∧ (∀ i, i < t → B3 47 i = lN (W i).1 ∧ A3 48 i = nI (W i).2)) :
    ∃ r A2 B2 G2 A4 B4 G4, HC NN (mem A1 B1 G1 fl') = some (r, mem A2 B2 G2 fl') ∧ f_X7_build NN 44 a x (mem A2 B2 G2 fl') = some (r, mem A4 B4 G4 fl') ∧ Rv (z + 1) A4 B4 G4 fl' := by
  obtain ⟨n1, n2, n3, n4, n5, n6, n7, n8⟩ := id h1
  obtain ⟨P, C, hP, hC⟩ := h1.nums
  obtain ⟨A2, B2, G2, e1, e2, e3, e4, e5, e6, e7, e8⟩ := s_HC (fl := fl') (P := P) (C := C) n3 n6 hW A1 B1 G1 (fun j hj => by rw [cA 1 (by omega)]; exact ⟨(hP j hj).1, (hP j hj).2.2.2⟩) (fun j hj => by rw [cA 2 (by omega)]; exact ⟨(hC j hj).1, (hC j hj).2.2.2⟩) g16 hw
  obtain ⟨A3, B3, G3, d1, d2, d3, d4, d5, d6⟩ := hm A2 B2 G2 (fun k hk => by rw [e2 k (by omega), cA k (by omega)]) (fun k hk => by rw [e3 k (by omega), cB k (by omega)]) (by rw [e4 44 (by omega) (by omega), cG 44 (by omega)])
  have qA : ∀ k, k ≤ 2 ∨ (7 ≤ k ∧ k ≤ 8) ∨ (19 ≤ k ∧ k ≤ 46) ∨ (72 ≤ k ∧ k ≤ 73) ∨ (78 ≤ k ∧ k ≤ 81) ∨ 98 ≤ k → A3 k = A k := fun k hk => by rw [d2 k (by omega), e2 k (by omega), cA k (by omega)]
  have q44 : ∀ f, f = 1 ∨ f = 3 ∨ f = 36 ∨ f = 37 ∨ f = 44 ∨ f = 46 ∨ f = 50 ∨ f = 53 → G3 44 f = G 44 f := fun f hf => by rw [d5 f hf, e4 44 (by omega) (by omega), cG 44 (by omega)]
  have hRC := s_RC (fl := fl') (P := P) (C := C) n3 n6 hW A3 B3 G3 (fun j hj => by rw [qA 45 (by omega)]; exact ⟨(hP j hj).2.1, (hP j hj).2.2.2⟩) (fun j hj => by rw [qA 46 (by omega)]; exact ⟨(hC j hj).2.1, (hC j hj).2.2.2⟩) (by rw [q44 3 (by decide)]; exact n5) d6
  have p44 : ∀ f, f = 1 ∨ f = 3 ∨ f = 36 ∨ f = 37 ∨ f = 44 ∨ f = 46 ∨ f = 50 ∨ f = 53 → upA G3 44 (cmG (G3 44)) 44 f = G 44 f := fun f hf => by
    rw [upA_same]
    unfold cmG
    rw [upd_ne _ _ _ (by omega), upd_ne _ _ _ (by omega), upd_ne _ _ _ (by omega)]
    exact q44 f hf
  have pG : ∀ k, k ≠ 44 → upA G3 44 (cmG (G3 44)) k = G2 k := fun k hk => by rw [upA_ne _ _ _ hk, d4 k hk]
  refine ⟨_, A2, B2, G2, A3, B3, upA G3 44 (cmG (G3 44)), e1, by rw [d1, hRC], s, t, ?_⟩
  obtain ⟨r1, r2, r3, r4⟩ := rv_rest (A' := A3) (B' := B3) (G' := upA G3 44 (cmG (G3 44))) (fl' := fl') h1 h5 h6 h7 (fun k hk => qA k (by omega)) (fun k hk => by rw [d3 k (by omega), e3 k (by omega), cB k (by omega)]) (fun k hk => by rw [pG k (by omega), e4 k (by omega) (by omega), cG k (by omega)]) (fun f hf => by rw [pG 0 (by omega), e5 f hf, cG 0 (by omega)]) (fun f hf => p44 f (by omega)) f3
  refine ⟨r1, Or.inr ⟨?_, rfl, ht0, hs2, fun i hi => ?_, Or.inl ⟨?_, rfl, rfl⟩⟩, h3.congr ?_ ?_ ?_ ?_, h4.congr ?_ ?_ ?_ ?_, r2, r3, r4, ?_⟩
  · rw [pG 13 (by omega)]; exact e7
  · rw [d3 14 (by omega), d2 15 (by omega), (e8 i hi).1, (e8 i hi).2, (d6 i hi).1, (d6 i hi).2]
    exact ⟨rfl, rfl, (hW i hi).wd⟩
  · rw [pG 0 (by omega)]; exact e6
  · rw [pG 6 (by omega), e4 6 (by omega) (by omega), cG 6 (by omega)]
  · exact p44 44 (by decide)
  · exact qA 72 (by omega)
  · exact qA 7 (by omega)
  · rw [pG 6 (by omega), e4 6 (by omega) (by omega), cG 6 (by omega)]
  · exact p44 46 (by decide)
  · exact qA 73 (by omega)
  · exact qA 8 (by omega)
  · intro hf
    rw [pG 82 (by omega), e4 82 (by omega) (by omega), d2 84 (by omega), e2 84 (by omega)]
    exact lm hf
/-- neither has a code: the one at hand stays -/
theorem b_no {z : Nat} {A : Nat → Nat → Int32} {B : Nat → Nat → Int64} {G : Nat → Nat → Int32} {fl fl' : Nat → Bool} {s t : Nat} (h1 : Num A G s t) (hc : CodeOk z A B G fl s t) (h3 : LineOk A G) (h4 : ItemOk A G) (h5 : BrkOk G) (h6 : ChestOk A B G s t) (h7 : StepOk A G fl) (f1 : fl' 1 = true) (f3 : fl' 3 = fl 3)
    {A1 : Nat → Nat → Int32} {B1 : Nat → Nat → Int64} {G1 : Nat → Nat → Int32} (cA : ∀ k, k ≤ 2 ∨ k = 4 ∨ (7 ≤ k ∧ k ≤ 8) ∨ k = 15 ∨ (19 ≤ k ∧ k ≤ 81) ∨ 98 ≤ k → A1 k = A k) (cB : ∀ k, k = 14 ∨ (19 ≤ k ∧ k ≤ 81) → B1 k = B k) (cG : ∀ k, k = 0 ∨ k = 6 ∨ k = 13 ∨ (19 ≤ k ∧ k ≤ 81) ∨ 98 ≤ k → G1 k = G k) (lm : LmOk (z + 1) A1 G1 fl')
    {A3 : Nat → Nat → Int32} {B3 : Nat → Nat → Int64} {G3 : Nat → Nat → Int32} (d2 : ∀ k, k ≤ 46 ∨ (48 ≤ k ∧ k ≤ 49) ∨ (72 ≤ k ∧ k ≤ 73) ∨ 78 ≤ k → A3 k = A1 k) (d3 : ∀ k, k ≤ 47 ∨ k = 79 → B3 k = B1 k) (d4 : ∀ k, k ≠ 44 → G3 k = G1 k) (d5 : ∀ f, f = 1 ∨ f = 3 ∨ f = 4 ∨ f = 5 ∨ f = 6 ∨ f = 36 ∨ f = 37 ∨ f = 44 ∨ f = 46 ∨ f = 50 ∨ f = 53 → G3 44 f = G1 44 f) : Rv (z + 1) A3 B3 G3 fl' := by
  have qA : ∀ k, k ≤ 2 ∨ k = 4 ∨ (7 ≤ k ∧ k ≤ 8) ∨ k = 15 ∨ (19 ≤ k ∧ k ≤ 46) ∨ (48 ≤ k ∧ k ≤ 49) ∨ (72 ≤ k ∧ k ≤ 73) ∨ (78 ≤ k ∧ k ≤ 81) ∨ 98 ≤ k → A3 k = A k := fun k hk => by rw [d2 k (by omega), cA k (by omega)]
  have qB : ∀ k, k = 14 ∨ (19 ≤ k ∧ k ≤ 47) ∨ k = 79 → B3 k = B k := fun k hk => by rw [d3 k (by omega), cB k (by omega)]
  have qG : ∀ k, k = 0 ∨ k = 6 ∨ k = 13 ∨ (19 ≤ k ∧ k ≤ 43) ∨ 98 ≤ k → G3 k = G k := fun k hk => by rw [d4 k (by omega), cG k (by omega)]
  have q44 : ∀ f, f = 1 ∨ f = 3 ∨ f = 4 ∨ f = 5 ∨ f = 6 ∨ f = 36 ∨ f = 37 ∨ f = 44 ∨ f = 46 ∨ f = 50 ∨ f = 53 → G3 44 f = G 44 f := fun f hf => by rw [d5 f hf, cG 44 (by omega)]
  obtain ⟨r1, r2, r3, r4⟩ := rv_rest (A' := A3) (B' := B3) (G' := G3) (fl' := fl') h1 h5 h6 h7 (fun k hk => qA k (by omega)) (fun k hk => qB k (by omega)) (fun k hk => qG k (by omega)) (fun f hf => by rw [qG 0 (by omega)]) (fun f hf => q44 f (by omega)) f3
  refine ⟨s, t, r1, ?_, h3.congr ?_ ?_ ?_ ?_, h4.congr ?_ ?_ ?_ ?_, r2, r3, r4, ?_⟩
  · have := hc.congr (A' := A3) (B' := B3) (G' := G3) (by rw [qG 13 (by omega)]) (q44 4 (by decide)) (q44 5 (by decide)) (q44 6 (by decide)) (by rw [qG 0 (by omega)]) (qA 15 (by omega)) (qA 48 (by omega)) (qA 1 (by omega)) (qA 4 (by omega)) (qA 49 (by omega)) (qB 14 (by omega)) (qB 47 (by omega))
    unfold CodeOk at this ⊢
    rcases this with h | ⟨w1, w2, w3, w4, w5, w6⟩
    · exact Or.inl h
    · refine Or.inr ⟨w1, w2, w3, w4, w5, ?_⟩
      rcases w6 with h | h | ⟨v1, v2, v3, v4, v5, v6⟩
      · exact Or.inl h
      · exact Or.inr (Or.inl h)
      · exact Or.inr (Or.inr ⟨v1, v2, v3, f1, v5, v6⟩)
  · rw [qG 6 (by omega)]
  · exact q44 44 (by decide)
  · exact qA 72 (by omega)
  · exact qA 7 (by omega)
  · rw [qG 6 (by omega)]
  · exact q44 46 (by decide)
  · exact qA 73 (by omega)
  · exact qA 8 (by omega)
  · intro hf
    rw [d4 82 (by omega), d2 84 (by omega)]
    exact lm hf
