/-! build -/
abbrev Parts (z : Nat) (A : Nat → Nat → Int32) (B : Nat → Nat → Int64) (G : Nat → Nat → Int32) (fl : Nat → Bool) (s t : Nat) : Prop := Num A G s t ∧ CodeOk z A B G fl s t ∧ LineOk A G ∧ ItemOk A G ∧ BrkOk G ∧ ChestOk A B G s t ∧ StepOk A G fl ∧ LmOk z A G fl
/-- a new LevelMaker changes nothing that counts -/
theorem parts_init1 {z : Nat} {A : Nat → Nat → Int32} {B : Nat → Nat → Int64} {G : Nat → Nat → Int32} {fl : Nat → Bool} {s t : Nat} (h : Parts z A B G fl s t) : Parts z (aInit1 A) (bInit1 B) (gInit1 G) (flN fl 1) s t := by
  obtain ⟨h1, hc, h3, h4, h5, h6, h7, h8⟩ := h
  have iA : ∀ k, k ≤ 81 ∨ 93 ≤ k → aInit1 A k = A k := fun k hk => if_neg (by omega)
  have iB : ∀ k, k ≤ 81 ∨ 93 ≤ k → bInit1 B k = B k := fun k hk => if_neg (by omega)
  have iG : ∀ k, k ≤ 81 ∨ 93 ≤ k → gInit1 G k = G k := fun k hk => if_neg (by omega)
  obtain ⟨r1, r2, r3, r4⟩ := rv_rest (A' := aInit1 A) (B' := bInit1 B) (G' := gInit1 G) (fl' := flN fl 1) h1 h5 h6 h7 (fun k hk => iA k (by omega)) (fun k hk => iB k (by omega)) (fun k hk => iG k (by omega)) (fun f hf => by rw [iG 0 (by omega)]) (fun f hf => by rw [iG 44 (by omega)]) rfl
  refine ⟨r1, ?_, h3.congr (by rw [iG 6 (by omega)]) (by rw [iG 44 (by omega)]) (iA 72 (by omega)) (iA 7 (by omega)), h4.congr (by rw [iG 6 (by omega)]) (by rw [iG 44 (by omega)]) (iA 73 (by omega)) (iA 8 (by omega)), r2, r3, r4, ?_⟩
  · unfold CodeOk MayFree at hc ⊢
    rw [iG 13 (by omega), iG 44 (by omega), iG 0 (by omega), iA 15 (by omega), iA 48 (by omega), iA 1 (by omega), iA 4 (by omega), iA 49 (by omega), iB 14 (by omega), iB 47 (by omega), show flN fl 1 1 = true from if_pos rfl]
    rcases hc with h | ⟨w1, w2, w3, w4, w5, w6⟩
    · exact Or.inl h
    · refine Or.inr ⟨w1, w2, w3, w4, w5, ?_⟩
      rcases w6 with h | h | ⟨v1, v2, v3, v4, v5, v6⟩
      · exact Or.inl h
      · exact Or.inr (Or.inl h)
      · exact Or.inr (Or.inr ⟨v1, v2, v3, rfl, v5, v6⟩)
  · intro _
    exact ⟨0, Nat.zero_le _, rfl, fun j hj => ⟨0, Nat.le_refl _, rfl⟩⟩
theorem cs_1 {fl : Nat → Bool} (f0 : fl 1 = false) : csF (flN fl 1) = csF fl + 11 ∧ slF (flN fl 1) = slF fl + 14764 := by
  unfold csF slF
  rw [f0, show flN fl 1 1 = true from rfl, show flN fl 1 2 = fl 2 from rfl, show flN fl 1 3 = fl 3 from rfl]
  constructor
  · cases fl 2 <;> cases fl 3 <;> rfl
  · cases fl 2 <;> cases fl 3 <;> rfl
theorem cs_2 {fl : Nat → Bool} (f0 : fl 2 = false) : csF (flN fl 2) = csF fl + 5 ∧ slF (flN fl 2) = slF fl + 3490 := by
  unfold csF slF
  rw [f0, show flN fl 2 2 = true from rfl, show flN fl 2 1 = fl 1 from rfl, show flN fl 2 3 = fl 3 from rfl]
  constructor
  · cases fl 1 <;> cases fl 3 <;> rfl
  · cases fl 1 <;> cases fl 3 <;> rfl
section Rb
variable {fl : Nat → Bool} {s t : Nat} {pr C : Nat → Nat} {a x : Int32}
theorem bM_k (n3 : s ≤ 4) {A : Nat → Nat → Int32} {B : Nat → Nat → Int64} {G : Nat → Nat → Int32} (g1 : G 44 1 = nI s) : (KOk s a x → f_X7_build NN 44 a x (mem A B G fl) = f_X7_build_K46 NN 44 a x (mem A B G fl)) ∧ (¬ KOk s a x → f_X7_build NN 44 a x (mem A B G fl) = some (-2, mem A B G fl)) := s_kindM (N := NN) (A := A) (B := B) (G := G) (fl := fl) g1 n3 a x (fun M => some ((-2 : Int64), M)) (f_X7_build_K46 NN 44 a x)
theorem bM_can (n3 : s ≤ 4) (n6 : t ≤ 24) (hk : KOk s a x) {A : Nat → Nat → Int32} {B : Nat → Nat → Int64} {G : Nat → Nat → Int32} (g1 : G 44 1 = nI s) (g3 : G 44 3 = nI t) (hp : ∀ u, u < s → A 45 u = nI (pr u) ∧ 1 ≤ pr u ∧ pr u ≤ 9) : (CanK pr s t a → ∃ v, v ≠ 0 ∧ f_X7_build NN 44 a x (mem A B G fl) = f_X7_build_K106 NN 44 a x v (mem A B G fl)) ∧ (¬ CanK pr s t a → f_X7_build NN 44 a x (mem A B G fl) = some (-3, mem A B G fl)) := by
  rw [(bM_k n3 g1).1 hk]
  obtain ⟨v, e1, e2⟩ := s_K46 (A := A) (B := B) (G := G) (fl := fl) (N := NN) (by decide) g1 g3 n3 n6 hp a x
  rw [e1]
  refine ⟨fun h => ⟨v, fun q => e2.mp q h, rfl⟩, fun h => ?_⟩
  unfold f_X7_build_K106
  rw [if_pos (e2.mpr h)]
/-- the reference, FREE and BOUNDED -/
theorem bM_free (n3 : s ≤ 4) (n6 : t ≤ 24) (hk : KOk s a x) (hcan : CanK pr s t a) {bd : Nat} (hbd : (a = 0 ∧ bd = 0) ∨ (a = 1 ∧ bd ≠ 0 ∧ x = nI bd)) {ok : Prop} {W : Nat → Nat × Nat} (hR : RfSp pr C s t bd ok W) {A : Nat → Nat → Int32} {B : Nat → Nat → Int64} {G : Nat → Nat → Int32} (g1 : G 44 1 = nI s) (g3 : G 44 3 = nI t) (hp : ∀ u, u < s → A 45 u = nI (pr u) ∧ 1 ≤ pr u ∧ pr u ≤ 9) (hC : ∀ i, i < t → A 46 i = nI (C i)) :
    ∃ A3 B3 G3, (∀ k, k ≤ 46 ∨ k = 49 ∨ (72 ≤ k ∧ k ≤ 73) ∨ 78 ≤ k → A3 k = A k) ∧ (∀ k, k ≤ 46 ∨ k = 79 → B3 k = B k) ∧ (∀ k, k ≠ 44 → G3 k = G k) ∧ (∀ f, f = 1 ∨ f = 3 ∨ f = 4 ∨ f = 5 ∨ f = 6 ∨ f = 36 ∨ f = 37 ∨ f = 44 ∨ f = 46 ∨ f = 50 ∨ f = 53 → G3 44 f = G 44 f) ∧
      ((ok ∧ f_X7_build NN 44 a x (mem A B G fl) = RC NN (mem A3 B3 G3 fl) ∧ ∀ i, i < t → B3 47 i = lN (W i).1 ∧ A3 48 i = nI (W i).2) ∨ (¬ ok ∧ f_X7_build NN 44 a x (mem A B G fl) = some (-5, mem A3 B3 G3 fl) ∧ A3 48 = A 48 ∧ B3 47 = B 47)) := by
  obtain ⟨v, hv, e1⟩ := (bM_can (fl := fl) (B := B) n3 n6 hk g1 g3 hp).1 hcan
  obtain ⟨A2, B2, c1, c2, c3⟩ := s_bL122 (G := G) (fl := fl) (N := NN) g3 n6 a x t 0 NN A B (by omega) (by show _ < 300000; omega)
  obtain ⟨A3, B3, G3, r, d1, d2, d3, d4, d5, d6⟩ := hR fl A2 B2 G 46 (ly46 fl) (by decide) g1 g3 (fun u hu => by rw [c2 45 (by decide)]; exact (hp u hu).1) (fun i hi => by rw [c2 46 (by decide)]; exact hC i hi)
  have key : f_X7_build NN 44 a x (mem A B G fl) = if r = 0 then some (-5, mem A3 B3 G3 fl) else RC NN (mem A3 B3 G3 fl) := by
    rw [e1]
    unfold f_X7_build_K106
    rw [if_neg hv]
    rcases hbd with ⟨q1, q2⟩ | ⟨q1, q2, q3⟩
    · subst q1
      rw [if_neg (show ¬ (2 : Int32) ≤ 0 by decide), show (f_X7_build_L122 NN NN 44 0 x 0 (mem A B G fl)) = _ from c1]
      unfold f_X7_build_K165
      rw [q2, if_pos rfl] at d1
      rw [gx_44_2, sb, if_pos rfl, ck_44, sb, show (24 : Int32) = nI 24 from rfl, d1, b2s]
      rfl
    · subst q1
      rw [if_neg (show ¬ (2 : Int32) ≤ 1 by decide), show (f_X7_build_L122 NN NN 44 1 x 0 (mem A B G fl)) = _ from c1]
      unfold f_X7_build_K165
      rw [if_neg q2] at d1
      rw [gx_44_2, sb, if_neg (show ¬ (1 : Int32) = 0 by decide), ck_44, sb, q3, d1, b2s]
      rfl
  refine ⟨A3, B3, G3, fun k hk => by rw [d2 k (by omega) (by omega) (by omega) (by omega) (by omega) (by omega) (by omega), c2 k (by omega)], fun k hk => by rw [d3 k (by omega) (by omega) (by omega) (by omega), c3 k (by omega)], d4, fun f hf => d5 f (by omega) (by omega) (by omega) (by omega) (by omega) (by omega) (by omega), ?_⟩
  rcases d6 with ⟨w1, w2, w3⟩ | ⟨w1, w2, w3, w4⟩
  · refine Or.inl ⟨w1, ?_, w3⟩
    rw [key, w2, if_neg (show ¬ (1 : Int32) = 0 by decide)]
  · refine Or.inr ⟨w1, ?_, by rw [w3, c2 48 (by decide)], by rw [w4, c3 47 (by decide)]⟩
    rw [key, w2, if_pos rfl]
end Rb
/-- the class, FREE and BOUNDED, behind the LevelMaker -/
def KLv (bd : Int32) (M : A_M) : Option (Int64 × A_M) := bnd2 (f_X6_makeByLevels_A_K18 NN 0 16 2 bd M) fun v53 M53 => if v53 = 0 then some (-5, M53) else HC NN M53
theorem b_free {z : Nat} {A : Nat → Nat → Int32} {B : Nat → Nat → Int64} {G : Nat → Nat → Int32} {fl : Nat → Bool} {s t : Nat} {a x : Int32} (hz : z < 1536) (hR : Parts z A B G fl s t) (f1 : fl 1 = true) {P C : Nat → Nat} (hP : ∀ j, j < s → A 1 j = nI (P j) ∧ A 45 j = nI (P j) ∧ 1 ≤ P j ∧ P j ≤ 9) (hC : ∀ i, i < t → A 2 i = nI (C i) ∧ A 46 i = nI (C i) ∧ 1 ≤ C i ∧ C i ≤ 1000000) (hk : KOk s a x) (hcan : CanK P s t a) {bd : Nat} (hbd : (a = 0 ∧ bd = 0) ∨ (a = 1 ∧ bd ≠ 0 ∧ bd ≤ 24 ∧ x = nI bd)) :
    ∃ r A2 B2 G2 A4 B4 G4, KLv (nI bd) (mem A B G fl) = some (r, mem A2 B2 G2 fl) ∧ f_X7_build NN 44 a x (mem A2 B2 G2 fl) = some (r, mem A4 B4 G4 fl) ∧ Rv (z + 1) A4 B4 G4 fl := by
  obtain ⟨h1, hc, h3, h4, h5, h6, h7, h8⟩ := hR
  obtain ⟨n1, n2, n3, n4, n5, n6, n7, n8⟩ := id h1
  have hM : MayF P s t := by
    unfold CanK at hcan
    rcases hbd with ⟨q1, q2⟩ | ⟨q1, q2, q3⟩
    · rw [if_pos q1] at hcan; exact hcan
    · rw [if_neg (by rw [q1]; decide)] at hcan
      exact ⟨hcan.1, hcan.2.1, Or.inl (fun u hu => by rw [hcan.2.2 q1 u hu, hcan.2.2 q1 0 (by omega)])⟩
  have hlike : bd ≠ 0 → ∀ u, u < s → P u = P 0 := fun q u hu => by
    unfold CanK at hcan
    rcases hbd with ⟨q1, q2⟩ | ⟨q1, q2, q3⟩
    · exact absurd q2 q
    · rw [if_neg (by rw [q1]; decide)] at hcan
      rw [hcan.2.2 q1 u hu, hcan.2.2 q1 0 (by omega)]
  obtain ⟨ok, W, ow1, ow2, hL, hRf, -⟩ := two_free (pr := P) (C := C) (bd := bd) hM n3 n6 (fun u hu => ⟨(hP u hu).2.2.1, (hP u hu).2.2.2⟩) (fun i hi => ⟨(hC i hi).2.2.1, (hC i hi).2.2.2⟩) (by omega) hlike
  obtain ⟨sp, sp1, sp2, sp3⟩ := h8 f1
  obtain ⟨A1, B1, G1, r, e1, e2, e3, e4, e5, e6, e7⟩ := hL fl A B G 16 2 sp f1 (cd16 fl) (by decide) (ly2 fl) (by decide) (by decide) n1 n4 (fun u hu => (hP u hu).1) (fun i hi => (hC i hi).1) sp2 sp3 (by omega)
  have lm : LmOk (z + 1) A1 G1 fl := fun _ => ⟨sp + 1, by omega, e5, e6⟩
  have cA : ∀ k, k ≤ 2 ∨ k = 4 ∨ (7 ≤ k ∧ k ≤ 8) ∨ k = 15 ∨ (19 ≤ k ∧ k ≤ 81) ∨ 98 ≤ k → A1 k = A k := fun k hk => e2 k (by omega) (by omega) (by omega) (by omega) (by omega) (by omega) (by omega)
  have cB : ∀ k, k = 14 ∨ (19 ≤ k ∧ k ≤ 81) → B1 k = B k := fun k hk => e3 k (by omega) (by omega) (by omega) (by omega)
  have cG : ∀ k, k = 0 ∨ k = 6 ∨ k = 13 ∨ (19 ≤ k ∧ k ≤ 81) ∨ 98 ≤ k → G1 k = G k := fun k hk => e4 k (by omega) (by omega) (by omega)
  have hbd2 : (a = 0 ∧ bd = 0) ∨ (a = 1 ∧ bd ≠ 0 ∧ x = nI bd) := by
    rcases hbd with q | ⟨q1, q2, q3, q4⟩
    · exact Or.inl q
    · exact Or.inr ⟨q1, q2, q4⟩
  rcases e7 with ⟨w1, w2, w3, w4⟩ | ⟨w1, w2, w3, w4, w5⟩
  · obtain ⟨r2, A2, B2, G2, A4, B4, G4, y1, y2, y3⟩ := b_suc (z := z) (fl' := fl) (a := a) (x := x) (W := W) h1 h3 h4 h5 h6 h7 hM.1 hM.2.1 rfl (fun i hi => (ow2 w1 i hi).1) (A1 := A1) (B1 := B1) (G1 := G1) (fun k hk => cA k (by omega)) (fun k hk => cB k (by omega)) (fun k hk => cG k (by omega)) lm (by rw [w3, upd_eq]) w4 (fun A2 B2 G2 a1 a2 a3 => by
      obtain ⟨A3, B3, G3, c1, c2, c3, c4, c5⟩ := bM_free (fl := fl) (A := A2) (B := B2) (G := G2) n3 n6 hk hcan hbd2 hRf (by rw [a3]; exact n2) (by rw [a3]; exact n5) (fun u hu => by rw [a1 45 (by omega)]; exact ⟨(hP u hu).2.1, (hP u hu).2.2⟩) (fun i hi => by rw [a1 46 (by omega)]; exact (hC i hi).2.1)
      rcases c5 with ⟨v1, v2, v3⟩ | ⟨v1, -⟩
      · exact ⟨A3, B3, G3, v2, fun k hk => c1 k (by omega), c2, c3, fun f hf => c4 f (by omega), v3⟩
      · exact absurd w1 v1)
    refine ⟨r2, A2, B2, G2, A4, B4, G4, ?_, y2, y3⟩
    unfold KLv
    rw [e1, b2s, w2, if_neg (show ¬ (1 : Int32) = 0 by decide), y1]
  · obtain ⟨A3, B3, G3, c1, c2, c3, c4, c5⟩ := bM_free (fl := fl) (A := A1) (B := B1) (G := G1) n3 n6 hk hcan hbd2 hRf (by rw [cG 44 (by omega)]; exact n2) (by rw [cG 44 (by omega)]; exact n5) (fun u hu => by rw [cA 45 (by omega)]; exact ⟨(hP u hu).2.1, (hP u hu).2.2⟩) (fun i hi => by rw [cA 46 (by omega)]; exact (hC i hi).2.1)
    rcases c5 with ⟨v1, -⟩ | ⟨v1, v2, v3, v4⟩
    · exact absurd v1 w1
    · refine ⟨-5, A1, B1, G1, A3, B3, G3, ?_, v2, b_no (z := z) h1 hc h3 h4 h5 h6 h7 f1 rfl cA cB cG lm (fun k hk => ?_) (fun k hk => ?_) c3 c4⟩
      · unfold KLv
        rw [e1, b2s, w2, if_pos rfl]
      · by_cases q : k = 48
        · rw [q]; exact v3
        · exact c1 k (by omega)
      · by_cases q : k = 47
        · rw [q]; exact v4
        · exact c2 k (by omega)
