theorem b_init1 {A : Nat → Nat → Int32} {B : Nat → Nat → Int64} {G : Nat → Nat → Int32} {fl : Nat → Bool} (f0 : fl 1 = false) (cd ct : Nat) (bd : Int32) : f_X6_makeByLevels_B NN 0 cd ct bd (mem A B G fl) = f_X6_makeByLevels_A_K18 NN 0 cd ct bd (mem (aInit1 A) (bInit1 B) (gInit1 G) (flN fl 1)) := by
  obtain ⟨a1, M35, a2, a3⟩ := s_init1 (A := A) (B := B) (G := G) (fl := fl) (N := NN) f0
  unfold f_X6_makeByLevels_B
  rw [gZ_mem (ly0 fl) (d := 1) rfl f0, sb, a1, sb, a2, sb, a3, sb]
  rfl
theorem kOk3 {s : Nat} {x : Int32} (h : KOk s 3 x) : 0 ≤ x.toInt ∧ x.toInt < s := by
  rcases h with ⟨q, -⟩ | ⟨-, q⟩ | q | q
  · exact absurd q (by decide)
  · exact q
  · exact absurd q (by decide)
  · exact absurd q (by decide)
theorem kOk1 {s : Nat} {x : Int32} (h : KOk s 1 x) : 1 ≤ x.toInt ∧ x.toInt ≤ 24 := by
  rcases h with ⟨-, q⟩ | ⟨q, -⟩ | q | q
  · exact q
  · exact absurd q (by decide)
  · exact absurd q (by decide)
  · exact absurd q (by decide)
theorem nums_fr {A A' : Nat → Nat → Int32} {s t : Nat} {P C : Nat → Nat} (hP : ∀ j, j < s → A 1 j = nI (P j) ∧ A 45 j = nI (P j) ∧ 1 ≤ P j ∧ P j ≤ 9) (hC : ∀ i, i < t → A 2 i = nI (C i) ∧ A 46 i = nI (C i) ∧ 1 ≤ C i ∧ C i ≤ 1000000) (q : ∀ k, k ≤ 2 ∨ (45 ≤ k ∧ k ≤ 46) → A' k = A k) : (∀ j, j < s → A' 1 j = nI (P j) ∧ A' 45 j = nI (P j) ∧ 1 ≤ P j ∧ P j ≤ 9) ∧ (∀ i, i < t → A' 2 i = nI (C i) ∧ A' 46 i = nI (C i) ∧ 1 ≤ C i ∧ C i ≤ 1000000) := by
  rw [q 1 (by omega), q 45 (by omega), q 2 (by omega), q 46 (by omega)]
  exact ⟨hP, hC⟩
theorem b_ord {z : Nat} {A : Nat → Nat → Int32} {B : Nat → Nat → Int64} {G : Nat → Nat → Int32} {fl : Nat → Bool} {s t : Nat} {x : Int32} (hR : Parts z A B G fl s t) (f2 : fl 2 = true) {P C : Nat → Nat} (hP : ∀ j, j < s → A 1 j = nI (P j) ∧ A 45 j = nI (P j) ∧ 1 ≤ P j ∧ P j ≤ 9) (hC : ∀ i, i < t → A 2 i = nI (C i) ∧ A 46 i = nI (C i) ∧ 1 ≤ C i ∧ C i ≤ 1000000) (hk : KOk s 2 x) (hcan : CanK P s t 2) :
    ∃ r A2 B2 G2 A4 B4 G4, ((f_X4_make NN 93 16 2 (nI t) 1 (nI s) (mem A B G fl)).bind fun M92 => HC NN M92) = some (r, mem A2 B2 G2 fl) ∧ f_X7_build NN 44 2 x (mem A2 B2 G2 fl) = some (r, mem A4 B4 G4 fl) ∧ Rv (z + 1) A4 B4 G4 fl := by
  obtain ⟨h1, hc, h3, h4, h5, h6, h7, h8⟩ := hR
  obtain ⟨n1, n2, n3, n4, n5, n6, n7, n8⟩ := id h1
  have hst : 2 ≤ s ∧ 0 < t := by
    unfold CanK at hcan
    rw [if_neg (by decide)] at hcan
    exact ⟨hcan.1, hcan.2.1⟩
  have hS : Sml P C s t := ⟨n3, n6, fun u hu => (hP u hu).2.2.2, fun i hi => (hC i hi).2.2.2⟩
  obtain ⟨A1, B1, G1, e1, e2, e3, e4, e5, e6⟩ := s_ordX (fl := fl) (N := NN) f2 (by decide) hst.1 hS hst.2 (fun u hu => (hP u hu).2.2.1) (fun i hi => (hC i hi).2.2.1) A B G (fun u hu => (hP u hu).1) (fun i hi => (hC i hi).1)
  obtain ⟨r2, A2, B2, G2, A4, B4, G4, y1, y2, y3⟩ := b_suc (z := z) (fl' := fl) (a := 2) (x := x) (W := oV P C s t) h1 h3 h4 h5 h6 h7 hst.1 hst.2 rfl (fun i hi => oV_ok hst.1 hS hst.2 hi) (A1 := A1) (B1 := B1) (G1 := G1) (fun k hk => e2 k (by omega) (by omega)) (fun k hk => e3 k (by omega) (by omega) (by omega) (by omega)) (fun k hk => e4 k (by omega) (by omega)) (h8.congr (by rw [e4 82 (by omega) (by omega)]) (e2 84 (by omega) (by omega))) e5 e6 (fun A2 B2 G2 a1 a2 a3 => by
    obtain ⟨v, hv, c1⟩ := (bM_can (fl := fl) (A := A2) (B := B2) (G := G2) n3 n6 hk (by rw [a3]; exact n2) (by rw [a3]; exact n5) (fun u hu => by rw [a1 45 (by omega)]; exact ⟨(hP u hu).2.1, (hP u hu).2.2⟩)).1 hcan
    obtain ⟨A3, B3, G3, d1, d2, d3, d4, d5, d6⟩ := s_ordM (fl := fl) (N := NN) (by decide) hst.1 hS hst.2 A2 B2 G2 ⟨by rw [a3]; exact n2, by rw [a3]; exact n5, fun u hu => by rw [a1 45 (by omega)]; exact (hP u hu).2.1, fun i hi => by rw [a1 46 (by omega)]; exact (hC i hi).2.1⟩
    refine ⟨A3, B3, G3, ?_, fun k hk => d2 k (by omega) (by omega) (by omega) (by omega), fun k hk => d3 k (by omega) (by omega) (by omega) (by omega), d4, fun f hf => d5 f (by omega), d6⟩
    rw [c1]
    unfold f_X7_build_K106
    rw [if_neg hv, if_pos (show (2 : Int32) ≤ 2 by decide), if_pos rfl, ck_44, sb, d1, sb]
    rfl)
  refine ⟨r2, A2, B2, G2, A4, B4, G4, ?_, y2, y3⟩
  rw [e1, sb, y1]
theorem b_end {z : Nat} {A : Nat → Nat → Int32} {B : Nat → Nat → Int64} {G : Nat → Nat → Int32} {fl : Nat → Bool} {s t : Nat} {x : Nat} (hR : Parts z A B G fl s t) {P C : Nat → Nat} (hP : ∀ j, j < s → A 1 j = nI (P j) ∧ A 45 j = nI (P j) ∧ 1 ≤ P j ∧ P j ≤ 9) (hC : ∀ i, i < t → A 2 i = nI (C i) ∧ A 46 i = nI (C i) ∧ 1 ≤ C i ∧ C i ≤ 1000000) (hx : x < s) (hk : KOk s 3 (nI x)) (hcan : CanK P s t 3) :
    ∃ r A2 B2 G2 A4 B4 G4, ((f_X6_makeEnded NN 0 16 (nI x) (mem A B G fl)).bind fun M92 => HC NN M92) = some (r, mem A2 B2 G2 fl) ∧ f_X7_build NN 44 3 (nI x) (mem A2 B2 G2 fl) = some (r, mem A4 B4 G4 fl) ∧ Rv (z + 1) A4 B4 G4 fl := by
  obtain ⟨h1, hc, h3, h4, h5, h6, h7, h8⟩ := hR
  obtain ⟨n1, n2, n3, n4, n5, n6, n7, n8⟩ := id h1
  have hst : 2 ≤ s ∧ 0 < t := by
    unfold CanK at hcan
    rw [if_neg (by decide)] at hcan
    exact ⟨hcan.1, hcan.2.1⟩
  obtain ⟨o, o1, o2, o3⟩ := rkG_P0 (c := fun i => nI (C i)) (r := fun _ => 0) (t := t) (by omega)
  have hoL : ∀ j, j < t → o j < t := fun j hj => (o1 j hj).2
  have hW : ∃ W : Nat → Nat × Nat, ∀ i, i < t → ∃ j, j < t ∧ o j = i ∧ W i = wE P s x j := by
    have : ∀ i, ∃ w : Nat × Nat, i < t → ∃ j, j < t ∧ o j = i ∧ w = wE P s x j := fun i => by
      by_cases hi : i < t
      · obtain ⟨j, h1, h2⟩ := inj_all hoL o2 hi
        exact ⟨_, fun _ => ⟨j, h1, h2, rfl⟩⟩
      · exact ⟨(0, 0), fun h => absurd h hi⟩
    obtain ⟨f, hf⟩ := Classical.axiomOfChoice this
    exact ⟨f, hf⟩
  obtain ⟨W, hW⟩ := hW
  obtain ⟨A1, B1, G1, e1, e2, e3, e4, e5, e6⟩ := s_endedX (fl := fl) (N := NN) (P := P) (o := o) (by decide) hst.1 n3 n6 hx A B G n1 n4 (fun u hu => ⟨(hP u hu).1, (hP u hu).2.2.2⟩) (fun j hj => by
    rw [rkG_cg (c := A 2) (c' := fun i => nI (C i)) (n := t) (fun i hi => (hC i hi).1) (by omega) t 0 (A 3) (fun _ => 0) (by omega) (RkB0 _ _) (fun j hj => absurd hj (by omega)) j (by omega)]
    exact o1 j hj) o2
  obtain ⟨r2, A2, B2, G2, A4, B4, G4, y1, y2, y3⟩ := b_suc (z := z) (fl' := fl) (a := 3) (x := nI x) (W := W) h1 h3 h4 h5 h6 h7 hst.1 hst.2 rfl (fun i hi => by
    obtain ⟨j, j1, j2, j3⟩ := hW i hi
    rw [j3]
    exact wE_ok hst.1 n3 hx (fun u hu => (hP u hu).2.2.2) (by omega)) (A1 := A1) (B1 := B1) (G1 := G1) (fun k hk => e2 k (by omega) (by omega) (by omega) (by omega)) (fun k hk => e3 k (by omega) (by omega)) (fun k hk => e4 k (by omega) (by omega)) (h8.congr (by rw [e4 82 (by omega) (by omega)]) (e2 84 (by omega) (by omega) (by omega) (by omega))) e5 (fun i hi => by
      obtain ⟨j, j1, j2, j3⟩ := hW i hi
      have := e6 j j1
      rw [j2, ← j3] at this
      exact this) (fun A2 B2 G2 a1 a2 a3 => by
    obtain ⟨v, hv, c1⟩ := (bM_can (fl := fl) (A := A2) (B := B2) (G := G2) n3 n6 hk (by rw [a3]; exact n2) (by rw [a3]; exact n5) (fun u hu => by rw [a1 45 (by omega)]; exact ⟨(hP u hu).2.1, (hP u hu).2.2⟩)).1 hcan
    obtain ⟨A3, B3, G3, d1, d2, d3, d4, d5, d6⟩ := s_endedM (fl := fl) (N := NN) (P := P) (o := o) (by decide) hst.1 n3 n6 hx A2 B2 G2 (by rw [a3]; exact n2) (by rw [a3]; exact n5) (fun u hu => by rw [a1 45 (by omega)]; exact ⟨(hP u hu).2.1, (hP u hu).2.2⟩) (fun j hj => by
      rw [rkG_cg (c := A2 46) (c' := fun i => nI (C i)) (n := t) (fun i hi => by rw [a1 46 (by omega)]; exact (hC i hi).2.1) (by omega) t 0 (A2 50) (fun _ => 0) (by omega) (RkB0 _ _) (fun j hj => absurd hj (by omega)) j (by omega)]
      exact o1 j hj) o2
    refine ⟨A3, B3, G3, ?_, fun k hk => d2 k (by omega) (by omega) (by omega) (by omega) (by omega), fun k hk => d3 k (by omega) (by omega), d4, fun f hf => d5 f (by omega) (by omega), fun i hi => ?_⟩
    · rw [c1]
      unfold f_X7_build_K106
      rw [if_neg hv, if_pos (show (2 : Int32) ≤ 3 by decide), if_neg (show ¬ (3 : Int32) = 2 by decide), ck_44, sb, d1, sb]
      rfl
    · obtain ⟨j, j1, j2, j3⟩ := hW i hi
      have := d6 j j1
      rw [j2, ← j3] at this
      exact this)
  refine ⟨r2, A2, B2, G2, A4, B4, G4, ?_, y2, y3⟩
  rw [e1, sb, y1]
theorem lo_build : LO_build Inv := by
  rintro a x z M cs sl hz ⟨A, B, G, fl, rfl, rfl, rfl, hR⟩
  obtain ⟨s, t, hps⟩ := id hR
  obtain ⟨h1, hc, h3, h4, h5, h6, h7, h8⟩ := id hps
  obtain ⟨n1, n2, n3, n4, n5, n6, n7, n8⟩ := id h1
  obtain ⟨P, C, hP, hC⟩ := h1.nums
  rcases s_isKind (A := A) (B := B) (G := G) (fl := fl) (N := NN) n1 n3 a x with ⟨hk, ek⟩ | ⟨hk, ek⟩
  · obtain ⟨v, ev, hv⟩ := s_canK (A := A) (B := B) (G := G) (fl := fl) (N := NN) (by decide) n1 n4 n3 n6 (fun u hu => ⟨(hP u hu).1, (hP u hu).2.2⟩) a
    by_cases hcan : CanK P s t a
    · have hv0 : ¬ v = 0 := fun q => hv.mp q hcan
      have h4c : a = 0 ∨ a = 1 ∨ a = 2 ∨ a = 3 := by
        rcases hk with ⟨q, -⟩ | ⟨q, -⟩ | q | q
        · exact Or.inr (Or.inl q)
        · exact Or.inr (Or.inr (Or.inr q))
        · exact Or.inl q
        · exact Or.inr (Or.inr (Or.inl q))
      by_cases hfree : a = 0 ∨ a = 1
      · obtain ⟨bd, hbd, hbi⟩ : ∃ bd : Nat, ((a = 0 ∧ bd = 0) ∨ (a = 1 ∧ bd ≠ 0 ∧ bd ≤ 24 ∧ x = nI bd)) ∧ (∀ M : A_M, f_X6_build_AA_K34 NN 0 a x M = ((gR M 0 6 8).bind fun v36 => (gR M 0 6 1).bind fun v40 => f_X6_build_AA_K53 NN 0 (nI bd) v40 v36 0 M) ∧ f_X6_build_BA_K34 NN 0 a x M = ((gR M 0 6 8).bind fun v36 => (gR M 0 6 1).bind fun v40 => f_X6_build_BA_K53 NN 0 (nI bd) v40 v36 0 M)) := by
          rcases hfree with q | q
          · subst q
            exact ⟨0, Or.inl ⟨rfl, rfl⟩, fun M => ⟨rfl, rfl⟩⟩
          · subst q
            have hx := kOk1 hk
            obtain ⟨b, hb1, rfl⟩ := ix_of (n := 25) (a := x) ⟨by omega, by omega⟩ (by decide)
            have hb0 : b ≠ 0 := fun q => by
              subst q
              have : (nI 0).toInt = 0 := rfl
              omega
            exact ⟨b, Or.inr ⟨rfl, hb0, by omega, rfl⟩, fun M => ⟨rfl, rfl⟩⟩
        have hnb : ∀ {α : Type} (u w y : α), (if a = 0 then u else if a = 1 then u else y) = u := fun u w y => by
          rcases hfree with q | q
          · rw [if_pos q]
          · rw [if_neg (by rw [q]; decide), if_pos q]
        by_cases f1 : fl 1 = true
        · obtain ⟨r, A2, B2, G2, A4, B4, G4, y1, y2, y3⟩ := b_free (a := a) (x := x) hz hps f1 hP hC hk hcan hbd
          refine ⟨r, mem A2 B2 G2 fl, mem A4 B4 G4 fl, 0, 0, ok_X6_build_AA NN ?_, ok_X7_build NN y2, ck_0, ck_44, A4, B4, G4, fl, rfl, rfl, rfl, y3⟩
          unfold f_X6_build_AA
          rw [ck_0, sb, ek, b2s, if_neg (show ¬ (1 : Int32) = 0 by decide), ck_0, sb, ev, b2s, if_neg hv0, hnb _ (some (0, mem A B G fl)), (hbi _).1, gx_0_8, sb, gx_0_1, sb]
          unfold f_X6_build_AA_K53 f_X6_makeByLevels_A
          rw [ck_0, sb, gx_0_15 f1, sb]
          exact y1
        · have f0 : fl 1 = false := by cases h : fl 1 with | false => rfl | true => exact absurd h f1
          have f1' : flN fl 1 1 = true := if_pos rfl
          obtain ⟨hP', hC'⟩ := nums_fr (A' := aInit1 A) hP hC (fun k hk => if_neg (by omega))
          obtain ⟨r, A2, B2, G2, A4, B4, G4, y1, y2, y3⟩ := b_free (a := a) (x := x) hz (parts_init1 hps) f1' hP' hC' hk hcan hbd
          refine ⟨r, mem A2 B2 G2 (flN fl 1), mem A4 B4 G4 (flN fl 1), 11, 14764, ok_X6_build_BA NN ?_, ok_X7_build NN y2, ck_0, ck_44, A4, B4, G4, flN fl 1, rfl, (cs_1 f0).1.symm, (cs_1 f0).2.symm, y3⟩
          unfold f_X6_build_BA
          rw [ck_0, sb, ek, b2s, if_neg (show ¬ (1 : Int32) = 0 by decide), ck_0, sb, ev, b2s, if_neg hv0, hnb _ (some (0, mem A B G fl)), (hbi _).2, gx_0_8, sb, gx_0_1, sb]
          unfold f_X6_build_BA_K53
          rw [ck_0, sb, b_init1 f0]
          exact y1
      · have a0 : ¬ a = 0 := fun q => hfree (Or.inl q)
        have a1 : ¬ a = 1 := fun q => hfree (Or.inr q)
        by_cases a2 : a = 2
        · subst a2
          by_cases f2 : fl 2 = true
          · obtain ⟨r, A2, B2, G2, A4, B4, G4, y1, y2, y3⟩ := b_ord (x := x) hps f2 hP hC hk hcan
            refine ⟨r, mem A2 B2 G2 fl, mem A4 B4 G4 fl, 0, 0, ok_X6_build_AA NN ?_, ok_X7_build NN y2, ck_0, ck_44, A4, B4, G4, fl, rfl, rfl, rfl, y3⟩
            unfold f_X6_build_AA f_X6_orders_A
            rw [ck_0, sb, ek, b2s, if_neg (show ¬ (1 : Int32) = 0 by decide), ck_0, sb, ev, b2s, if_neg hv0, if_neg a0, if_neg a1, if_pos rfl, ck_0, sb, gx_0_16 f2, sb, sb, b2s, gx_0_8, sb, gx_0_1, sb, gx_0_11, sb, gx_0_0, sb, gx_0_10, sb, n4, n1, ck_93 f2, sb]
            exact y1
          · have f0 : fl 2 = false := by cases h : fl 2 with | false => rfl | true => exact absurd h f2
            have f2' : flN fl 2 2 = true := if_pos rfl
            obtain ⟨hP', hC'⟩ := nums_fr (A' := aInit2 A) hP hC (fun k hk => (fr_init2 A B G).1 k (by omega))
            have q0 := (fr_init2 A B G).2.2 0 (by omega)
            obtain ⟨r, A2, B2, G2, A4, B4, G4, y1, y2, y3⟩ := b_ord (x := x) (rv_parts (fl' := flN fl 2) (fr_init2 A B G) rfl rfl hps) f2' hP' hC' hk hcan
            refine ⟨r, mem A2 B2 G2 (flN fl 2), mem A4 B4 G4 (flN fl 2), 5, 3490, ok_X6_build_AB NN ?_, ok_X7_build NN y2, ck_0, ck_44, A4, B4, G4, flN fl 2, rfl, (cs_2 f0).1.symm, (cs_2 f0).2.symm, y3⟩
            unfold f_X6_build_AB
            rw [ck_0, sb, ek, b2s, if_neg (show ¬ (1 : Int32) = 0 by decide), ck_0, sb, ev, b2s, if_neg hv0, if_neg a0, if_neg a1, if_pos rfl, ck_0, sb, s_init2 f0, b2s, gx_0_8, sb, gx_0_1, sb, gx_0_11, sb, gx_0_0, sb, gx_0_10, sb, q0, n4, n1, ck_93 f2', sb]
            exact y1
        · have a3 : a = 3 := by
            rcases h4c with q | q | q | q
            · exact absurd q a0
            · exact absurd q a1
            · exact absurd q a2
            · exact q
          subst a3
          obtain ⟨b, hb1, rfl⟩ := ix_of (n := s) (a := x) (kOk3 hk) (by omega)
          obtain ⟨r, A2, B2, G2, A4, B4, G4, y1, y2, y3⟩ := b_end hps hP hC hb1 hk hcan
          refine ⟨r, mem A2 B2 G2 fl, mem A4 B4 G4 fl, 0, 0, ok_X6_build_AA NN ?_, ok_X7_build NN y2, ck_0, ck_44, A4, B4, G4, fl, rfl, rfl, rfl, y3⟩
          unfold f_X6_build_AA
          rw [ck_0, sb, ek, b2s, if_neg (show ¬ (1 : Int32) = 0 by decide), ck_0, sb, ev, b2s, if_neg hv0, if_neg a0, if_neg a1, if_neg a2, gx_0_8, sb, ck_0, sb]
          exact y1
    · refine ⟨-3, mem A B G fl, mem A B G fl, 0, 0, ok_X6_build_AA NN ?_, ok_X7_build NN ?_, ck_0, ck_44, A, B, G, fl, rfl, rfl, rfl, hR.next⟩
      · unfold f_X6_build_AA
        rw [ck_0, sb, ek, b2s, if_neg (show ¬ (1 : Int32) = 0 by decide), ck_0, sb, ev, b2s, if_pos (hv.mpr hcan)]
      · exact (bM_can (fl := fl) (B := B) n3 n6 hk n2 n5 (fun u hu => ⟨(hP u hu).2.1, (hP u hu).2.2⟩)).2 hcan
  · refine ⟨-2, mem A B G fl, mem A B G fl, 0, 0, ok_X6_build_AA NN ?_, ok_X7_build NN ?_, ck_0, ck_44, A, B, G, fl, rfl, rfl, rfl, hR.next⟩
    · unfold f_X6_build_AA
      rw [ck_0, sb, ek, b2s, if_pos rfl]
    · exact (bM_k (fl := fl) (B := B) n3 n2).2 hk
