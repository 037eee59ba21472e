/-! grow -/
def oneF (f : Nat → Int32) : Nat → Int32 := fun j => if 0 ≤ j ∧ j < 24 then 1 else f j
theorem s_fill1 {A : Nat → Nat → Int32} {B : Nat → Nat → Int64} {G : Nat → Nat → Int32} {fl : Nat → Bool} {k : Nat} (hk : lay fl k = some (.inl (0, 24))) : f_J7_fill_53178 NN k 1 (mem A B G fl) = some (mem (upA A k (oneF (A k))) B G fl) := by
  unfold f_J7_fill_53178
  rw [lenI_mem hk, sb, show (0 : Int32) = nI 0 from rfl, s_fillI hk (by decide) 1 24 0 NN A (by decide) (by decide)]
  rfl
theorem mayF_of {A : Nat → Nat → Int32} {s t : Nat} {P : Nat → Nat} (hP : ∀ j, j < s → A 1 j = nI (P j)) (h : MayF P s t) : MayFree A s t := by
  obtain ⟨h1, h2, h3⟩ := h
  refine ⟨h1, h2, ?_⟩
  rcases h3 with h3 | ⟨h3, h4⟩
  · exact Or.inl (fun i hi => by rw [hP i hi, hP 0 (by omega), h3 i hi])
  · exact Or.inr ⟨h3, fun i hi => ⟨P i, h4 i hi, hP i hi⟩⟩
theorem mayF_to {A : Nat → Nat → Int32} {s t : Nat} {P : Nat → Nat} (hP : ∀ j, j < s → A 1 j = nI (P j) ∧ P j ≤ 9) (h : MayFree A s t) : MayF P s t := by
  obtain ⟨h1, h2, h3⟩ := h
  refine ⟨h1, h2, ?_⟩
  rcases h3 with h3 | ⟨h3, h4⟩
  · refine Or.inl (fun u hu => ?_)
    have := h3 u hu
    rw [(hP u hu).1, (hP 0 (by omega)).1] at this
    exact (nI_eq (by have := (hP u hu).2; omega) (by have := (hP 0 (by omega)).2; omega)).mp this
  · refine Or.inr ⟨h3, fun u hu => ?_⟩
    obtain ⟨p, p1, p2⟩ := h4 u hu
    rw [(hP u hu).1] at p2
    have := (nI_eq (by have := (hP u hu).2; omega) (by omega)).mp p2
    omega
theorem s_gL12 {fl : Nat → Bool} {G : Nat → Nat → Int32} {t : Nat} {B : Nat → Nat → Int64} (g3 : G 44 3 = nI t) (ht : t ≤ 24) : ∀ (d i m : Nat) (A : Nat → Nat → Int32), i + d = t → d < m → ∃ A', f_X7_grow_L12 NN m 44 (nI i) (mem A B G fl) = f_X7_grow_K33 NN 44 (mem A' B G fl) ∧ (∀ k, k ≠ 49 → A' k = A k) ∧ (∀ j, i ≤ j → j < t → A' 49 j = 1) ∧ (∀ j, j < i → A' 49 j = A 49 j) := by
  intro d
  induction d with
  | zero =>
    intro i m A h hm
    obtain ⟨m, rfl⟩ : ∃ j, m = j + 1 := ⟨m - 1, by omega⟩
    refine ⟨A, ?_, fun _ _ => rfl, fun j h1 h2 => by omega, fun _ _ => rfl⟩
    rw [f_X7_grow_L12, gx_44_3, sb, g3, if_pos (nI_le (by omega) (by omega))]
  | succ d ih =>
    intro i m A h hm
    obtain ⟨m, rfl⟩ : ∃ j, m = j + 1 := ⟨m - 1, by omega⟩
    obtain ⟨A', e1, e2, e3, e4⟩ := ih (i + 1) m (upA A 49 (upd (A 49) i 1)) (by omega) (by omega)
    refine ⟨A', ?_, fun k hk => by rw [e2 k hk, upA_ne _ _ _ hk], fun j h1 h2 => ?_, fun j hj => by rw [e4 j (by omega), upA_same, upd_ne _ _ _ (by omega)]⟩
    · rw [f_X7_grow_L12, gx_44_3, sb, g3, if_neg (nI_ge (by omega) (by omega)), gx_44_9, sb, stI_n (ly49 fl) (by omega) (by decide), sb, nI_1]
      exact e1
    · by_cases q : j = i
      · subst q; rw [e4 j (by omega), upA_same, upd_eq]
      · exact e3 j (by omega) h2
/-- the class, behind the LevelMaker -/
def GT (M : A_M) : Option (Int32 × A_M) := bnd2 (f_X6_makeByLevels_A_K18 NN 0 13 4 0 M) fun _ M29 => (pV M29 0 6 12 (.int (2 : Int32))).bind fun M35 => (gR M35 0 6 5).bind fun v39 => (pV M35 v39 2 2 (.int (0 : Int32))).bind fun M43 => (gI M43 0 6 11).bind fun v47 => some (v47, M43)
theorem g_core {z : Nat} {A : Nat → Nat → Int32} {B : Nat → Nat → Int64} {G : Nat → Nat → Int32} {fl : Nat → Bool} {s t : Nat} (hz : z < 1536) (hR : Parts z A B G fl s t) (f1 : fl 1 = true) {P C : Nat → Nat} (hP : ∀ j, j < s → A 1 j = nI (P j) ∧ A 45 j = nI (P j) ∧ 1 ≤ P j ∧ P j ≤ 9) (hM : MayF P s t) :
    ∃ r A1 B1 G1 A4 B4 G4, GT (mem (upA A 4 (oneF (A 4))) B G fl) = some (r, mem A1 B1 G1 fl) ∧ f_X7_grow NN 44 (mem A1 B1 G1 fl) = some (r, mem A4 B4 G4 fl) ∧ Rv (z + 1) A4 B4 G4 fl := by
  obtain ⟨h1, hc, h3, h4, h5, h6, h7, h8⟩ := hR
  obtain ⟨n1, n2, n3, n4, n5, n6, n7, n8⟩ := id h1
  obtain ⟨F, hF⟩ := free_F hM n3 n6 (fun u hu => ⟨(hP u hu).2.2.1, (hP u hu).2.2.2⟩)
  obtain ⟨w1, w2, w3, w4⟩ := hF (fun _ => 1) (fun i hi => by omega)
  obtain ⟨sp, sp1, sp2, sp3⟩ := h8 f1
  have a4 : ∀ i, i < t → upA A 4 (oneF (A 4)) 4 i = nI 1 := fun i hi => by
    rw [upA_same]
    exact if_pos (by omega)
  obtain ⟨A1, B1, G1, r, e1, e2, e3, e4, e5, e6, e7⟩ := w3 fl (upA A 4 (oneF (A 4))) B G 13 4 sp f1 (cd13 fl) (by decide) (ly4 fl) (by decide) (by decide) n1 n4 (fun u hu => by rw [upA_ne _ _ _ (by decide)]; exact (hP u hu).1) a4 sp2 (fun j hj => by rw [upA_ne _ _ _ (by decide)]; exact sp3 j hj) (by omega)
  obtain ⟨-, y2, y3, y4⟩ : True ∧ r = 1 ∧ G1 13 = upd (G 13) 2 (nI t) ∧ ∀ i, i < t → B1 14 i = lN (F (fun _ => 1) i).1 ∧ A1 15 i = nI (F (fun _ => 1) i).2 := by
    rcases e7 with h | ⟨h, -⟩
    · exact h
    · exact absurd trivial h
  -- behind the class
  generalize hG2 : upA (upA G1 0 (upd (G1 0) 12 2)) 6 (upd (G1 6) 2 0) = G2
  have g2 : ∀ k, k ≠ 0 → k ≠ 6 → G2 k = G1 k := fun k a b => by rw [← hG2, upA_ne _ _ _ b, upA_ne _ _ _ a]
  have g20 : ∀ f, f ≠ 12 → G2 0 f = G 0 f := fun f hf => by rw [← hG2, upA_ne _ _ _ (by decide), upA_same, upd_ne _ _ _ hf, e4 0 (by omega) (by omega) (by omega)]
  have g212 : G2 0 12 = 2 := by rw [← hG2, upA_ne _ _ _ (by decide), upA_same, upd_eq]
  have g26 : ∀ f, f ≠ 2 → G2 6 f = G 6 f := fun f hf => by rw [← hG2, upA_same, upd_ne _ _ _ hf, e4 6 (by omega) (by omega) (by omega)]
  have g262 : G2 6 2 = 0 := by rw [← hG2, upA_same, upd_eq]
  have g244 : G2 44 = G 44 := by rw [g2 44 (by decide) (by decide), e4 44 (by omega) (by omega) (by omega)]
  have eX : GT (mem (upA A 4 (oneF (A 4))) B G fl) = some (nI t, mem A1 B1 G2 fl) := by
    unfold GT
    rw [show (0 : Int32) = nI 0 from rfl, e1, b2s, px_0_12, sb, gx_0_5, sb, px_6_2, sb, gx_0_11, sb, upA_ne _ _ _ (show (6 : Nat) ≠ 0 by decide)]
    rw [show upA (upA G1 0 (upd (G1 0) 12 2)) 6 (upd (G1 6) 2 (nI 0)) = G2 from hG2, g20 11 (by decide), n4]
  have cA : ∀ k, k ≤ 2 ∨ (7 ≤ k ∧ k ≤ 8) ∨ (19 ≤ k ∧ k ≤ 81) ∨ 98 ≤ k → A1 k = A k := fun k hk => by rw [e2 k (by omega) (by omega) (by omega) (by omega) (by omega) (by omega) (by omega), upA_ne _ _ _ (by omega)]
  have cB : ∀ k, 19 ≤ k ∧ k ≤ 81 → B1 k = B k := fun k hk => e3 k (by omega) (by omega) (by omega) (by omega)
  have cA4 : ∀ i, i < t → A1 4 i = nI 1 := fun i hi => by rw [e2 4 (by omega) (by omega) (by omega) (by omega) (by omega) (by omega) (by omega)]; exact a4 i hi
  -- the reference
  obtain ⟨v, v1, v2⟩ := s_mayM (A := A1) (B := B1) (G := G2) (fl := fl) (N := NN) (s := s) (t := t) (pr := P) (by decide) (by rw [g244]; exact n2) (by rw [g244]; exact n5) n3 n6 (fun u hu => by rw [cA 45 (by omega)]; exact ⟨(hP u hu).2.1, (hP u hu).2.2.2⟩)
  obtain ⟨A2, l1, l2, l3, -⟩ := s_gL12 (fl := fl) (G := G2) (t := t) (B := B1) (by rw [g244]; exact n5) n6 t 0 NN A1 (by omega) (by show _ < 300000; omega)
  obtain ⟨A3, B3, G3, r3, d1, d2, d3, d4, d5, d6⟩ := w4 fl A2 B1 G2 49 (ly49 fl) (by decide) (by rw [g244]; exact n2) (by rw [g244]; exact n5) (fun u hu => by rw [l2 45 (by decide), cA 45 (by omega)]; exact (hP u hu).2.1) (fun i hi => l3 i (Nat.zero_le _) hi)
  obtain ⟨-, x2, x3⟩ : True ∧ r3 = 1 ∧ ∀ i, i < t → B3 47 i = lN (F (fun _ => 1) i).1 ∧ A3 48 i = nI (F (fun _ => 1) i).2 := by
    rcases d6 with h | ⟨h, -⟩
    · exact h
    · exact absurd trivial h
  generalize hG4 : upA (upA (upA G3 44 (cmG (G3 44))) 44 (upd (cmG (G3 44)) 6 1)) 44 (upd (upd (cmG (G3 44)) 6 1) 44 0) = G4
  have g4 : ∀ k, k ≠ 44 → G4 k = G2 k := fun k hk => by rw [← hG4, upA_ne _ _ _ hk, upA_ne _ _ _ hk, upA_ne _ _ _ hk, d4 k hk]
  have g444 : G4 44 = upd (upd (cmG (G3 44)) 6 1) 44 0 := by rw [← hG4, upA_same]
  have g4f : ∀ f, f = 1 ∨ f = 3 ∨ f = 36 ∨ f = 37 ∨ f = 46 ∨ f = 50 ∨ f = 53 → G4 44 f = G 44 f := fun f hf => by
    rw [g444, upd_ne _ _ _ (by omega), upd_ne _ _ _ (by omega)]
    unfold cmG
    rw [upd_ne _ _ _ (by omega), upd_ne _ _ _ (by omega), upd_ne _ _ _ (by omega), d5 f (by omega) (by omega) (by omega) (by omega) (by omega) (by omega) (by omega), g244]
  have eM : f_X7_grow NN 44 (mem A1 B1 G2 fl) = some (nI t, mem A3 B3 G4 fl) := by
    unfold f_X7_grow
    rw [ck_44, sb, v1, b2s, if_neg (fun q => v2.mp q hM), show (0 : Int32) = nI 0 from rfl, l1]
    unfold f_X7_grow_K33
    rw [if_pos rfl] at d1
    rw [gx_44_9, sb, ck_44, sb, show (24 : Int32) = nI 24 from rfl, d1, b2s, ck_44, sb, s_comes, sb, x2, show zb 1 = some () from rfl, sb, px_44_6, sb, px_44_44, sb, gx_44_3, sb, upA_same, upA_same, upA_same]
    rw [show upA (upA (upA G3 44 (cmG (G3 44))) 44 (upd (cmG (G3 44)) 6 1)) 44 (upd (upd (cmG (G3 44)) 6 1) 44 0) = G4 from hG4, ← g444, g4f 3 (by decide), n5]
  have qA : ∀ k, k ≤ 2 ∨ (7 ≤ k ∧ k ≤ 8) ∨ (19 ≤ k ∧ k ≤ 46) ∨ (72 ≤ k ∧ k ≤ 73) ∨ (78 ≤ k ∧ k ≤ 81) ∨ 98 ≤ k → A3 k = A k := fun k hk => by rw [d2 k (by omega) (by omega) (by omega) (by omega) (by omega) (by omega) (by omega), l2 k (by omega), cA k (by omega)]
  refine ⟨nI t, A1, B1, G2, A3, B3, G4, eX, eM, s, t, ?_⟩
  obtain ⟨r1, r2, r3', r4⟩ := rv_rest (A' := A3) (B' := B3) (G' := G4) (fl' := fl) h1 h5 h6 h7 (fun k hk => qA k (by omega)) (fun k hk => by rw [d3 k (by omega) (by omega) (by omega) (by omega), cB k (by omega)]) (fun k hk => by rw [g4 k (by omega), g2 k (by omega) (by omega), e4 k (by omega) (by omega) (by omega)]) (fun f hf => by rw [g4 0 (by omega), g20 f hf]) (fun f hf => g4f f (by omega)) rfl
  have hMF : MayFree A3 s t := mayF_of (fun j hj => by rw [qA 1 (by omega)]; exact (hP j hj).1) hM
  refine ⟨r1, Or.inr ⟨?_, ?_, hM.2.1, hM.1, fun i hi => ?_, Or.inr (Or.inr ⟨?_, ?_, ?_, f1, hMF, fun i hi => ?_⟩)⟩, ⟨0, ?_, ?_, by omega, fun i hi => absurd hi (by omega)⟩, h4.congr ?_ ?_ ?_ ?_, r2, r3', r4, fun _ => ⟨sp + 1, by omega, ?_, ?_⟩⟩
  · rw [g4 13 (by omega), g2 13 (by omega) (by omega), y3, upd_eq]
  · rw [g444]; rfl
  · rw [d3 14 (by omega) (by omega) (by omega) (by omega), d2 15 (by omega) (by omega) (by omega) (by omega) (by omega) (by omega) (by omega), l2 15 (by omega), (x3 i hi).1, (x3 i hi).2, (y4 i hi).1, (y4 i hi).2]
    exact ⟨rfl, rfl, (w1 i hi).wd⟩
  · rw [g4 0 (by omega)]; exact g212
  · rw [g444]; rfl
  · rw [g444]; rfl
  · rw [d2 49 (by omega) (by omega) (by omega) (by omega) (by omega) (by omega) (by omega), d2 4 (by omega) (by omega) (by omega) (by omega) (by omega) (by omega) (by omega), l2 4 (by omega), l3 i (Nat.zero_le _) hi, cA4 i hi]
    exact ⟨rfl, 1, Nat.le_refl _, by omega, rfl⟩
  · rw [g4 6 (by omega)]; exact g262
  · rw [g444]; rfl
  · rw [g4 6 (by omega), g26 3 (by decide)]
  · exact g4f 46 (by decide)
  · exact qA 73 (by omega)
  · exact qA 8 (by omega)
  · rw [g4 82 (by omega), g2 82 (by omega) (by omega)]; exact e5
  · intro j hj
    rw [d2 84 (by omega) (by omega) (by omega) (by omega) (by omega) (by omega) (by omega), l2 84 (by omega)]
    exact e6 j hj
theorem init_one {A : Nat → Nat → Int32} {k : Nat} (hk : k < 82) : aInit1 (upA A k (oneF (A k))) = upA (aInit1 A) k (oneF (aInit1 A k)) := by
  funext j
  by_cases e : j = k
  · subst e
    rw [upA_same]
    show (if _ then _ else _) = _
    rw [if_neg (by omega), upA_same]
    congr 1
    exact (if_neg (by omega)).symm
  · rw [upA_ne _ _ _ e]
    show (if _ then _ else _) = (if _ then _ else _)
    rw [upA_ne _ _ _ e]
theorem lo_grow : LO_grow Inv := by
  rintro z M cs sl hz ⟨A, B, G, fl, rfl, rfl, rfl, hR⟩
  obtain ⟨s, t, hps⟩ := id hR
  obtain ⟨h1, hc, h3, h4, h5, h6, h7, h8⟩ := id hps
  obtain ⟨n1, n2, n3, n4, n5, n6, n7, n8⟩ := id h1
  obtain ⟨P, C, hP, hC⟩ := h1.nums
  obtain ⟨v, ev, hv⟩ := s_canX (A := A) (B := B) (G := G) (fl := fl) (N := NN) (by decide) n1 n4 n3 n6 (fun u hu => ⟨(hP u hu).1, (hP u hu).2.2.2⟩)
  by_cases hM : MayF P s t
  · have hv0 : ¬ v = 0 := fun q => hv.mp q hM
    by_cases f1 : fl 1 = true
    · obtain ⟨r, A1, B1, G1, A4, B4, G4, y1, y2, y3⟩ := g_core (C := C) hz hps f1 hP hM
      refine ⟨r, mem A1 B1 G1 fl, mem A4 B4 G4 fl, 0, 0, ok_X6_grow_A NN ?_, ok_X7_grow NN y2, ck_0, ck_44, A4, B4, G4, fl, rfl, rfl, rfl, y3⟩
      unfold f_X6_grow_A f_X6_makeByLevels_A
      rw [ck_0, sb, ev, b2s, if_neg hv0, gx_0_3, sb, s_fill1 (ly4 fl), sb, gx_0_7, sb, gx_0_3, sb, ck_0, sb, gx_0_15 f1, sb]
      exact y1
    · have f0 : fl 1 = false := by cases h : fl 1 with | false => rfl | true => exact absurd h f1
      have f1' : flN fl 1 1 = true := if_pos rfl
      obtain ⟨hP', hC'⟩ := nums_fr (A' := aInit1 A) hP hC (fun k hk => if_neg (by omega))
      obtain ⟨r, A1, B1, G1, A4, B4, G4, y1, y2, y3⟩ := g_core (C := C) hz (parts_init1 hps) f1' hP' hM
      refine ⟨r, mem A1 B1 G1 (flN fl 1), mem A4 B4 G4 (flN fl 1), 11, 14764, ok_X6_grow_B NN ?_, ok_X7_grow NN y2, ck_0, ck_44, A4, B4, G4, flN fl 1, rfl, (cs_1 f0).1.symm, (cs_1 f0).2.symm, y3⟩
      unfold f_X6_grow_B
      rw [ck_0, sb, ev, b2s, if_neg hv0, gx_0_3, sb, s_fill1 (ly4 fl), sb, gx_0_7, sb, gx_0_3, sb, ck_0, sb, b_init1 f0, init_one (by decide)]
      exact y1
  · refine ⟨-3, mem A B G fl, mem A B G fl, 0, 0, ok_X6_grow_A NN ?_, ok_X7_grow NN ?_, ck_0, ck_44, A, B, G, fl, rfl, rfl, rfl, hR.next⟩
    · unfold f_X6_grow_A
      rw [ck_0, sb, ev, b2s, if_pos (hv.mpr hM)]
    · obtain ⟨v, v1, v2⟩ := s_mayM (A := A) (B := B) (G := G) (fl := fl) (N := NN) (by decide) n2 n5 n3 n6 (fun u hu => ⟨(hP u hu).2.1, (hP u hu).2.2.2⟩)
      unfold f_X7_grow
      rw [ck_44, sb, v1, b2s, if_pos (v2.mpr hM)]
