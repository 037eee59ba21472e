/-! FREE: the class's make and prepare -/
section Mm
variable {P o C : Nat → Nat} {s t bd ul sp : Nat} {fl : Nat → Bool} {N : Nat}
theorem s_sumL (f1 : fl 1 = true) (ht : t ≤ 24) {ct : Nat} (hct : lay fl ct = some (.inl (0, 24))) {A : Nat → Nat → Int32} {G : Nat → Nat → Int32} (hC : ∀ i, i < t → A ct i = nI (C i) ∧ C i ≤ 1000000) (ho : ∀ j, j < t → A 86 j = nI (o j) ∧ o j < t) : ∀ (d q m : Nat) (B : Nat → Nat → Int64), q + d = t + 1 → 1 ≤ q → d < m → (∀ x, x < q → B 85 x = lN (lcS C o t x)) →
    ∃ B', f_X1_sumLastCounts_L9 N m 82 ct (nI t) (nI q) (mem A B G fl) = some (mem A B' G fl) ∧ (∀ k, k ≠ 85 → B' k = B k) ∧ ∀ x, x ≤ t → B' 85 x = lN (lcS C o t x) := by
  intro d
  induction d with
  | zero =>
    intro q m B h h1 hm hB
    obtain ⟨m, rfl⟩ : ∃ j, m = j + 1 := ⟨m - 1, by omega⟩
    refine ⟨B, ?_, fun _ _ => rfl, fun x hx => hB x (by omega)⟩
    rw [f_X1_sumLastCounts_L9, if_pos (nI_lt (by omega) (by omega))]
  | succ d ih =>
    intro q m B h h1 hm hB
    obtain ⟨m, rfl⟩ : ∃ j, m = j + 1 := ⟨m - 1, by omega⟩
    obtain ⟨o1, o2⟩ := ho (t - q) (by omega)
    obtain ⟨c1, c2⟩ := hC (o (t - q)) o2
    generalize hB1 : upA B 85 (vp_updL (B 85) q (lN (lcS C o t q))) = B1
    have b0 : ∀ k, k ≠ 85 → B1 k = B k := fun k hk => by rw [← hB1, upA_ne _ _ _ hk]
    have b85 : B1 85 = vp_updL (B 85) q (lN (lcS C o t q)) := by rw [← hB1, upA_same]
    obtain ⟨B2, e1, e2, e3⟩ := ih (q + 1) m B1 (by omega) (by omega) (by omega) (fun x hx => by
      rw [b85]
      by_cases hxq : x = q
      · rw [hxq, vpL_eq]
      · rw [vpL_ne _ _ _ hxq]; exact hB x (by omega))
    refine ⟨B2, ?_, fun k hk => by rw [e2 k hk, b0 k hk], e3⟩
    have hq : lcS C o t (q - 1) + C (o (t - q)) = lcS C o t q := by
      obtain ⟨q', rfl⟩ : ∃ j, q = j + 1 := ⟨q - 1, by omega⟩
      rw [lcS, if_pos (by omega)]
      rfl
    rw [f_X1_sumLastCounts_L9, if_neg (nI_nlt (by omega) (by omega)), gx_82_2 f1, sb, sb, show (1 : Int32) = nI 1 from rfl, pk_sub h1, ldJ_n (ly85 f1) (by omega) (by decide), sb, gx_82_3 f1, sb, pk_sub (show q ≤ t by omega), ldI_n (ly86 f1) (by omega) (by decide), sb, o1, ldI_n hct (by omega) (by decide), sb, c1, hB (q - 1) (by omega), nI_l (by omega), lN_add, hq, stJ_n (ly85 f1) (by omega) (by decide), sb, hB1, nI_add, e1]
theorem s_lmake (f1 : fl 1 = true) (hN : 300 < N) (ht0 : 0 < t) (hF : FrH P s (lcS C o t) t) (hH : LvH (bC P 1 s) (bC P 2 s) (bC P 3 s) (lcS C o t) s t bd ul (sp + 1)) {D : Nat} (hD : D ≤ 31) (hDb : (bd ≠ 0 → D = bd) ∧ (bd = 0 → 23 ≤ D)) {cd : Nat} (hcd : cdL fl cd) (hc2 : cd < 50) {ct : Nat} (hct : lay fl ct = some (.inl (0, 24))) (hct2 : ct < 50) (hctc : ct ≠ cd + 2) (hinj : ∀ j1 j2, j1 < j2 → j2 < t → o j1 ≠ o j2) (A : Nat → Nat → Int32) (B : Nat → Nat → Int64) (G : Nat → Nat → Int32) (g7 : G 82 7 = nI sp) (g8 : G 82 8 = nI s) (g9 : G 82 9 = nI bd) (g10 : G 82 10 = nI ul) (a87 : ∀ u, u < s → A 87 u = nI (P u)) (a88 : ∀ j, j < 4 → A 88 j = nI (bC P j s)) (a84 : ∀ j, j < 7200 → ∃ q, q ≤ sp ∧ A 84 j = nI q) (hC : ∀ i, i < t → A ct i = nI (C i) ∧ C i ≤ 1000000) (ho : ∀ j, j < t → rkG (A ct) t 0 (A 86) j = nI (o j) ∧ o j < t) :
    ∃ A' B' G' r, f_X1_make N 82 cd ct (nI t) (mem A B G fl) = some (r, mem A' B' G' fl) ∧ (∀ k, k ≠ 84 → k ≠ 86 → k ≠ 91 → k ≠ 92 → k ≠ cd + 2 → A' k = A k) ∧ (∀ k, k ≠ 83 → k ≠ 85 → k ≠ 90 → k ≠ cd + 1 → B' k = B k) ∧ (∀ k, k ≠ 82 → k ≠ 89 → k ≠ cd → G' k = G k) ∧ G' 82 7 = nI (sp + 1) ∧ (∀ j, j < 7200 → ∃ q, q ≤ sp + 1 ∧ A' 84 j = nI q) ∧
      ((gF (bC P 1 s) (bC P 2 s) (bC P 3 s) (lcS C o t) (D - 1) (min t (bC P 1 s)) (min t (bC P 2 s)) (min t (bC P 3 s)) t < EV ∧ r = 1 ∧ G' cd = upd (G cd) 2 (nI t) ∧ Wr A' B' cd o 0 (fr P s (lcS C o t) (D - 1) 1 (St1 P s) (min t (bC P 1 s)) (min t (bC P 2 s)) (min t (bC P 3 s)) t)) ∨ (¬ gF (bC P 1 s) (bC P 2 s) (bC P 3 s) (lcS C o t) (D - 1) (min t (bC P 1 s)) (min t (bC P 2 s)) (min t (bC P 3 s)) t < EV ∧ r = 0 ∧ A' (cd + 2) = A (cd + 2) ∧ B' (cd + 1) = B (cd + 1) ∧ G' cd = G cd)) := by
  have hF0 := hF
  obtain ⟨hs2, hs4, hP, ht, hL, hlc⟩ := hF
  have hb1 := bC_lt (P := P) (j := 1) s
  have hb2 := bC_lt (P := P) (j := 2) s
  have hb3 := bC_lt (P := P) (j := 3) s
  have hbd24 : bd ≤ 24 := hH.2.2.2.2.2.2.2.2.2.1
  have hsp : sp + 1 < 2 ^ 30 := hH.2.2.2.2.2.2.2.2.2.2.2.2
  have hrk := s_rkX (fl := fl) (B := B) (G := G) (N := N) (a := 86) (b := ct) (n := t) (ly86 f1) hct (by omega) ht (by omega) t 0 N A (by omega) (by omega) (RkB0 _ _)
  generalize hA1 : upA A 86 (rkG (A ct) t 0 (A 86)) = A1 at hrk
  have a0 : ∀ k, k ≠ 86 → A1 k = A k := fun k hk => by rw [← hA1, upA_ne _ _ _ hk]
  have a86 : ∀ j, j < t → A1 86 j = nI (o j) ∧ o j < t := fun j hj => by rw [← hA1, upA_same]; exact ho j hj
  generalize hB1 : upA B 85 (vp_updL (B 85) 0 0) = B1
  have b0 : ∀ k, k ≠ 85 → B1 k = B k := fun k hk => by rw [← hB1, upA_ne _ _ _ hk]
  obtain ⟨B2, s1, s2, s3⟩ := s_sumL (fl := fl) (N := N) (C := C) (o := o) f1 ht hct (A := A1) (G := G) (fun i hi => by rw [a0 ct (by omega)]; exact hC i hi) a86 t 1 N B1 (by omega) (by omega) (by omega) (fun x hx => by
    rw [show x = 0 by omega, ← hB1, upA_same, vpL_eq]
    rfl)
  generalize hG1 : upA G 82 (upd (G 82) 7 (nI (sp + 1))) = G1
  have gg0 : ∀ k, k ≠ 82 → G1 k = G k := fun k hk => by rw [← hG1, upA_ne _ _ _ hk]
  have gg7 : G1 82 7 = nI (sp + 1) := by rw [← hG1, upA_same, upd_eq]
  have gg : ∀ j, j ≠ 7 → G1 82 j = G 82 j := fun j hj => by rw [← hG1, upA_same, upd_ne _ _ _ hj]
  have hQ : LvQ (bC P 1 s) (bC P 2 s) (bC P 3 s) (lcS C o t) s t bd ul (sp + 1) A1 B2 G1 := by
    refine ⟨gg7, by rw [gg 9 (by omega)]; exact g9, by rw [gg 10 (by omega)]; exact g10, by rw [a0 88 (by omega)]; exact a88 1 (by omega), by rw [a0 88 (by omega)]; exact a88 2 (by omega), by rw [a0 88 (by omega)]; exact a88 3 (by omega), s3, ?_, fun j hj => ?_⟩
    · intro l a b c R hsv ha hl he
      exfalso
      rw [a0 84 (by omega)] at he
      obtain ⟨q, q1, q2⟩ := a84 _ (key_lt hH hsv ha hl)
      rw [q2] at he
      have := (nI_eq (by omega) (by omega)).mp he
      omega
    · rw [a0 84 (by omega)]
      obtain ⟨q, q1, q2⟩ := a84 j hj
      exact ⟨q, by omega, q2⟩
  have he0 := ends_0 hF0
  have hSV : SV (bC P 1 s) (bC P 2 s) (bC P 3 s) s t bd ul 1 (min t (bC P 1 s)) (min t (bC P 2 s)) (min t (bC P 3 s)) t := by
    refine ⟨Nat.le_refl _, ?_, Nat.le_refl _, by omega, by omega, by omega, fun hu => ?_, fun hb => ends_mono _ _ _ 22 _ _ _ _ _ (by omega) he0⟩
    · unfold depB; split <;> omega
    · obtain ⟨l1, l2, l3⟩ := hH.2.2.2.2.2.1 hu
      refine ⟨by rw [l2]; omega, by rw [l3]; omega, fun hlt => ⟨1, ?_⟩⟩
      rw [l1] at hlt ⊢
      omega
  obtain ⟨A3, B3, r1, r2, r3⟩ := s_leS (N := N) (G := G1) f1 hH (by omega) 48 1 _ _ _ _ A1 B2 hSV (by unfold depB; split <;> omega) hQ
  have hgeq : gF (bC P 1 s) (bC P 2 s) (bC P 3 s) (lcS C o t) (depB bd - 1) (min t (bC P 1 s)) (min t (bC P 2 s)) (min t (bC P 3 s)) t = gF (bC P 1 s) (bC P 2 s) (bC P 3 s) (lcS C o t) (D - 1) (min t (bC P 1 s)) (min t (bC P 2 s)) (min t (bC P 3 s)) t := by
    by_cases hb : bd = 0
    · have := hDb.2 hb
      exact ends_eq _ _ _ _ 22 _ _ _ _ he0 _ _ (by unfold depB; rw [if_pos hb]; omega) (by omega)
    · have := hDb.1 hb
      rw [show depB bd = bd by unfold depB; rw [if_neg hb], this]
  rw [hgeq] at r1
  have hgle := gF_le (bC P 1 s) (bC P 2 s) (bC P 3 s) (lcS C o t) (D - 1) (min t (bC P 1 s)) (min t (bC P 2 s)) (min t (bC P 3 s)) t
  have hpre : ∀ (K : Int64 → A_M → Option (Int32 × A_M)), (f_X1_make N 82 cd ct (nI t) (mem A B G fl) = bnd2 (some (lN (gF (bC P 1 s) (bC P 2 s) (bC P 3 s) (lcS C o t) (D - 1) (min t (bC P 1 s)) (min t (bC P 2 s)) (min t (bC P 3 s)) t), mem A3 B3 G1 fl)) fun v70 M70 =>
  if (lg_cmp v70 (1152921504606846976 : Int64)) < 0 then
  ((chk M70 cd 0).bind fun _ =>
  (f_X0_begin N cd (nI t) M70).bind fun M84 =>
  (gR M84 82 1 6).bind fun v88 =>
  (chk M84 v88 3).bind fun _ =>
  (f_X3_start N v88 M84).bind fun M91 =>
  (chk M91 82 1).bind fun _ =>
  (f_X1_continueFirst N 82 M91).bind fun M95 =>
  f_X1_make_L104 N N 82 cd (nI t) (nI (min t (bC P 1 s))) (nI (min t (bC P 2 s))) (nI (min t (bC P 3 s))) (nI t) (1 : Int32) M95)
  else
  (some ((0 : Int32), M70))) := by
    intro _
    unfold f_X1_make f_X1_sumLastCounts f_X6_rankThings
    rw [gx_82_3 f1, sb, show f_X6_rankThings_L2 N N 86 ct (nI t) (0 : Int32) (mem A B G fl) = _ from hrk, sb, chk_mem (ly82 f1), sb, gx_82_2 f1, sb, show stJ (mem A1 B G fl) 85 (0 : Int32) (0 : Int64) = _ from stJ_n (ly85 f1) (i := 0) (by omega) (by decide) 0, sb, hB1, show f_X1_sumLastCounts_L9 N N 82 ct (nI t) (1 : Int32) (mem A1 B1 G fl) = _ from s1, sb, gx_82_7 f1, sb, g7, show nI sp + (1 : Int32) = nI (sp + 1) from nI_1 _, px_82_7 f1, sb, hG1, gx_82_5 f1, sb, show ldI (mem A1 B2 G1 fl) 88 (1 : Int32) = _ from ldI_n (ly88 f1) (i := 1) (by omega) (by decide), sb, sb, show ldI (mem A1 B2 G1 fl) 88 (2 : Int32) = _ from ldI_n (ly88 f1) (i := 2) (by omega) (by decide), sb, sb, show ldI (mem A1 B2 G1 fl) 88 (3 : Int32) = _ from ldI_n (ly88 f1) (i := 3) (by omega) (by decide), sb, chk_mem (ly82 f1), sb, hQ.2.2.2.1, hQ.2.2.2.2.1, hQ.2.2.2.2.2.1, mnI_n (by omega) (by omega), mnI_n (by omega) (by omega), mnI_n (by omega) (by omega)]
    rw [show f_X1_least N 48 82 (1 : Int32) (nI (min t (bC P 1 s))) (nI (min t (bC P 2 s))) (nI (min t (bC P 3 s))) (nI t) (mem A1 B2 G1 fl) = _ from r1]
  have hpre := hpre (fun _ _ => none)
  rw [b2s, show (1152921504606846976 : Int64) = lN EV from rfl] at hpre
  by_cases hg : gF (bC P 1 s) (bC P 2 s) (bC P 3 s) (lcS C o t) (D - 1) (min t (bC P 1 s)) (min t (bC P 2 s)) (min t (bC P 3 s)) t < EV
  · rw [if_pos ((lg_lt (by unfold EV at hgle; omega) (by unfold EV; omega)).mpr hg)] at hpre
    have hb := s_begin (A := A3) (B := B3) (G := G1) (N := N) hcd (by omega) (nI t)
    generalize hA4 : upA A3 (cd + 2) (fun j => if 0 ≤ j ∧ j < 24 then 0 else A3 (cd + 2) j) = A4 at hb
    generalize hB4 : upA B3 (cd + 1) (fun j => if 0 ≤ j ∧ j < 24 then 0 else B3 (cd + 1) j) = B4 at hb
    generalize hG4 : upA G1 cd (upd (G1 cd) 2 (nI t)) = G4 at hb
    have a4 : ∀ k, k ≠ cd + 2 → A4 k = A3 k := fun k hk => by rw [← hA4, upA_ne _ _ _ hk]
    have b4 : ∀ k, k ≠ cd + 1 → B4 k = B3 k := fun k hk => by rw [← hB4, upA_ne _ _ _ hk]
    have g4 : ∀ k, k ≠ cd → G4 k = G1 k := fun k hk => by rw [← hG4, upA_ne _ _ _ hk]
    have g4c : G4 cd = upd (G1 cd) 2 (nI t) := by rw [← hG4, upA_same]
    obtain ⟨A5, B5, G5, e1, e2, e3⟩ := s_start (fl := fl) (N := N) (op89 f1) (by omega) A4 B4 G4
    have hLy5 : LyX A5 G5 P o s t := by
      refine ⟨by rw [e2.2.2 82 (by omega), g4 82 (by omega), gg 8 (by omega)]; exact g8, fun u hu => by rw [e2.1 87 (by omega) (by omega), a4 87 (by omega), r2.1 87 (by omega), a0 87 (by omega)]; exact a87 u hu, fun j hj => by rw [e2.1 86 (by omega) (by omega), a4 86 (by omega), r2.1 86 (by omega)]; exact a86 j hj⟩
    obtain ⟨A6, B6, G6, c1, c2, c3⟩ := s_contF (fl := fl) (N := N) (t := t) (o := o) (f := 0) (e := ((0, 0, 0) : Ent)) (S := []) f1 hN hs4 hP (Wv0 s) (by decide) (by decide) A5 B5 G5 hLy5 e3 (by have : ([] : List Ent).length = 0 := rfl; omega) (fun y hy => by cases hy)
    have hLy6 : LyX A6 G6 P o s t := hLy5.fr (c2.1 87 (by omega) (by omega)) (c2.1 86 (by omega) (by omega)) (c2.2.2 82 (by omega))
    have hQ6 : LvQ (bC P 1 s) (bC P 2 s) (bC P 3 s) (lcS C o t) s t bd ul (sp + 1) A6 B6 G6 := r3.fr (by rw [c2.1 84 (by omega) (by omega), e2.1 84 (by omega) (by omega), a4 84 (by omega)]) (by rw [c2.1 88 (by omega) (by omega), e2.1 88 (by omega) (by omega), a4 88 (by omega)]) (by rw [c2.2.1 83 (by omega), e2.2.1 83 (by omega), b4 83 (by omega)]) (by rw [c2.2.1 85 (by omega), e2.2.1 85 (by omega), b4 85 (by omega)]) (by rw [c2.2.2 82 (by omega), e2.2.2 82 (by omega), g4 82 (by omega)])
    obtain ⟨hp0, hp1⟩ := pth_0 hF0 hg
    have hD1 : 1 ≤ D := by
      by_cases hb : bd = 0
      · have := hDb.2 hb; omega
      · have := hDb.1 hb; omega
    obtain ⟨A7, B7, G7, d1, d2, d3, d4, d5, d6, d7⟩ := s_l104 (fl := fl) (N := N) (P := P) (o := o) f1 hN hF0 hH hD hDb hcd hc2 hinj (D - 1) 1 N (St1 P s) _ _ _ t 1 A6 B6 G6 (by omega) (by omega) (Nat.le_refl _) ht0 hp0 hSV hQ6 hLy6 c3 (by rw [hp1]; omega)
    rw [Nat.sub_self] at d5
    refine ⟨A7, B7, G7, 1, ?_, ?_, ?_, ?_, ?_, d7.2.2.2.2.2.2.2.2, Or.inl ⟨hg, rfl, ?_, d5⟩⟩
    · rw [hpre, chk_mem hcd.1, sb, hb, sb, gx_82_6 f1, sb, chk_mem (ly89 f1), sb, e1, sb, chk_mem (ly82 f1), sb, c1, sb]
      exact d1
    · intro k w1 w2 w3 w4 w5
      rw [d2 k w1 w3 w4 w5, c2.1 k w3 w4, e2.1 k w3 w4, a4 k w5, r2.1 k w1, a0 k w2]
    · intro k w1 w2 w3 w4
      rw [d3 k w1 w3 w4, c2.2.1 k w3, e2.2.1 k w3, b4 k w4, r2.2 k w1, s2 k w2, b0 k w2]
    · intro k w1 w2 w3
      rw [d4 k w2, c2.2.2 k w2, e2.2.2 k w2, g4 k w3, gg0 k w1]
    · exact d7.1
    · rw [d4 cd (by omega), c2.2.2 cd (by omega), e2.2.2 cd (by omega), g4c, gg0 cd (by omega)]
  · rw [if_neg (fun q => hg ((lg_lt (by unfold EV at hgle; omega) (by unfold EV; omega)).mp q))] at hpre
    refine ⟨A3, B3, G1, 0, hpre, ?_, ?_, ?_, gg7, r3.2.2.2.2.2.2.2.2, Or.inr ⟨hg, rfl, ?_, ?_, ?_⟩⟩
    · intro k w1 w2 w3 w4 w5
      rw [r2.1 k w1, a0 k w2]
    · intro k w1 w2 w3 w4
      rw [r2.2 k w1, s2 k w2, b0 k w2]
    · intro k w1 w2 w3
      exact gg0 k w1
    · rw [r2.1 _ (by omega), a0 _ (by omega)]
    · rw [r2.2 _ (by omega), s2 _ (by omega), b0 _ (by omega)]
    · exact gg0 cd (by omega)
theorem s_prepL (f1 : fl 1 = true) (hs : s ≤ 4) {B : Nat → Nat → Int64} {G : Nat → Nat → Int32} (g8 : G 82 8 = nI s) (g10 : G 82 10 = nI ul) (hul : ul = 0 ∨ ul = 1) : ∀ (d u m : Nat) (A : Nat → Nat → Int32), u + d = s → d < m → (∀ v, v < s → 1 ≤ P v ∧ P v ≤ 3 ∧ (ul = 0 → P v = 1) ∧ (ul = 1 → A 1 v = nI (P v))) → (∀ v, v < u → A 87 v = nI (P v)) → (∀ j, j < 4 → A 88 j = nI (bC P j u)) →
    ∃ A', f_X1_prepare_L27 N m 82 1 (nI u) (mem A B G fl) = some (mem A' B G fl) ∧ (∀ k, k ≠ 87 → k ≠ 88 → A' k = A k) ∧ (∀ v, v < s → A' 87 v = nI (P v)) ∧ ∀ j, j < 4 → A' 88 j = nI (bC P j s) := by
  intro d
  induction d with
  | zero =>
    intro u m A h hm hP h87 h88
    obtain ⟨m, rfl⟩ : ∃ j, m = j + 1 := ⟨m - 1, by omega⟩
    have hus : u = s := by omega
    subst hus
    refine ⟨A, ?_, fun _ _ _ => rfl, h87, h88⟩
    rw [f_X1_prepare_L27, gx_82_8 f1, sb, g8, if_pos (nI_le (by omega) (by omega))]
  | succ d ih =>
    intro u m A h hm hP h87 h88
    obtain ⟨m, rfl⟩ : ∃ j, m = j + 1 := ⟨m - 1, by omega⟩
    obtain ⟨p1, p2, p3, p4⟩ := hP u (by omega)
    generalize hA1 : upA A 87 (upd (A 87) u (nI (P u))) = A1
    have a1 : ∀ k, k ≠ 87 → A1 k = A k := fun k hk => by rw [← hA1, upA_ne _ _ _ hk]
    have a187 : A1 87 = upd (A 87) u (nI (P u)) := by rw [← hA1, upA_same]
    generalize hA2 : upA A1 88 (upd (A1 88) (P u) (nI (bC P (P u) u + 1))) = A2
    have a2 : ∀ k, k ≠ 88 → A2 k = A1 k := fun k hk => by rw [← hA2, upA_ne _ _ _ hk]
    have a288 : A2 88 = upd (A 88) (P u) (nI (bC P (P u) u + 1)) := by rw [← hA2, upA_same, a1 88 (by omega)]
    obtain ⟨A3, e1, e2, e3, e4⟩ := ih (u + 1) m A2 (by omega) (by omega) (fun v hv => by rw [a2 1 (by omega), a1 1 (by omega)]; exact hP v hv) (fun v hv => by
      rw [a2 87 (by omega), a187]
      by_cases hvu : v = u
      · rw [hvu, upd_eq]
      · rw [upd_ne _ _ _ hvu]; exact h87 v (by omega)) (fun j hj => by
      rw [a288, bC]
      by_cases hju : P u = j
      · rw [if_pos hju, ← hju, upd_eq]
      · rw [if_neg hju, upd_ne _ _ _ (fun q => hju q.symm)]; exact h88 j hj)
    refine ⟨A3, ?_, fun k w1 w2 => by rw [e2 k w1 w2, a2 k w2, a1 k w1], e3, e4⟩
    have hK : f_X1_prepare_K61 N (f_X1_prepare_L27 N m) 82 1 (nI u) (nI (P u)) (nI u) 87 (mem A B G fl) = some (mem A3 B G fl) := by
      unfold f_X1_prepare_K61
      rw [stI_n (ly87 f1) (by omega) (by decide), sb, hA1, gx_82_5 f1, sb, gx_82_4 f1, sb, ldI_n (ly87 f1) (by omega) (by decide), sb, a187, upd_eq, ldI_n (ly88 f1) (by omega) (by decide), sb, a1 88 (by omega), h88 (P u) (by omega), show nI (bC P (P u) u) + (1 : Int32) = nI (bC P (P u) u + 1) from nI_1 _, stI_n (ly88 f1) (by omega) (by decide), sb, hA2, nI_1, e1]
    rw [f_X1_prepare_L27, gx_82_8 f1, sb, g8, if_neg (nI_ge (by omega) (by omega)), gx_82_4 f1, sb, gx_82_10 f1, sb, g10]
    rcases hul with hu | hu
    · rw [hu, if_pos (show (nI 0 : Int32) = 0 from rfl)]
      rw [p3 hu] at hK
      exact hK
    · rw [hu, if_neg (show ¬ (nI 1 : Int32) = 0 by decide), ldI_n (ly1 fl) (by omega) (by decide), sb, p4 hu, show (3 : Int32) = nI 3 from rfl, mnI_n (by omega) (by omega), Nat.min_eq_left p2]
      exact hK
theorem s_prep (f1 : fl 1 = true) (hN : 100 < N) (hs : s ≤ 4) (hul : ul = 0 ∨ ul = 1) (A : Nat → Nat → Int32) (B : Nat → Nat → Int64) (G : Nat → Nat → Int32) (hP : ∀ v, v < s → 1 ≤ P v ∧ P v ≤ 3 ∧ (ul = 0 → P v = 1) ∧ (ul = 1 → A 1 v = nI (P v))) :
    ∃ A' G', f_X1_prepare N 82 1 (nI s) (nI ul) (nI bd) (mem A B G fl) = some (mem A' B G' fl) ∧ (∀ k, k ≠ 87 → k ≠ 88 → A' k = A k) ∧ (∀ k, k ≠ 82 → G' k = G k) ∧ G' 82 7 = G 82 7 ∧ G' 82 8 = nI s ∧ G' 82 9 = nI bd ∧ G' 82 10 = nI ul ∧ (∀ u, u < s → A' 87 u = nI (P u)) ∧ ∀ j, j < 4 → A' 88 j = nI (bC P j s) := by
  have hz : zb (nI ul) = some () := by
    rcases hul with h | h
    · rw [h]; rfl
    · rw [h]; rfl
  generalize hG1 : upA (upA (upA G 82 (upd (G 82) 8 (nI s))) 82 (upd (upd (G 82) 8 (nI s)) 10 (nI ul))) 82 (upd (upd (upd (G 82) 8 (nI s)) 10 (nI ul)) 9 (nI bd)) = G1
  have g0 : ∀ k, k ≠ 82 → G1 k = G k := fun k hk => by rw [← hG1, upA_ne _ _ _ hk, upA_ne _ _ _ hk, upA_ne _ _ _ hk]
  have g82 : G1 82 = upd (upd (upd (G 82) 8 (nI s)) 10 (nI ul)) 9 (nI bd) := by rw [← hG1, upA_same]
  have hfi := s_fillI (fl := fl) (N := N) (B := B) (G := G1) (ly88 f1) (by decide) (nI 0) 4 0 N A (by decide) (by omega)
  generalize hA1 : upA A 88 (fun j => if 0 ≤ j ∧ j < 4 then nI 0 else A 88 j) = A1 at hfi
  have a1 : ∀ k, k ≠ 88 → A1 k = A k := fun k hk => by rw [← hA1, upA_ne _ _ _ hk]
  obtain ⟨A2, e1, e2, e3, e4⟩ := s_prepL (fl := fl) (N := N) (P := P) (s := s) (ul := ul) (B := B) (G := G1) f1 hs (by rw [g82, upd_ne _ _ _ (by decide), upd_ne _ _ _ (by decide), upd_eq]) (by rw [g82, upd_ne _ _ _ (by decide), upd_eq]) hul s 0 N A1 (by omega) (by omega) (fun v hv => by rw [a1 1 (by omega)]; exact hP v hv) (fun v hv => absurd hv (Nat.not_lt_zero v)) (fun j hj => by
    rw [← hA1, upA_same]
    show (if 0 ≤ j ∧ j < 4 then nI 0 else A 88 j) = nI 0
    rw [if_pos ⟨Nat.zero_le _, hj⟩])
  refine ⟨A2, G1, ?_, fun k w1 w2 => by rw [e2 k w1 w2, a1 k w2], g0, by rw [g82, upd_ne _ _ _ (by decide), upd_ne _ _ _ (by decide), upd_ne _ _ _ (by decide)], by rw [g82, upd_ne _ _ _ (by decide), upd_ne _ _ _ (by decide), upd_eq], by rw [g82, upd_eq], by rw [g82, upd_ne _ _ _ (by decide), upd_eq], e3, e4⟩
  unfold f_X1_prepare f_J7_fill_53178
  rw [px_82_8 f1, sb, hz, sb, px_82_10 f1, sb, upA_same, px_82_9 f1, sb, upA_same, hG1, gx_82_5 f1, sb, lenI_mem (ly88 f1), sb, show f_J7_fill_53178_L5 N N 88 (0 : Int32) (0 : Int32) (nI 4) (mem A B G1 fl) = _ from hfi, sb]
  exact e1
end Mm
