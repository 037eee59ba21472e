/-! FREE: the reference builds, the whole of it -/
section Bq
variable {fl : Nat → Bool} {N s t al bd : Nat} {pr o C : Nat → Nat}
theorem s_bFree (hN : 220000 < N) (hs2 : 2 ≤ s) (hs : s ≤ 4) (ht0 : 0 < t) (hA : AlH pr s al) (A : Nat → Nat → Int32) (B : Nat → Nat → Int64) (G : Nat → Nat → Int32) (hpr : ∀ u, u < s → A 45 u = nI (pr u) ∧ pr u ≤ 9) (g1 : G 44 1 = nI s) (g3 : G 44 3 = nI t) (hF : FrH (stP al pr) s (lcS C o t) t) (hH : RfH (bC (stP al pr) 1 s) (bC (stP al pr) 2 s) (bC (stP al pr) 3 s) (lcS C o t) (unF al pr) (DDf al bd) al t) {by_ : Nat} (hby : lay fl by_ = some (.inl (0, 24))) (hby2 : by_ ≠ 50 ∧ by_ ≠ 54) (hC : ∀ i, i < t → A by_ i = nI (C i) ∧ C i ≤ 1000000) (ho : ∀ j, j < t → rkG (A by_) t 0 (A 50) j = nI (o j) ∧ o j < t) (hinj : ∀ j1 j2, j1 < j2 → j2 < t → o j1 ≠ o j2) {lg : Nat} (hlg : al = 1 → lg = DDf al bd) :
    ∃ A' B' G' r, f_X7_buildFree N 44 by_ (nI lg) (mem A B G fl) = some (r, mem A' B' G' fl) ∧ (∀ k, k ≠ 48 → k ≠ 50 → k ≠ 52 → k ≠ 54 → k ≠ 56 → k ≠ 57 → k ≠ 58 → A' k = A k) ∧ (∀ k, k ≠ 47 → k ≠ 51 → k ≠ 53 → k ≠ 55 → B' k = B k) ∧ (∀ k, k ≠ 44 → G' k = G k) ∧ (∀ f, f ≠ 14 → f ≠ 15 → f ≠ 16 → f ≠ 21 → f ≠ 23 → f ≠ 25 → f ≠ 26 → G' 44 f = G 44 f) ∧
      ((gF (bC (stP al pr) 1 s) (bC (stP al pr) 2 s) (bC (stP al pr) 3 s) (lcS C o t) (DDf al bd - 1) (min t (bC (stP al pr) 1 s)) (min t (bC (stP al pr) 2 s)) (min t (bC (stP al pr) 3 s)) t < EV ∧ r = 1 ∧ Wr A' B' 46 o 0 (fr (stP al pr) s (lcS C o t) (DDf al bd - 1) 1 (St1 (stP al pr) s) (min t (bC (stP al pr) 1 s)) (min t (bC (stP al pr) 2 s)) (min t (bC (stP al pr) 3 s)) t)) ∨ (¬ gF (bC (stP al pr) 1 s) (bC (stP al pr) 2 s) (bC (stP al pr) 3 s) (lcS C o t) (DDf al bd - 1) (min t (bC (stP al pr) 1 s)) (min t (bC (stP al pr) 2 s)) (min t (bC (stP al pr) 3 s)) t < EV ∧ r = 0 ∧ A' 48 = A 48 ∧ B' 47 = B 47)) := by
  have ht : t ≤ 24 := hF.2.2.2.1
  have hPr : ∀ v, v < s → 1 ≤ stP al pr v ∧ stP al pr v ≤ 3 := hF.2.2.1
  have hal : al = 0 ∨ al = 1 := hH.2.1
  have hD : DDf al bd ≤ 31 := hH.1.2.2.2.2.2.1
  have hD1 : 1 ≤ DDf al bd := hH.2.2.2.2.2.2.2
  have hPv : ∀ v, v < s → (al = 1 → stP al pr v = 1) ∧ (al = 0 → A 45 v = nI (stP al pr v)) := fun v hv => ⟨fun q => by unfold stP; rw [if_pos q], fun q => by unfold stP; rw [if_neg (by omega)]; exact (hpr v hv).1⟩
  -- the fields
  generalize hG3 : upA G 44 (upd (upd (upd (G 44) 14 (nI al)) 15 (nI (unF al pr))) 16 (nI (DDf al bd))) = G3
  have gg0 : ∀ k, k ≠ 44 → G3 k = G k := fun k hk => by rw [← hG3, upA_ne _ _ _ hk]
  have gg44 : ∀ f, f ≠ 14 → f ≠ 15 → f ≠ 16 → G3 44 f = G 44 f := fun f q1 q2 q3 => by rw [← hG3, upA_same, upd_ne _ _ _ q3, upd_ne _ _ _ q2, upd_ne _ _ _ q1]
  have gg14 : G3 44 14 = nI al := by rw [← hG3, upA_same, upd_ne _ _ _ (by omega), upd_ne _ _ _ (by omega), upd_eq]
  have gg15 : G3 44 15 = nI (unF al pr) := by rw [← hG3, upA_same, upd_ne _ _ _ (by omega), upd_eq]
  have gg16 : G3 44 16 = nI (DDf al bd) := by rw [← hG3, upA_same, upd_eq]
  have upAA : ∀ (H : Nat → Nat → Int32) (f g : Nat → Int32), upA (upA H 44 f) 44 g = upA H 44 g := fun H f g => by
    funext j
    by_cases q : j = 44
    · rw [q, upA_same, upA_same]
    · rw [upA_ne _ _ _ q, upA_ne _ _ _ q, upA_ne _ _ _ q]
  have hzb : zb (nI al) = some () := by
    rcases hal with q | q
    · rw [q]; rfl
    · rw [q]; rfl
  have pre : f_X7_buildFree N 44 by_ (nI lg) (mem A B G fl) = f_X7_buildFree_L48 N N 44 by_ (nI 0) (mem A B G3 fl) := by
    unfold f_X7_buildFree
    rw [ck_44, sb, s_alk (by omega) g1 (by omega) hs hpr hA, b2s, hzb, sb, px_44_14, sb, gx_44_14, sb, upA_same, upd_eq]
    rcases hal with q | q
    · have hu : unF al pr = 1 := by unfold unF; rw [if_neg (by omega)]
      have hd : DDf al bd = 31 := by unfold DDf; rw [if_neg (by omega)]
      rw [hu, hd] at hG3
      rw [if_pos (by rw [q]; rfl), f_X7_buildFree_K26, px_44_15, sb, upA_same, upAA, gx_44_14, sb, upA_same, upd_ne _ _ _ (by decide), upd_eq, if_pos (by rw [q]; rfl), f_X7_buildFree_K43, px_44_16, sb, upA_same, upAA, show (1 : Int32) = nI 1 from rfl, show (31 : Int32) = nI 31 from rfl, hG3]
      rfl
    · have hu : unF al pr = pr 0 := by unfold unF; rw [if_pos q]
      rw [hu, ← hlg q] at hG3
      rw [if_neg (by rw [q]; decide), gx_44_0, sb, show ∀ G', ldI (mem A B G' fl) 45 (0 : Int32) = some (A 45 0) from fun G' => ldI_n (ly45 fl) (i := 0) (by omega) (by decide), sb, (hpr 0 (by omega)).1, f_X7_buildFree_K26, px_44_15, sb, upA_same, upAA, gx_44_14, sb, upA_same, upd_ne _ _ _ (by decide), upd_eq, if_neg (by rw [q]; decide), f_X7_buildFree_K43, px_44_16, sb, upA_same, upAA, hG3]
      rfl
  obtain ⟨A1, e1, e2, e3⟩ := s_bf48 (fl := fl) (N := N) (by_ := by_) (B := B) (G := G3) 4 0 N A (by omega) (by omega) (fun j hj => absurd hj (Nat.not_lt_zero j))
  obtain ⟨A2, c1, c2, c3⟩ := s_bf68 (fl := fl) (N := N) (P := stP al pr) (by_ := by_) (B := B) (G := G3) hs hal (by rw [gg44 1 (by omega) (by omega) (by omega)]; exact g1) gg14 hPr s 0 N A1 (by omega) (by omega) (fun v hv => by rw [e2 45 (by omega)]; exact hPv v hv) (fun j hj => by rw [e3 j hj]; rfl)
  have a2 : ∀ k, k ≠ 54 → A2 k = A k := fun k hk => by rw [c2 k hk, e2 k hk]
  have hrk := s_rkM (fl := fl) (B := B) (G := G3) (N := N) (b := by_) (n := t) hby hby2.1 ht (by omega) (by rw [gg44 3 (by omega) (by omega) (by omega)]; exact g3) t 0 N A2 (by omega) (by omega) (RkB0 _ _)
  generalize hA3 : upA A2 50 (rkG (A2 by_) t 0 (A2 50)) = A3 at hrk
  have a3 : ∀ k, k ≠ 50 → k ≠ 54 → A3 k = A k := fun k q1 q2 => by rw [← hA3, upA_ne _ _ _ q1, a2 k q2]
  have a3_50 : ∀ j, j < t → A3 50 j = nI (o j) ∧ o j < t := fun j hj => by rw [← hA3, upA_same, a2 by_ hby2.2, a2 50 (by omega)]; exact ho j hj
  have a3_54 : ∀ j, j < 4 → A3 54 j = nI (bC (stP al pr) j s) := fun j hj => by rw [← hA3, upA_ne _ _ _ (by omega)]; exact c3 j hj
  generalize hB1 : upA B 53 (vp_updL (B 53) 0 0) = B1
  have b1 : ∀ k, k ≠ 53 → B1 k = B k := fun k hk => by rw [← hB1, upA_ne _ _ _ hk]
  obtain ⟨B2, d1, d2, d3⟩ := s_bf122 (fl := fl) (N := N) (C := C) (o := o) ht hby (A := A3) (G := G3) (by rw [gg44 3 (by omega) (by omega) (by omega)]; exact g3) (fun i hi => by rw [a3 by_ hby2.1 hby2.2]; exact hC i hi) a3_50 t 0 N B1 (by omega) (by omega) (fun x hx => by
    rw [show x = 0 by omega, ← hB1, upA_same, vpL_eq, Nat.sub_zero, Nat.sub_self]
    rfl)
  obtain ⟨A4, f1, f2⟩ : ∃ A4, f_X7_buildFree_K160 N 44 (mem A3 B2 G3 fl) = f_X7_buildFree_K199 N 44 (mem A4 B2 G3 fl) ∧ ∀ j, j ≠ 52 → A4 j = A3 j := by
    unfold f_X7_buildFree_K160 f_X7_buildFree_K175
    rw [gx_44_14, sb, gg14]
    rcases hal with q | q
    · rw [if_pos (by rw [q]; rfl)]
      exact s_bf179 (fl := fl) (N := N) (B := B2) (G := G3) (n := 216600) (Nat.le_refl _) 216600 0 N A3 (by omega) (by omega)
    · rw [if_neg (by rw [q]; decide)]
      exact s_bf179 (fl := fl) (N := N) (B := B2) (G := G3) (n := 15625) (by omega) 15625 0 N A3 (by omega) (by omega)
  have hv0 : VT al t 1 0 0 0 := ⟨ht0, fun _ => ⟨by omega, rfl, rfl⟩, fun _ => by omega⟩
  have hlt0 := hv0.lt (p := 0) ht hH.2.2.2.1 (fun _ => Nat.zero_le _) (Nat.zero_le _)
  generalize hA5 : upA A4 52 (upd (A4 52) (ixF al 0 1 0 0 0) 1) = A5
  have a5 : ∀ k, k ≠ 50 → k ≠ 52 → k ≠ 54 → A5 k = A k := fun k q1 q2 q3 => by rw [← hA5, upA_ne _ _ _ q2, f2 k q2, a3 k q1 q3]
  have a5_52 : A5 52 (ixF al 0 1 0 0 0) ≠ 0 := by rw [← hA5, upA_same, upd_eq]; decide
  have a5_50 : ∀ j, j < t → A5 50 j = nI (o j) ∧ o j < t := fun j hj => by rw [← hA5, upA_ne _ _ _ (by omega), f2 50 (by omega)]; exact a3_50 j hj
  have a5_54 : ∀ j, j < 4 → A5 54 j = nI (bC (stP al pr) j s) := fun j hj => by rw [← hA5, upA_ne _ _ _ (by omega), f2 54 (by omega)]; exact a3_54 j hj
  have hRC : RfC (bC (stP al pr) 1 s) (bC (stP al pr) 2 s) (bC (stP al pr) 3 s) (lcS C o t) (unF al pr) (DDf al bd) al t A5 B2 G3 := ⟨by rw [gg44 3 (by omega) (by omega) (by omega)]; exact g3, gg14, gg15, gg16, a5_54 1 (by omega), a5_54 2 (by omega), a5_54 3 (by omega), d3⟩
  obtain ⟨A6, h1, h2, h3, h4⟩ := s_bf217 (fl := fl) (N := N) (B := B2) (G := G3) (by omega) hH (DDf al bd) 0 N A5 (by omega) (by omega) hRC (fun q hq => absurd hq (Nat.not_lt_zero q))
  have hRC6 := hRC.fr (A' := A6) (B' := B2) (G' := G3) (h2 54 (by omega)) rfl rfl rfl rfl rfl
  obtain ⟨B3, k1, k2, k3⟩ := s_bf245 (fl := fl) (N := N) (G := G3) (by omega) hH h4 (DDf al bd) N B2 (Nat.le_refl _) (by omega) hRC6 (fun q q1 q2 => by omega)
  have hRC7 := hRC6.fr (A' := A6) (B' := B3) (G' := G3) rfl (k2 53 (by omega)) rfl rfl rfl rfl
  have hr6 := h3 _ a5_52
  have hb0 := k3 0 (Nat.zero_le _) 1 0 0 0 hv0 hr6
  rw [Nat.sub_zero] at hb0
  obtain ⟨w1, w2, w3⟩ := bW_0 hH ht0
  have hpre : f_X7_buildFree N 44 by_ (nI lg) (mem A B G fl) = f_X7_buildFree_K263 N 44 (mem A6 B3 G3 fl) := by
    rw [pre, e1, f_X7_buildFree_K66, show (0 : Int32) = nI 0 from rfl, c1, f_X7_buildFree_K108, ck_44, sb]
    unfold f_X7_rankBy
    rw [show f_X7_rankBy_L2 N N 44 by_ (0 : Int32) (mem A2 B G3 fl) = _ from hrk, sb, gx_44_13, sb, show stJ (mem A3 B G3 fl) 53 (0 : Int32) (0 : Int64) = _ from stJ_n (ly53 fl) (i := 0) (by omega) (by decide) 0, sb, hB1, show f_X7_buildFree_L122 N N 44 by_ (0 : Int32) (mem A3 B1 G3 fl) = _ from d1, f1, f_X7_buildFree_K199, gx_44_12, sb, ck_44, sb, show f_X7_at N 44 (0 : Int32) (1 : Int32) (0 : Int32) (0 : Int32) (0 : Int32) (mem A4 B2 G3 fl) = _ from s_at hal gg14 0 1 0 0 0, b2s, stZ_n (ly52 fl) hlt0.1 (by decide), sb, nar1, hA5, show f_X7_buildFree_L217 N N 44 (0 : Int32) (mem A5 B2 G3 fl) = _ from h1, f_X7_buildFree_K239, gx_44_16, sb, gg16, k1]
  have hcs : cvF (bC (stP al pr) 1 s) (bC (stP al pr) 2 s) (bC (stP al pr) 3 s) (lcS C o t) (unF al pr) (DDf al bd) 0 0 0 t 0 1 < 2 ^ 63 := hH.1.cv63 (by omega) (Nat.le_refl _)
  have hK : f_X7_buildFree_K263 N 44 (mem A6 B3 G3 fl) = if cvF (bC (stP al pr) 1 s) (bC (stP al pr) 2 s) (bC (stP al pr) 3 s) (lcS C o t) (unF al pr) (DDf al bd) 0 0 0 t 0 1 < EV then ((f_X7_layFree N 44 (mem A6 B3 G3 fl)).bind fun M287 => some ((1 : Int32), M287)) else some ((0 : Int32), mem A6 B3 G3 fl) := by
    unfold f_X7_buildFree_K263
    rw [gx_44_11, sb, ck_44, sb, show f_X7_at N 44 (0 : Int32) (1 : Int32) (0 : Int32) (0 : Int32) (0 : Int32) (mem A6 B3 G3 fl) = _ from s_at hal gg14 0 1 0 0 0, b2s, ldJ_n (ly51 fl) hlt0.1 (by decide), sb, hb0, w1, show (1152921504606846976 : Int64) = lN EV from rfl]
    by_cases q : cvF (bC (stP al pr) 1 s) (bC (stP al pr) 2 s) (bC (stP al pr) 3 s) (lcS C o t) (unF al pr) (DDf al bd) 0 0 0 t 0 1 < EV
    · rw [if_pos ((lg_lt hcs (by unfold EV; omega)).mpr q), if_pos q, ck_44, sb]
    · rw [if_neg (fun r => q ((lg_lt hcs (by unfold EV; omega)).mp r)), if_neg q]
  have a6 : ∀ k, k ≠ 50 → k ≠ 52 → k ≠ 54 → A6 k = A k := fun k q1 q2 q3 => by rw [h2 k q2, a5 k q1 q2 q3]
  have b3 : ∀ k, k ≠ 51 → k ≠ 53 → B3 k = B k := fun k q1 q2 => by rw [k2 k q1, d2 k q2, b1 k q2]
  rw [hK] at hpre
  by_cases hg : gF (bC (stP al pr) 1 s) (bC (stP al pr) 2 s) (bC (stP al pr) 3 s) (lcS C o t) (DDf al bd - 1) (min t (bC (stP al pr) 1 s)) (min t (bC (stP al pr) 2 s)) (min t (bC (stP al pr) 3 s)) t < EV
  · rw [if_pos (w3.mpr hg)] at hpre
    obtain ⟨A7, B7, G7, m1, m2, m3⟩ := s_layFree (fl := fl) (N := N) (o := o) (by omega) hF ht0 hH hinj hg A6 B3 G3 ⟨by rw [gg44 1 (by omega) (by omega) (by omega)]; exact g1, gg14, fun q u hu => by rw [a6 45 (by omega) (by omega) (by omega)]; exact (hPv u hu).2 q, fun q u hu => (hPv u hu).1 q, fun j hj => by rw [h2 50 (by omega)]; exact a5_50 j hj⟩ hRC7 ⟨h4, k3⟩ hr6
    refine ⟨A7, B7, G7, 1, by rw [hpre, m1, sb], fun k q1 q2 q3 q4 q5 q6 q7 => by rw [m2.1 k q1 q5 q6 q7, a6 k q2 q3 q4], fun k q1 q2 q3 q4 => by rw [m2.2.1 k q1 q4, b3 k q2 q3], fun k q => by rw [m2.2.2.1 k q, gg0 k q], fun f q1 q2 q3 q4 q5 q6 q7 => by rw [m2.2.2.2 f q4 q5 q6 q7, gg44 f q1 q2 q3], Or.inl ⟨hg, rfl, m3⟩⟩
  · rw [if_neg (fun q => hg (w3.mp q))] at hpre
    exact ⟨A6, B3, G3, 0, hpre, fun k q1 q2 q3 q4 q5 q6 q7 => a6 k q2 q3 q4, fun k q1 q2 q3 q4 => b3 k q2 q3, gg0, fun f q1 q2 q3 _ _ _ _ => gg44 f q1 q2 q3, Or.inr ⟨hg, rfl, a6 48 (by omega) (by omega) (by omega), b3 47 (by omega) (by omega)⟩⟩
end Bq
