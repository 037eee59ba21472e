/-! FREE: the reference builds -/
section Bf
variable {fl : Nat → Bool} {N s t al : Nat} {P o C : Nat → Nat} {b1 b2 b3 : Nat} {lc : Nat → Nat} {un D : Nat}
theorem s_bf217 (hN : 100 < N) (hH : RfH b1 b2 b3 lc un D al t) {B : Nat → Nat → Int64} {G : Nat → Nat → Int32} : ∀ (d p m : Nat) (A : Nat → Nat → Int32), p + d = D → d < m → RfC b1 b2 b3 lc un D al t A B G → (∀ q, q < p → ClL b1 b2 b3 D al t A q) →
    ∃ A', f_X7_buildFree_L217 N m 44 (nI p) (mem A B G fl) = f_X7_buildFree_K239 N 44 (mem A' B G fl) ∧ (∀ k, k ≠ 52 → A' k = A k) ∧ (∀ j, A 52 j ≠ 0 → A' 52 j ≠ 0) ∧ ∀ q, q < D → ClL b1 b2 b3 D al t A' q := by
  have hD : D ≤ 31 := hH.1.2.2.2.2.2.1
  have ht : t ≤ 24 := hH.1.2.2.2.2.2.2
  intro d
  induction d with
  | zero =>
    intro p m A h hm hC hcl
    obtain ⟨m, rfl⟩ : ∃ j, m = j + 1 := ⟨m - 1, by omega⟩
    refine ⟨A, ?_, fun _ _ => rfl, fun _ q => q, fun q hq => hcl q (by omega)⟩
    rw [f_X7_buildFree_L217, gx_44_16, sb, hC.2.2.2.1, if_pos (nI_le (by omega) (by omega))]
  | succ d ih =>
    intro p m A h hm hC hcl
    obtain ⟨m, rfl⟩ : ∃ j, m = j + 1 := ⟨m - 1, by omega⟩
    obtain ⟨A1, e1, e2, e3⟩ := s_gtMark (fl := fl) (N := N) hN hH (show p < D by omega) A B hC
    obtain ⟨A2, g1, g2, g3, g4⟩ := ih (p + 1) m A1 (by omega) (by omega) (hC.fr (e2.1 54 (by omega)) rfl rfl rfl rfl rfl) (fun q hq => by
      by_cases hqp : q = p
      · rw [hqp]; exact e3
      · intro a b c x hv hne
        rw [e2.2.1 _ (by rw [hv.lv ht hH.2.2.2.1]; omega)] at hne
        exact fun k mm w1 w2 w3 w4 => e2.2.2 _ (hcl q (by omega) a b c x hv hne k mm w1 w2 w3 w4))
    refine ⟨A2, ?_, fun k hk => by rw [g2 k hk, e2.1 k hk], fun j hj => g3 j (e2.2.2 j hj), g4⟩
    rw [f_X7_buildFree_L217, gx_44_16, sb, hC.2.2.2.1, if_neg (nI_ge (by omega) (by omega)), ck_44, sb, show (1 : Int32) = nI 1 from rfl, e1, sb, nI_add, g1]
theorem s_bf245 (hN : 100 < N) (hH : RfH b1 b2 b3 lc un D al t) {A : Nat → Nat → Int32} {G : Nat → Nat → Int32} (hcl : ∀ q, q < D → ClL b1 b2 b3 D al t A q) : ∀ (p m : Nat) (B : Nat → Nat → Int64), p ≤ D → p + 1 < m → RfC b1 b2 b3 lc un D al t A B G → (∀ q, p < q → q ≤ D → BsL b1 b2 b3 lc un D al t A B q) →
    ∃ B', f_X7_buildFree_L245 N m 44 (nI p) (mem A B G fl) = f_X7_buildFree_K263 N 44 (mem A B' G fl) ∧ (∀ k, k ≠ 51 → B' k = B k) ∧ ∀ q, q ≤ D → BsL b1 b2 b3 lc un D al t A B' q := by
  have hD : D ≤ 31 := hH.1.2.2.2.2.2.1
  have ht : t ≤ 24 := hH.1.2.2.2.2.2.2
  have step : ∀ (p : Nat) (B : Nat → Nat → Int64), p ≤ D → RfC b1 b2 b3 lc un D al t A B G → (∀ q, p < q → q ≤ D → BsL b1 b2 b3 lc un D al t A B q) → ∃ B', f_X7_goThrough N 44 (nI p) (nI 0) (mem A B G fl) = some (mem A B' G fl) ∧ (∀ k, k ≠ 51 → B' k = B k) ∧ ∀ q, p ≤ q → q ≤ D → BsL b1 b2 b3 lc un D al t A B' q := by
    intro p B hp hC hbs
    obtain ⟨B1, e1, e2, e3⟩ := s_gtWeigh (fl := fl) (N := N) hN hH hp A B hC (fun pD => hcl p pD) (fun pD => hbs (p + 1) (by omega) (by omega))
    refine ⟨B1, e1, e2.1, fun q q1 q2 => ?_⟩
    by_cases hqp : q = p
    · rw [hqp]; exact e3
    · intro a b c x hv hne
      rw [e2.2 _ (by rw [hv.lv ht hH.2.2.2.1]; omega)]
      exact hbs q (by omega) q2 a b c x hv hne
  intro p
  induction p with
  | zero =>
    intro m B hp hm hC hbs
    obtain ⟨m, rfl⟩ : ∃ j, m = j + 1 + 1 := ⟨m - 2, by omega⟩
    obtain ⟨B1, e1, e2, e3⟩ := step 0 B hp hC hbs
    refine ⟨B1, ?_, e2, fun q hq => e3 q (Nat.zero_le _) hq⟩
    rw [f_X7_buildFree_L245, if_neg (show ¬ (nI 0 : Int32) < 0 by decide), ck_44, sb, show (0 : Int32) = nI 0 from rfl, e1, sb, f_X7_buildFree_L245, if_pos (by decide)]
  | succ p ih =>
    intro m B hp hm hC hbs
    obtain ⟨m, rfl⟩ : ∃ j, m = j + 1 := ⟨m - 1, by omega⟩
    obtain ⟨B1, e1, e2, e3⟩ := step (p + 1) B hp hC hbs
    obtain ⟨B2, g1, g2, g3⟩ := ih m B1 (by omega) (by omega) (hC.fr rfl (e2 53 (by omega)) rfl rfl rfl rfl) (fun q q1 q2 => e3 q (by omega) q2)
    refine ⟨B2, ?_, fun k hk => by rw [g2 k hk, e2 k hk], g3⟩
    rw [f_X7_buildFree_L245, if_neg (nI_pos (by omega)), ck_44, sb, show (0 : Int32) = nI 0 from rfl, e1, sb, pk_m1, g1]
/-- the marks are cleared -/
theorem s_bf179 {B : Nat → Nat → Int64} {G : Nat → Nat → Int32} {n : Nat} (hn : n ≤ 216600) : ∀ (d k m : Nat) (A : Nat → Nat → Int32), k + d = n → d < m → ∃ A', f_X7_buildFree_L179 N m 44 (nI n) (nI k) (mem A B G fl) = f_X7_buildFree_K199 N 44 (mem A' B G fl) ∧ ∀ j, j ≠ 52 → A' j = A j := by
  intro d
  induction d with
  | zero =>
    intro k m A h hm
    obtain ⟨m, rfl⟩ : ∃ j, m = j + 1 := ⟨m - 1, by omega⟩
    refine ⟨A, ?_, fun _ _ => rfl⟩
    rw [f_X7_buildFree_L179, if_pos (nI_le (by omega) (by omega))]
  | succ d ih =>
    intro k m A h hm
    obtain ⟨m, rfl⟩ : ∃ j, m = j + 1 := ⟨m - 1, by omega⟩
    obtain ⟨A', e1, e2⟩ := ih (k + 1) m (upA A 52 (upd (A 52) k (vp_nar .boolean 0))) (by omega) (by omega)
    refine ⟨A', ?_, fun j hj => by rw [e2 j hj, upA_ne _ _ _ hj]⟩
    rw [f_X7_buildFree_L179, if_neg (nI_ge (by omega) (by omega)), gx_44_12, sb, stZ_n (ly52 fl) (by omega) (by decide), sb, nI_1, e1]
theorem s_bf122 (ht : t ≤ 24) {by_ : Nat} (hby : lay fl by_ = some (.inl (0, 24))) {A : Nat → Nat → Int32} {G : Nat → Nat → Int32} (hG : G 44 3 = nI t) (hC : ∀ i, i < t → A by_ i = nI (C i) ∧ C i ≤ 1000000) (ho : ∀ j, j < t → A 50 j = nI (o j) ∧ o j < t) : ∀ (d k m : Nat) (B : Nat → Nat → Int64), k + d = t → d < m → (∀ x, x ≤ k → B 53 x = lN (lcS C o t t - lcS C o t (t - x))) →
    ∃ B', f_X7_buildFree_L122 N m 44 by_ (nI k) (mem A B G fl) = f_X7_buildFree_K160 N 44 (mem A B' G fl) ∧ (∀ k, k ≠ 53 → B' k = B k) ∧ ∀ x, x ≤ t → B' 53 x = lN (lcS C o t t - lcS C o t (t - x)) := by
  have hmono : ∀ x y, x ≤ y → lcS C o t x ≤ lcS C o t y := by
    intro x y h
    induction y with
    | zero => rw [show x = 0 by omega]; exact Nat.le_refl _
    | succ y ih =>
      by_cases q : x = y + 1
      · rw [q]; exact Nat.le_refl _
      · have := ih (by omega)
        rw [lcS]
        omega
  intro d
  induction d with
  | zero =>
    intro k m B h hm hB
    obtain ⟨m, rfl⟩ : ∃ j, m = j + 1 := ⟨m - 1, by omega⟩
    refine ⟨B, ?_, fun _ _ => rfl, fun x hx => hB x (by omega)⟩
    rw [f_X7_buildFree_L122, gx_44_3, sb, hG, if_pos (nI_le (by omega) (by omega))]
  | succ d ih =>
    intro k m B h hm hB
    obtain ⟨m, rfl⟩ : ∃ j, m = j + 1 := ⟨m - 1, by omega⟩
    obtain ⟨o1, o2⟩ := ho k (by omega)
    obtain ⟨c1, c2⟩ := hC (o k) o2
    have hq : lcS C o t (t - k) = lcS C o t (t - (k + 1)) + C (o k) := by
      rw [show t - k = t - (k + 1) + 1 by omega, lcS, if_pos (by omega), show t - (t - (k + 1) + 1) = k by omega]
    have hm1 := hmono (t - k) t (by omega)
    have hv : lcS C o t t - lcS C o t (t - k) + C (o k) = lcS C o t t - lcS C o t (t - (k + 1)) := by omega
    generalize hB1 : upA B 53 (vp_updL (B 53) (k + 1) (lN (lcS C o t t - lcS C o t (t - (k + 1))))) = B1
    have b0 : ∀ k, k ≠ 53 → B1 k = B k := fun k hk => by rw [← hB1, upA_ne _ _ _ hk]
    have b53 : B1 53 = vp_updL (B 53) (k + 1) (lN (lcS C o t t - lcS C o t (t - (k + 1)))) := by rw [← hB1, upA_same]
    obtain ⟨B2, e1, e2, e3⟩ := ih (k + 1) m B1 (by omega) (by omega) (fun x hx => by
      rw [b53]
      by_cases hxq : x = k + 1
      · rw [hxq, vpL_eq]
      · rw [vpL_ne _ _ _ hxq]; exact hB x (by omega))
    refine ⟨B2, ?_, fun k hk => by rw [e2 k hk, b0 k hk], e3⟩
    rw [f_X7_buildFree_L122, gx_44_3, sb, hG, if_neg (nI_ge (by omega) (by omega)), gx_44_13, sb, sb, ldJ_n (ly53 fl) (by omega) (by decide), sb, hB k (Nat.le_refl _), gx_44_10, sb, ldI_n (ly50 fl) (by omega) (by decide), sb, o1, ldI_n hby (by omega) (by decide), sb, c1, nI_l (by omega), lN_add, hv, show nI k + (1 : Int32) = nI (k + 1) from nI_1 k, stJ_n (ly53 fl) (by omega) (by decide), sb, hB1, e1]
theorem s_bf68 (hs : s ≤ 4) (hal : al = 0 ∨ al = 1) {by_ : Nat} {B : Nat → Nat → Int64} {G : Nat → Nat → Int32} (g1 : G 44 1 = nI s) (g14 : G 44 14 = nI al) (hP : ∀ v, v < s → 1 ≤ P v ∧ P v ≤ 3) : ∀ (d u m : Nat) (A : Nat → Nat → Int32), u + d = s → d < m → (∀ v, v < s → (al = 1 → P v = 1) ∧ (al = 0 → A 45 v = nI (P v))) → (∀ j, j < 4 → A 54 j = nI (bC P j u)) →
    ∃ A', f_X7_buildFree_L68 N m 44 by_ (nI u) (mem A B G fl) = f_X7_buildFree_K108 N 44 by_ (mem A' B G fl) ∧ (∀ k, k ≠ 54 → A' k = A k) ∧ ∀ j, j < 4 → A' 54 j = nI (bC P j s) := by
  intro d
  induction d with
  | zero =>
    intro u m A h hm hPv h54
    obtain ⟨m, rfl⟩ : ∃ j, m = j + 1 := ⟨m - 1, by omega⟩
    have hus : u = s := by omega
    subst hus
    refine ⟨A, ?_, fun _ _ => rfl, h54⟩
    rw [f_X7_buildFree_L68, gx_44_1, sb, g1, if_pos (nI_le (by omega) (by omega))]
  | succ d ih =>
    intro u m A h hm hPv h54
    obtain ⟨m, rfl⟩ : ∃ j, m = j + 1 := ⟨m - 1, by omega⟩
    have hPu := hP u (by omega)
    generalize hA1 : upA A 54 (upd (A 54) (P u) (nI (bC P (P u) u + 1))) = A1
    have a0 : ∀ k, k ≠ 54 → A1 k = A k := fun k hk => by rw [← hA1, upA_ne _ _ _ hk]
    have a54 : A1 54 = upd (A 54) (P u) (nI (bC P (P u) u + 1)) := by rw [← hA1, upA_same]
    obtain ⟨A2, e1, e2, e3⟩ := ih (u + 1) m A1 (by omega) (by omega) (fun v hv => by rw [a0 45 (by omega)]; exact hPv v hv) (fun j hj => by
      rw [a54, bC]
      by_cases hju : P u = j
      · rw [if_pos hju, ← hju, upd_eq]
      · rw [if_neg hju, upd_ne _ _ _ (fun q => hju q.symm)]; exact h54 j hj)
    refine ⟨A2, ?_, fun k hk => by rw [e2 k hk, a0 k hk], e3⟩
    have hK : f_X7_buildFree_K97 N (f_X7_buildFree_L68 N m) 44 by_ (nI u) (nI (P u)) 54 (mem A B G fl) = f_X7_buildFree_K108 N 44 by_ (mem A2 B G fl) := by
      rw [f_X7_buildFree_K97, ldI_n (ly54 fl) (by omega) (by decide), sb, h54 (P u) (by omega), show nI (bC P (P u) u) + (1 : Int32) = nI (bC P (P u) u + 1) from nI_1 _, stI_n (ly54 fl) (by omega) (by decide), sb, hA1, nI_1, e1]
    rw [f_X7_buildFree_L68, gx_44_1, sb, g1, if_neg (nI_ge (by omega) (by omega)), gx_44_17, sb, gx_44_14, sb, g14]
    rcases hal with q | q
    · rw [q, if_pos (show (nI 0 : Int32) = 0 from rfl), gx_44_0, sb, ldI_n (ly45 fl) (by omega) (by decide), sb, (hPv u (by omega)).2 q]
      exact hK
    · rw [(hPv u (by omega)).1 q] at hK
      rw [q, if_neg (show ¬ (nI 1 : Int32) = 0 by decide)]
      exact hK
theorem s_bf48 {by_ : Nat} {B : Nat → Nat → Int64} {G : Nat → Nat → Int32} : ∀ (d k m : Nat) (A : Nat → Nat → Int32), k + d = 4 → d < m → (∀ j, j < k → A 54 j = nI 0) →
    ∃ A', f_X7_buildFree_L48 N m 44 by_ (nI k) (mem A B G fl) = f_X7_buildFree_K66 N 44 by_ (mem A' B G fl) ∧ (∀ k, k ≠ 54 → A' k = A k) ∧ ∀ j, j < 4 → A' 54 j = nI 0 := by
  intro d
  induction d with
  | zero =>
    intro k m A h hm h54
    obtain ⟨m, rfl⟩ : ∃ j, m = j + 1 := ⟨m - 1, by omega⟩
    refine ⟨A, ?_, fun _ _ => rfl, fun j hj => h54 j (by omega)⟩
    rw [f_X7_buildFree_L48, if_pos (show (4 : Int32) ≤ nI k from nI_le (a := 4) (by omega) (by omega))]
  | succ d ih =>
    intro k m A h hm h54
    obtain ⟨m, rfl⟩ : ∃ j, m = j + 1 := ⟨m - 1, by omega⟩
    obtain ⟨A', e1, e2, e3⟩ := ih (k + 1) m (upA A 54 (upd (A 54) k 0)) (by omega) (by omega) (fun j hj => by
      rw [upA_same]
      by_cases q : j = k
      · rw [q, upd_eq]; rfl
      · rw [upd_ne _ _ _ q]; exact h54 j (by omega))
    refine ⟨A', ?_, fun j hj => by rw [e2 j hj, upA_ne _ _ _ hj], e3⟩
    rw [f_X7_buildFree_L48, if_neg (show ¬ (4 : Int32) ≤ nI k from nI_ge (b := 4) (by omega) (by omega)), gx_44_17, sb, stI_n (ly54 fl) (by omega) (by decide), sb, nI_1, e1]
end Bf
