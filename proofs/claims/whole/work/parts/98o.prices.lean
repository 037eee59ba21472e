/-! FREE: prices, like or not -/
/-- al: the prices are alike -/
def AlH (pr : Nat → Nat) (s al : Nat) : Prop := (al = 1 ∧ ∀ u, u < s → pr u = pr 0) ∨ (al = 0 ∧ ∃ u, u < s ∧ pr u ≠ pr 0)
theorem alH_ex (pr : Nat → Nat) (s : Nat) : ∃ al, AlH pr s al := by
  by_cases h : ∀ u, u < s → pr u = pr 0
  · exact ⟨1, Or.inl ⟨rfl, h⟩⟩
  · refine ⟨0, Or.inr ⟨rfl, Classical.byContradiction fun q => h fun u hu => Classical.byContradiction fun r => q ⟨u, hu, r⟩⟩⟩
/-- FREE may be built -/
def MayF (pr : Nat → Nat) (s t : Nat) : Prop := 2 ≤ s ∧ 0 < t ∧ ((∀ u, u < s → pr u = pr 0) ∨ (t ≤ 8 ∧ ∀ u, u < s → pr u ≤ 3))
/-- the steps -/
def stP (al : Nat) (pr : Nat → Nat) (u : Nat) : Nat := if al = 1 then 1 else pr u
def DDf (al bd : Nat) : Nat := if al = 1 then (if bd = 0 then 24 else bd) else 31
def unF (al : Nat) (pr : Nat → Nat) : Nat := if al = 1 then pr 0 else 1
theorem bC_all {P : Nat → Nat} {j : Nat} : ∀ n, (∀ u, u < n → P u = j) → bC P j n = n := by
  intro n
  induction n with
  | zero => intro _; rfl
  | succ n ih => intro h; rw [bC, ih (fun u hu => h u (by omega)), if_pos (h n (by omega))]
theorem bC_non {P : Nat → Nat} {j : Nat} : ∀ n, (∀ u, u < n → P u ≠ j) → bC P j n = 0 := by
  intro n
  induction n with
  | zero => intro _; rfl
  | succ n ih => intro h; rw [bC, ih (fun u hu => h u (by omega)), if_neg (h n (by omega))]
theorem bC_pos {P : Nat → Nat} {j u : Nat} (hu : P u = j) : ∀ n, u < n → 1 ≤ bC P j n := by
  intro n
  induction n with
  | zero => intro h; omega
  | succ n ih =>
    intro h
    rw [bC]
    by_cases q : u = n
    · rw [← q, if_pos hu]; omega
    · have := ih (by omega); omega
theorem bC_les {P : Nat → Nat} {j u : Nat} (hu : P u ≠ j) : ∀ n, u < n → bC P j n + 1 ≤ n := by
  intro n
  induction n with
  | zero => intro h; omega
  | succ n ih =>
    intro h
    rw [bC]
    by_cases q : u = n
    · rw [← q, if_neg hu]; have := bC_lt (P := P) (j := j) u; omega
    · have := ih (by omega); split <;> omega
theorem free_H {pr C o : Nat → Nat} {s t al bd sp : Nat} (hA : AlH pr s al) (hM : MayF pr s t) (hs : s ≤ 4) (ht : t ≤ 24) (hpr : ∀ u, u < s → 1 ≤ pr u ∧ pr u ≤ 9) (ho : ∀ j, j < t → o j < t) (hC : ∀ i, i < t → 1 ≤ C i ∧ C i ≤ 1000000) (hbd : bd ≤ 24) (hb0 : bd ≠ 0 → al = 1) (hsp : sp + 1 < 2 ^ 30) :
    FrH (stP al pr) s (lcS C o t) t ∧ LvH (bC (stP al pr) 1 s) (bC (stP al pr) 2 s) (bC (stP al pr) 3 s) (lcS C o t) s t bd (1 - al) (sp + 1) ∧ RfH (bC (stP al pr) 1 s) (bC (stP al pr) 2 s) (bC (stP al pr) 3 s) (lcS C o t) (unF al pr) (DDf al bd) al t ∧ DDf al bd ≤ 31 ∧ ((bd ≠ 0 → DDf al bd = bd) ∧ (bd = 0 → 23 ≤ DDf al bd)) ∧ (∀ v, v < s → 1 ≤ stP al pr v ∧ stP al pr v ≤ 3) := by
  obtain ⟨m1, m2, m3⟩ := hM
  have hst := lcS_lt (C := C) (o := o) (t := t) ho (fun i hi => (hC i hi).1)
  have hle := lcS_le (C := C) (o := o) (t := t) ho (fun i hi => (hC i hi).2) t (Nat.le_refl _)
  have hle2 : lcS C o t t ≤ 24000000 := by omega
  have b1 := bC_lt (P := stP al pr) (j := 1) s
  have b2 := bC_lt (P := stP al pr) (j := 2) s
  have b3 := bC_lt (P := stP al pr) (j := 3) s
  rcases hA with ⟨h1, h2⟩ | ⟨h1, u, h2, h3⟩
  · have hP : ∀ u, u < s → stP al pr u = 1 := fun u _ => by unfold stP; rw [if_pos h1]
    have c1 := bC_all (P := stP al pr) (j := 1) s hP
    have c2 := bC_non (P := stP al pr) (j := 2) s (fun u hu => by rw [hP u hu]; decide)
    have c3 := bC_non (P := stP al pr) (j := 3) s (fun u hu => by rw [hP u hu]; decide)
    have hDD : DDf al bd ≤ 24 ∧ 1 ≤ DDf al bd := by unfold DDf; rw [if_pos h1]; split <;> omega
    have hun : unF al pr = pr 0 := by unfold unF; rw [if_pos h1]
    have hp0 := hpr 0 (by omega)
    refine ⟨⟨m1, hs, fun u hu => by rw [hP u hu]; omega, ht, Or.inl ⟨c1, c2, c3⟩, hst⟩, ⟨m1, hs, ht, by omega, fun q => by omega, fun _ => ⟨c1, c2, c3⟩, by omega, by omega, by omega, hbd, hst, hle2, hsp⟩, ⟨⟨hst, rfl, hle2, by omega, by omega, by omega, ht⟩, Or.inr h1, fun _ => ⟨hDD.1, c2, c3⟩, fun q => absurd h1 q, by omega, by omega, by omega, hDD.2⟩, by omega, ⟨fun q => by unfold DDf; rw [if_pos h1, if_neg q], fun q => by unfold DDf; rw [if_pos h1, if_pos q]; omega⟩, fun v hv => by rw [hP v hv]; omega⟩
  · have hP : ∀ u, stP al pr u = pr u := fun u => by unfold stP; rw [if_neg (by omega)]
    have h8 : t ≤ 8 ∧ ∀ u, u < s → pr u ≤ 3 := by
      rcases m3 with q | q
      · exact absurd (q u h2) h3
      · exact q
    have hbd0 : bd = 0 := by
      rcases Nat.eq_zero_or_pos bd with q | q
      · exact q
      · have := hb0 (by omega); omega
    have hDD : DDf al bd = 31 := by unfold DDf; rw [if_neg (by omega)]
    have hun : unF al pr = 1 := by unfold unF; rw [if_neg (by omega)]
    have pu := hpr u h2
    have pu2 := h8.2 u h2
    have p0 := hpr 0 (by omega)
    have p02 := h8.2 0 (by omega)
    have c3 : bC (stP al pr) 3 s ≤ 3 := by
      by_cases q : pr 0 = 3
      · have := bC_les (P := stP al pr) (j := 3) (u := u) (by rw [hP]; omega) s h2; omega
      · have := bC_les (P := stP al pr) (j := 3) (u := 0) (by rw [hP]; exact q) s (by omega); omega
    have c4 : 1 ≤ bC (stP al pr) 1 s ∨ (1 ≤ bC (stP al pr) 2 s ∧ 1 ≤ bC (stP al pr) 3 s) := by
      by_cases q : pr 0 = 1
      · exact Or.inl (bC_pos (u := 0) (by rw [hP]; exact q) s (by omega))
      · by_cases r : pr u = 1
        · exact Or.inl (bC_pos (u := u) (by rw [hP]; exact r) s h2)
        · refine Or.inr ?_
          by_cases w : pr 0 = 2
          · exact ⟨bC_pos (u := 0) (by rw [hP]; exact w) s (by omega), bC_pos (u := u) (by rw [hP]; omega) s h2⟩
          · exact ⟨bC_pos (u := u) (by rw [hP]; omega) s h2, bC_pos (u := 0) (by rw [hP]; omega) s (by omega)⟩
    refine ⟨⟨m1, hs, fun u hu => by rw [hP u]; have := hpr u hu; have := h8.2 u hu; omega, ht, Or.inr ⟨h8.1, c3, c4⟩, hst⟩, ⟨m1, hs, ht, by omega, fun _ => ⟨h8.1, hbd0⟩, fun q => by omega, by omega, by omega, by omega, hbd, hst, hle2, hsp⟩, ⟨⟨hst, rfl, hle2, by omega, by omega, by omega, ht⟩, Or.inl h1, fun q => by omega, fun _ => h8.1, by omega, by omega, by omega, by omega⟩, by omega, ⟨fun q => absurd hbd0 q, fun _ => by omega⟩, fun v hv => by rw [hP v]; have := hpr v hv; have := h8.2 v hv; omega⟩
section Pr
variable {fl : Nat → Bool} {N s t al : Nat} {pr : Nat → Nat} {A : Nat → Nat → Int32} {B : Nat → Nat → Int64} {G : Nat → Nat → Int32}
theorem s_unlL (h1 : G 0 10 = nI s) (hs1 : 1 ≤ s) (hs : s ≤ 4) (hp : ∀ u, u < s → A 1 u = nI (pr u) ∧ pr u ≤ 9) (hA : AlH pr s al) : ∀ (d u m : Nat), u + d = s → d < m → (∀ v, v < u → pr v = pr 0) → f_X6_pricesUnlike_L2 N m 0 (nI u) (mem A B G fl) = some (nI (1 - al), mem A B G fl) := by
  intro d
  induction d with
  | zero =>
    intro u m h hm hv
    obtain ⟨m, rfl⟩ : ∃ j, m = j + 1 := ⟨m - 1, by omega⟩
    rw [f_X6_pricesUnlike_L2, gx_0_10, sb, h1, if_pos (nI_le (by omega) (by omega))]
    rcases hA with ⟨q1, -⟩ | ⟨-, u', q2, q3⟩
    · rw [q1]; rfl
    · exact absurd (hv u' (by omega)) q3
  | succ d ih =>
    intro u m h hm hv
    obtain ⟨m, rfl⟩ : ∃ j, m = j + 1 := ⟨m - 1, by omega⟩
    obtain ⟨p1, p2⟩ := hp u (by omega)
    obtain ⟨p3, p4⟩ := hp 0 (by omega)
    rw [f_X6_pricesUnlike_L2, gx_0_10, sb, h1, if_neg (nI_ge (by omega) (by omega)), gx_0_0, sb, ldI_n (ly1 fl) (by omega) (by decide), sb, sb, show ldI (mem A B G fl) 1 (0 : Int32) = _ from ldI_n (ly1 fl) (i := 0) (by omega) (by decide), sb, p1, p3]
    by_cases q : pr u = pr 0
    · rw [if_pos (by rw [q]), nI_1]
      exact ih (u + 1) m (by omega) (by omega) (fun v w => by
        by_cases e : v = u
        · rw [e]; exact q
        · exact hv v (by omega))
    · rw [if_neg (fun e => q ((nI_eq (by omega) (by omega)).mp e))]
      rcases hA with ⟨-, q2⟩ | ⟨q1, -⟩
      · exact absurd (q2 u (by omega)) q
      · rw [q1]; rfl
theorem s_unl (hN : 10 < N) (h1 : G 0 10 = nI s) (hs1 : 1 ≤ s) (hs : s ≤ 4) (hp : ∀ u, u < s → A 1 u = nI (pr u) ∧ pr u ≤ 9) (hA : AlH pr s al) : f_X6_pricesUnlike N 0 (mem A B G fl) = some (nI (1 - al), mem A B G fl) := by
  unfold f_X6_pricesUnlike
  exact s_unlL (fl := fl) (N := N) (B := B) h1 hs1 hs hp hA (s - 1) 1 N (by omega) (by omega) (fun v hv => by rw [show v = 0 by omega])
theorem s_alk0 (h1 : G 44 1 = nI s) (hs : s ≤ 4) : ∀ (d u m : Nat), u + d = s → d < m → f_X7_arePricesAlike_L4 N m 44 (nI 0) (nI u) (mem A B G fl) = some (nI 0, mem A B G fl) := by
  intro d
  induction d with
  | zero =>
    intro u m h hm
    obtain ⟨m, rfl⟩ : ∃ j, m = j + 1 := ⟨m - 1, by omega⟩
    rw [f_X7_arePricesAlike_L4, gx_44_1, sb, h1, if_pos (nI_le (by omega) (by omega))]
    rfl
  | succ d ih =>
    intro u m h hm
    obtain ⟨m, rfl⟩ : ∃ j, m = j + 1 := ⟨m - 1, by omega⟩
    rw [f_X7_arePricesAlike_L4, gx_44_1, sb, h1, if_neg (nI_ge (by omega) (by omega)), if_pos (show (nI 0 : Int32) = 0 from rfl), f_X7_arePricesAlike_K35, f_X7_arePricesAlike_K36, nI_1]
    exact ih (u + 1) m (by omega) (by omega)
theorem s_alk1 (h1 : G 44 1 = nI s) (hs1 : 1 ≤ s) (hs : s ≤ 4) (hp : ∀ u, u < s → A 45 u = nI (pr u) ∧ pr u ≤ 9) (hA : AlH pr s al) : ∀ (d u m : Nat), u + d = s → d < m → (∀ v, v < u → pr v = pr 0) → f_X7_arePricesAlike_L4 N m 44 (nI 1) (nI u) (mem A B G fl) = some (nI al, mem A B G fl) := by
  intro d
  induction d with
  | zero =>
    intro u m h hm hv
    obtain ⟨m, rfl⟩ : ∃ j, m = j + 1 := ⟨m - 1, by omega⟩
    rw [f_X7_arePricesAlike_L4, gx_44_1, sb, h1, if_pos (nI_le (by omega) (by omega))]
    rcases hA with ⟨q1, -⟩ | ⟨-, u', q2, q3⟩
    · rw [q1]; rfl
    · exact absurd (hv u' (by omega)) q3
  | succ d ih =>
    intro u m h hm hv
    obtain ⟨m, rfl⟩ : ∃ j, m = j + 1 := ⟨m - 1, by omega⟩
    obtain ⟨p1, p2⟩ := hp u (by omega)
    obtain ⟨p3, p4⟩ := hp 0 (by omega)
    rw [f_X7_arePricesAlike_L4, gx_44_1, sb, h1, if_neg (nI_ge (by omega) (by omega)), if_neg (show ¬ (nI 1 : Int32) = 0 by decide), gx_44_0, sb, ldI_n (ly45 fl) (by omega) (by decide), sb, sb, show ldI (mem A B G fl) 45 (0 : Int32) = _ from ldI_n (ly45 fl) (i := 0) (by omega) (by decide), sb, p1, p3]
    by_cases q : pr u = pr 0
    · rw [if_pos (by rw [q]), f_X7_arePricesAlike_K36, nI_1]
      exact ih (u + 1) m (by omega) (by omega) (fun v w => by
        by_cases e : v = u
        · rw [e]; exact q
        · exact hv v (by omega))
    · rw [if_neg (fun e => q ((nI_eq (by omega) (by omega)).mp e)), f_X7_arePricesAlike_K35, f_X7_arePricesAlike_K36, nI_1]
      rcases hA with ⟨-, q2⟩ | ⟨q1, -⟩
      · exact absurd (q2 u (by omega)) q
      · rw [q1]
        exact s_alk0 h1 hs d (u + 1) m (by omega) (by omega)
theorem s_alk (hN : 10 < N) (h1 : G 44 1 = nI s) (hs1 : 1 ≤ s) (hs : s ≤ 4) (hp : ∀ u, u < s → A 45 u = nI (pr u) ∧ pr u ≤ 9) (hA : AlH pr s al) : f_X7_arePricesAlike N 44 (mem A B G fl) = some (nI al, mem A B G fl) := by
  unfold f_X7_arePricesAlike
  exact s_alk1 (fl := fl) (N := N) (B := B) h1 hs1 hs hp hA (s - 1) 1 N (by omega) (by omega) (fun v hv => by rw [show v = 0 by omega])
/-- the dearest price -/
def deP (pr : Nat → Nat) : Nat → Nat
  | 0 => 0
  | u + 1 => max (deP pr u) (pr u)
theorem deP_le {c : Nat} : ∀ n, deP pr n ≤ c ↔ ∀ u, u < n → pr u ≤ c := by
  intro n
  induction n with
  | zero => exact ⟨fun _ u hu => absurd hu (Nat.not_lt_zero u), fun _ => Nat.zero_le _⟩
  | succ n ih =>
    rw [deP]
    constructor
    · intro h u hu
      by_cases q : u = n
      · rw [q]; omega
      · exact ih.mp (by omega) u (by omega)
    · intro h
      have := ih.mpr (fun u hu => h u (by omega))
      have := h n (by omega)
      omega
theorem s_dearL (h1 : G 0 10 = nI s) (hs : s ≤ 4) (hp : ∀ u, u < s → A 1 u = nI (pr u) ∧ pr u ≤ 9) : ∀ (d u m : Nat), u + d = s → d < m → f_X6_dearestPrice_L4 N m 0 (nI (deP pr u)) (nI u) (mem A B G fl) = some (nI (deP pr s), mem A B G fl) := by
  intro d
  induction d with
  | zero =>
    intro u m h hm
    obtain ⟨m, rfl⟩ : ∃ j, m = j + 1 := ⟨m - 1, by omega⟩
    rw [f_X6_dearestPrice_L4, gx_0_10, sb, h1, if_pos (nI_le (by omega) (by omega)), show u = s by omega]
  | succ d ih =>
    intro u m h hm
    obtain ⟨m, rfl⟩ : ∃ j, m = j + 1 := ⟨m - 1, by omega⟩
    obtain ⟨p1, p2⟩ := hp u (by omega)
    have h9 : deP pr u ≤ 9 := (deP_le u).mpr (fun v hv => (hp v (by omega)).2)
    rw [f_X6_dearestPrice_L4, gx_0_10, sb, h1, if_neg (nI_ge (by omega) (by omega)), gx_0_0, sb, ldI_n (ly1 fl) (by omega) (by decide), sb, p1, mxI_n (by omega) (by omega), nI_1]
    exact ih (u + 1) m (by omega) (by omega)
theorem s_dear (hN : 10 < N) (h1 : G 0 10 = nI s) (hs : s ≤ 4) (hp : ∀ u, u < s → A 1 u = nI (pr u) ∧ pr u ≤ 9) : f_X6_dearestPrice N 0 (mem A B G fl) = some (nI (deP pr s), mem A B G fl) := by
  unfold f_X6_dearestPrice
  exact s_dearL (fl := fl) (N := N) (B := B) h1 hs hp s 0 N (by omega) (by omega)
theorem s_hasST2 (h1 : G 0 10 = nI s) (h2 : G 0 11 = nI t) (hs : s ≤ 4) (ht : t ≤ 24) : f_X6_hasSignsAndThings N 0 (mem A B G fl) = some (bz (2 ≤ s ∧ 0 < t), mem A B G fl) := by
  unfold f_X6_hasSignsAndThings
  rw [gx_0_10, sb, h1]
  by_cases q : s < 2
  · rw [if_pos (show nI s < (2 : Int32) from nI_lt (b := 2) q (by decide)), bz_f (by omega)]
  · rw [if_neg (show ¬ nI s < (2 : Int32) from nI_nlt (b := 2) (by omega) (by omega)), gx_0_11, sb, h2]
    by_cases r : t < 1
    · rw [if_pos (show nI t < (1 : Int32) from nI_lt (b := 1) r (by decide)), bz_f (by omega)]
    · rw [if_neg (show ¬ nI t < (1 : Int32) from nI_nlt (b := 1) (by omega) (by omega)), bz_t (by omega)]
theorem s_canX (hN : 10 < N) (h1 : G 0 10 = nI s) (h2 : G 0 11 = nI t) (hs : s ≤ 4) (ht : t ≤ 24) (hp : ∀ u, u < s → A 1 u = nI (pr u) ∧ pr u ≤ 9) : ∃ v, f_X6_canBuild N 0 (0 : Int32) (mem A B G fl) = some (v, mem A B G fl) ∧ (v = 0 ↔ ¬ MayF pr s t) := by
  unfold f_X6_canBuild
  rw [ck_0, sb, s_hasST2 h1 h2 hs ht, b2s]
  by_cases hst : 2 ≤ s ∧ 0 < t
  · obtain ⟨al, hA⟩ := alH_ex pr s
    rw [if_neg (bz1 hst), if_pos rfl, ck_0, sb, s_unl hN h1 (by omega) hs hp hA, b2s]
    rcases hA with ⟨q1, q2⟩ | ⟨q1, u, q2, q3⟩
    · rw [q1, if_pos (show (nI (1 - 1) : Int32) = 0 from rfl)]
      exact ⟨1, rfl, fun q => absurd q (by decide), fun q => absurd ⟨hst.1, hst.2, Or.inl q2⟩ q⟩
    · rw [q1, if_neg (show ¬ (nI (1 - 0) : Int32) = 0 by decide), gx_0_11, sb, h2]
      have hna : ¬ ∀ u, u < s → pr u = pr 0 := fun q => q3 (q u q2)
      by_cases h8 : 8 < t
      · rw [if_pos (show (8 : Int32) < nI t from nI_lt (a := 8) h8 (by omega))]
        refine ⟨0, rfl, fun _ q => ?_, fun _ => rfl⟩
        rcases q.2.2 with r | r
        · exact hna r
        · omega
      · rw [if_neg (show ¬ (8 : Int32) < nI t from nI_nlt (a := 8) (by omega) (by omega)), ck_0, sb, s_dear hN h1 hs hp, b2s]
        have h9 : deP pr s ≤ 9 := (deP_le s).mpr (fun v hv => (hp v hv).2)
        by_cases h3 : 3 < deP pr s
        · rw [if_pos (show (3 : Int32) < nI (deP pr s) from nI_lt (a := 3) h3 (by omega))]
          refine ⟨0, rfl, fun _ q => ?_, fun _ => rfl⟩
          rcases q.2.2 with r | r
          · exact hna r
          · have := (deP_le s).mpr r.2; omega
        · rw [if_neg (show ¬ (3 : Int32) < nI (deP pr s) from nI_nlt (a := 3) (by omega) (by omega))]
          exact ⟨1, rfl, fun q => absurd q (by decide), fun q => absurd ⟨hst.1, hst.2, Or.inr ⟨by omega, (deP_le s).mp (by omega)⟩⟩ q⟩
  · rw [if_pos (bz0 hst)]
    exact ⟨0, rfl, fun _ q => hst ⟨q.1, q.2.1⟩, fun _ => rfl⟩
theorem s_mayL (h1 : G 44 1 = nI s) (hs1 : 1 ≤ s) (hs : s ≤ 4) (hN : 10 < N) (hp : ∀ u, u < s → A 45 u = nI (pr u) ∧ pr u ≤ 9) (hA : AlH pr s al) : ∀ (d u m lo : Nat), u + d = s → d < m → (lo = 0 ∨ lo = 1) → ∃ v, f_X7_mayBeFree_L26 N m 44 (nI lo) (nI u) (mem A B G fl) = some (v, mem A B G fl) ∧ (v = 0 ↔ ¬ (al = 1 ∨ (lo = 1 ∧ ∀ w, u ≤ w → w < s → pr w ≤ 3))) := by
  intro d
  induction d with
  | zero =>
    intro u m lo h hm hlo
    obtain ⟨m, rfl⟩ : ∃ j, m = j + 1 := ⟨m - 1, by omega⟩
    rw [f_X7_mayBeFree_L26, gx_44_1, sb, h1, if_pos (nI_le (by omega) (by omega))]
    rcases hlo with q | q
    · rw [q, if_pos (show (nI 0 : Int32) = 0 from rfl), ck_44, sb, s_alk hN h1 hs1 hs hp hA, b2s]
      rcases hA with ⟨r, -⟩ | ⟨r, -⟩
      · rw [r, if_neg (show ¬ (nI 1 : Int32) = 0 by decide)]
        exact ⟨1, rfl, fun w => absurd w (by decide), fun w => absurd (Or.inl rfl) w⟩
      · rw [r, if_pos (show (nI 0 : Int32) = 0 from rfl)]
        refine ⟨0, rfl, fun _ w => ?_, fun _ => rfl⟩
        rcases w with w | w
        · omega
        · omega
    · rw [q, if_neg (show ¬ (nI 1 : Int32) = 0 by decide)]
      exact ⟨1, rfl, fun w => absurd w (by decide), fun w => absurd (Or.inr ⟨rfl, fun v q1 q2 => by omega⟩) w⟩
  | succ d ih =>
    intro u m lo h hm hlo
    obtain ⟨m, rfl⟩ : ∃ j, m = j + 1 := ⟨m - 1, by omega⟩
    obtain ⟨p1, p2⟩ := hp u (by omega)
    rw [f_X7_mayBeFree_L26, gx_44_1, sb, h1, if_neg (nI_ge (by omega) (by omega))]
    rcases hlo with q | q
    · rw [q, if_pos (show (nI 0 : Int32) = 0 from rfl), f_X7_mayBeFree_K52, f_X7_mayBeFree_K53, nI_1]
      obtain ⟨v, e1, e2⟩ := ih (u + 1) m 0 (by omega) (by omega) (Or.inl rfl)
      refine ⟨v, e1, e2.trans ?_⟩
      constructor
      · intro w r
        rcases r with r | r
        · exact w (Or.inl r)
        · omega
      · intro w r
        rcases r with r | r
        · exact w (Or.inl r)
        · omega
    · rw [q, if_neg (show ¬ (nI 1 : Int32) = 0 by decide), gx_44_0, sb, ldI_n (ly45 fl) (by omega) (by decide), sb, p1]
      by_cases h3 : 3 < pr u
      · rw [if_pos (show (3 : Int32) < nI (pr u) from nI_lt (a := 3) h3 (by omega)), f_X7_mayBeFree_K52, f_X7_mayBeFree_K53, nI_1]
        obtain ⟨v, e1, e2⟩ := ih (u + 1) m 0 (by omega) (by omega) (Or.inl rfl)
        refine ⟨v, e1, e2.trans ?_⟩
        constructor
        · intro w r
          rcases r with r | r
          · exact w (Or.inl r)
          · have := r.2 u (Nat.le_refl _) (by omega); omega
        · intro w r
          rcases r with r | r
          · exact w (Or.inl r)
          · omega
      · rw [if_neg (show ¬ (3 : Int32) < nI (pr u) from nI_nlt (a := 3) (by omega) (by omega)), f_X7_mayBeFree_K53, nI_1]
        obtain ⟨v, e1, e2⟩ := ih (u + 1) m 1 (by omega) (by omega) (Or.inr rfl)
        refine ⟨v, e1, e2.trans ?_⟩
        constructor
        · intro w r
          rcases r with r | r
          · exact w (Or.inl r)
          · exact w (Or.inr ⟨rfl, fun x q1 q2 => r.2 x (by omega) q2⟩)
        · intro w r
          rcases r with r | r
          · exact w (Or.inl r)
          · exact w (Or.inr ⟨rfl, fun x q1 q2 => by
              by_cases e : x = u
              · rw [e]; omega
              · exact r.2 x (by omega) q2⟩)
theorem s_mayM (hN : 10 < N) (h1 : G 44 1 = nI s) (h2 : G 44 3 = nI t) (hs : s ≤ 4) (ht : t ≤ 24) (hp : ∀ u, u < s → A 45 u = nI (pr u) ∧ pr u ≤ 9) : ∃ v, f_X7_mayBeFree N 44 (mem A B G fl) = some (v, mem A B G fl) ∧ (v = 0 ↔ ¬ MayF pr s t) := by
  unfold f_X7_mayBeFree
  rw [ck_44, sb, s_canBegin h1 h2 hs ht, b2s]
  by_cases hst : 2 ≤ s ∧ 0 < t
  · obtain ⟨al, hA⟩ := alH_ex pr s
    have hal : al = 1 ↔ ∀ u, u < s → pr u = pr 0 := by
      rcases hA with ⟨q1, q2⟩ | ⟨q1, u, q2, q3⟩
      · exact ⟨fun _ => q2, fun _ => q1⟩
      · exact ⟨fun q => by omega, fun q => absurd (q u q2) q3⟩
    rw [if_neg (bz1 hst), gx_44_3, sb, h2]
    by_cases h8 : 8 < t
    · rw [if_pos (show (8 : Int32) < nI t from nI_lt (a := 8) h8 (by omega)), f_X7_mayBeFree_K23]
      obtain ⟨v, e1, e2⟩ := s_mayL (fl := fl) (N := N) (B := B) h1 (by omega) hs hN hp hA s 0 N 0 (by omega) (by omega) (Or.inl rfl)
      refine ⟨v, e1, e2.trans ?_⟩
      constructor
      · rintro w ⟨-, -, r | r⟩
        · exact w (Or.inl (hal.mpr r))
        · omega
      · rintro w (r | r)
        · exact w ⟨hst.1, hst.2, Or.inl (hal.mp r)⟩
        · omega
    · rw [if_neg (show ¬ (8 : Int32) < nI t from nI_nlt (a := 8) (by omega) (by omega)), f_X7_mayBeFree_K23]
      obtain ⟨v, e1, e2⟩ := s_mayL (fl := fl) (N := N) (B := B) h1 (by omega) hs hN hp hA s 0 N 1 (by omega) (by omega) (Or.inr rfl)
      refine ⟨v, e1, e2.trans ?_⟩
      constructor
      · rintro w ⟨-, -, r | r⟩
        · exact w (Or.inl (hal.mpr r))
        · exact w (Or.inr ⟨rfl, fun x _ q => r.2 x q⟩)
      · rintro w (r | r)
        · exact w ⟨hst.1, hst.2, Or.inl (hal.mp r)⟩
        · exact w ⟨hst.1, hst.2, Or.inr ⟨by omega, fun x q => r.2 x (Nat.zero_le _) q⟩⟩
  · rw [if_pos (bz0 hst)]
    exact ⟨0, rfl, fun _ q => hst ⟨q.1, q.2.1⟩, fun _ => rfl⟩
end Pr
