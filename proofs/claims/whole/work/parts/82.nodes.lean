/-! the reference's nodes -/
section No
variable {A : Nat → Nat → Int32} {G : Nat → Nat → Int32} {fl : Nat → Bool} {N s t : Nat} {P C : Nat → Nat}
def NdC (A : Nat → Nat → Int32) (G : Nat → Nat → Int32) (P C : Nat → Nat) (s t : Nat) : Prop := G 44 1 = nI s ∧ G 44 3 = nI t ∧ (∀ u, u < s → A 45 u = nI (P u)) ∧ ∀ i, i < t → A 46 i = nI (C i)
theorem s_ctM2 {B : Nat → Nat → Int64} (ht : t ≤ 24) (hC : ∀ i, i < t → A 46 i = nI (C i) ∧ C i ≤ 1000000) {e : Nat} (he : e ≤ t) : ∀ (d i m x : Nat), i + d = e → d < m → f_X7_countsOf_L5 N m 44 (nI e) (lN x) (nI i) (mem A B G fl) = some (lN (x + ctS C d i), mem A B G fl) := by
  intro d
  induction d with
  | zero =>
    intro i m x h hm
    obtain ⟨m, rfl⟩ : ∃ j, m = j + 1 := ⟨m - 1, by omega⟩
    rw [f_X7_countsOf_L5, if_pos (nI_le (by omega) (by omega))]
    rfl
  | succ d ih =>
    intro i m x h hm
    obtain ⟨m, rfl⟩ : ∃ j, m = j + 1 := ⟨m - 1, by omega⟩
    obtain ⟨c1, c2⟩ := hC i (by omega)
    rw [f_X7_countsOf_L5, if_neg (nI_ge (by omega) (by omega)), gx_44_2, sb, ldI_n (ly46 fl) (by omega) (by decide), sb, c1, nI_l (by omega), lN_add, nI_1, ih (i + 1) m _ (by omega) (by omega), Nat.add_assoc]
    rfl
/-- the value of a deal -/
def dv (P C : Nat → Nat) (s i j u a e r : Nat) : Nat := if e - a = j - i + 1 then EV else vv (P u) (Wt C a e) (c1 (nd P C s) a e) r
theorem dv_le (hS : Sml P C s t) {i j u a e r : Nat} (he : e ≤ t) (hu : u < s) : dv P C s i j u a e r < 2 ^ 63 := by
  have b1 := nd_le (P := P) (C := C) (s := s) a (e - 1)
  have b3 := hS.pw (a := a) (e := e) (u := u) he hu
  have b2 : c1 (nd P C s) a e ≤ EV := by
    unfold c1
    split
    · exact Nat.zero_le _
    · exact b1
  unfold dv vv
  unfold EV at *
  split
  · decide
  · split <;> omega
theorem s_dealt {B : Nat → Nat → Int64} (hN : 100 < N) (hS : Sml P C s t) (hC : NdC A G P C s t) {i j u a e r : Nat} (hij : i ≤ j) (hj : j < t) (hu : u < s) (ha : i ≤ a) (hae : a ≤ e) (he : e ≤ j + 1) (hr : B 61 (30 * (u + 1) + e) = lN r) (hr2 : r ≤ EV) (hn : 2 ≤ e - a → e - a < j - i + 1 → B 60 (24 * a + (e - 1)) = lN (nd P C s a (e - 1))) : f_X7_dealt N 44 (nI i) (nI j) (nI u) (nI a) (nI e) (mem A B G fl) = some (lN (dv P C s i j u a e r), mem A B G fl) := by
  have h24 := hS.2.1
  have h4 := hS.1
  unfold f_X7_dealt dv
  rw [gx_44_28, sb, show (30 : Int32) = nI 30 from rfl, show (1 : Int32) = nI 1 from rfl, nI_add, pk_mul, nI_add, ldJ_n (ly61 fl) (by omega) (by decide), sb, hr, pk_sub hae, pk_sub hij, nI_add]
  by_cases h1 : e - a = j - i + 1
  · rw [if_pos (by rw [h1]), if_pos h1]
    rfl
  · rw [if_neg (fun q => h1 ((nI_eq (by omega) (by omega)).mp q)), if_neg h1]
    unfold vv
    unfold EV at hr2
    rw [show (1152921504606846976 : Int64) = lN 1152921504606846976 from rfl]
    by_cases h2 : EV ≤ r
    · rw [if_pos h2, if_neg (fun q => by have := (lg_lt (by omega) (by omega)).mp q; unfold EV at h2; omega)]
      rfl
    · rw [if_neg h2, if_pos ((lg_lt (by omega) (by omega)).mpr (by unfold EV at h2; omega)), gx_44_0, sb, ldI_n (ly45 fl) (by omega) (by decide), sb, hC.2.2.1 u hu, ck_44, sb]
      unfold f_X7_countsOf
      rw [show (0 : Int64) = lN 0 from rfl, s_ctM2 h24 (fun x hx => ⟨hC.2.2.2 x hx, hS.2.2.2 x hx⟩) (show e ≤ t by omega) (e - a) a N 0 (by omega) (by omega), Nat.zero_add, b2s, ck_44, sb]
      unfold f_X7_costOfNode c1
      by_cases h3 : e - a < 2
      · rw [pk_sub hae, if_neg (show ¬ (2 : Int32) ≤ nI (e - a) from nI_ge (b := 2) h3 (by omega)), b2s, if_pos h3, nI_l (by have := hS.2.2.1 u hu; omega), lN_mul, show (0 : Int64) = lN 0 from rfl, lN_add, lN_add]
        rfl
      · rw [pk_sub hae, if_pos (show (2 : Int32) ≤ nI (e - a) from nI_le (a := 2) (by omega) (by omega)), gx_44_27, sb, show (24 : Int32) = nI 24 from rfl, pk_mul, nI_add, show (1 : Int32) = nI 1 from rfl, pk_sub (by omega), show 24 * a + e - 1 = 24 * a + (e - 1) by omega, ldJ_n (ly60 fl) (by omega) (by decide), sb, hn (by omega) (by omega), b2s, if_neg h3, nI_l (by have := hS.2.2.1 u hu; omega), lN_mul, lN_add, lN_add]
        rfl
/-- nodes within i to j that are smaller are there -/
def NsM (B : Nat → Nat → Int64) (P C : Nat → Nat) (s i j : Nat) : Prop := ∀ a b, i ≤ a → a < b → b ≤ j → b - a < j - i → B 60 (24 * a + b) = lN (nd P C s a b)
theorem s_fd74 {B : Nat → Nat → Int64} (hN : 100 < N) (hS : Sml P C s t) (hC : NdC A G P C s t) {i j u a : Nat} (hij : i < j) (hj : j < t) (hu : u < s) (ha : i ≤ a) (haj : a ≤ j + 1) {r : Nat → Nat} (hr : ∀ e, a ≤ e → e ≤ j + 1 → B 61 (30 * (u + 1) + e) = lN (r e) ∧ r e ≤ EV) (hn : NsM B P C s i j) (k50 : Nat → Int32 → Int32 → Int32 → A_M → Option A_M) (k57 : Nat → Int32 → Int32 → Int32 → Int32 → A_M → Option A_M) : ∀ (d e m x : Nat), e + d = j + 2 → a ≤ e → d < m → x ≤ EV → f_X7_findDeals_L74 N k50 k57 m 44 (nI i) (nI j) (nI u) (nI a) (lN x) (nI e) (mem A B G fl) = f_X7_findDeals_K118 N k50 k57 44 (nI i) (nI j) (nI u) (nI a) (lN (mnF (fun e => dv P C s i j u a e (r e)) d e x)) (mem A B G fl) := by
  have h24 := hS.2.1
  have h4 := hS.1
  intro d
  induction d with
  | zero =>
    intro e m x h he hm hx
    obtain ⟨m, rfl⟩ : ∃ j, m = j + 1 := ⟨m - 1, by omega⟩
    rw [f_X7_findDeals_L74, show (1 : Int32) = nI 1 from rfl, nI_add, if_pos (nI_lt (by omega) (by omega))]
    rfl
  | succ d ih =>
    intro e m x h he hm hx
    obtain ⟨m, rfl⟩ : ∃ j, m = j + 1 := ⟨m - 1, by omega⟩
    obtain ⟨r1, r2⟩ := hr e he (by omega)
    have hd := dv_le hS (i := i) (j := j) (u := u) (a := a) (e := e) (r := r e) (by omega) hu
    have hd2 := s_dealt (A := A) (G := G) (fl := fl) (N := N) hN hS hC (show i ≤ j by omega) hj hu ha he (by omega) r1 r2 (fun x y => hn a (e - 1) ha (by omega) (by omega) (by omega))
    have hx2 := hx
    unfold EV at hx2
    rw [f_X7_findDeals_L74, show (1 : Int32) = nI 1 from rfl, nI_add, if_neg (fun q => by have := (nI_ltI (by omega) (by omega)).mp q; omega), ck_44, sb, hd2, b2s, mnF]
    by_cases hl : dv P C s i j u a e (r e) < x
    · rw [if_neg (Int32.not_le.mpr ((lg_lt (by omega) (by omega)).mpr hl)), f_X7_findDeals_K110, nI_1, ih (e + 1) m _ (by omega) (by omega) (by omega) (by omega), Nat.min_eq_right (by omega)]
    · rw [if_pos (Int32.not_lt.mp (fun q => hl ((lg_lt (by omega) (by omega)).mp q))), f_X7_findDeals_K110, nI_1, ih (e + 1) m _ (by omega) (by omega) (by omega) hx, Nat.min_eq_left (by omega)]
theorem s_fd57 (hN : 100 < N) (hS : Sml P C s t) (hC : NdC A G P C s t) {i j u : Nat} (hij : i < j) (hj : j < t) (hu : u < s) (k50 : Nat → Int32 → Int32 → Int32 → A_M → Option A_M) : ∀ (d a m : Nat) (B : Nat → Nat → Int64), a + d = j + 2 → i ≤ a → d < m → (∀ e, i ≤ e → e ≤ j + 1 → B 61 (30 * (u + 1) + e) = lN (rD P C s (nd P C s) i j (s - (u + 1)) e)) → NsM B P C s i j →
    ∃ B', f_X7_findDeals_L57 N k50 m 44 (nI i) (nI j) (nI u) (nI a) (mem A B G fl) = k50 44 (nI i) (nI j) (nI u + (-1)) (mem A B' G fl) ∧ (∀ k, k ≠ 61 → B' k = B k) ∧ (∀ e, a ≤ e → e ≤ j + 1 → B' 61 (30 * u + e) = lN (rD P C s (nd P C s) i j (s - u) e)) ∧ (∀ x, (x < 30 * u + a ∨ 30 * u + j + 1 < x) → B' 61 x = B 61 x) := by
  have h24 := hS.2.1
  have h4 := hS.1
  intro d
  induction d with
  | zero =>
    intro a m B h ha hm hr hn
    obtain ⟨m, rfl⟩ : ∃ j, m = j + 1 := ⟨m - 1, by omega⟩
    refine ⟨B, ?_, fun _ _ => rfl, fun e h1 h2 => by omega, fun _ _ => rfl⟩
    rw [f_X7_findDeals_L57, show (1 : Int32) = nI 1 from rfl, nI_add, if_pos (nI_lt (by omega) (by omega)), f_X7_findDeals_K138]
    rfl
  | succ d ih =>
    intro a m B h ha hm hr hn
    obtain ⟨m, rfl⟩ : ∃ j, m = j + 1 := ⟨m - 1, by omega⟩
    have hmn : mnF (fun e => dv P C s i j u a e (rD P C s (nd P C s) i j (s - (u + 1)) e)) (j + 2 - a) a EV = rD P C s (nd P C s) i j (s - u) a := by
      rw [show s - u = (s - (u + 1)) + 1 by omega, rD, show s - 1 - (s - (u + 1)) = u by omega]
      rfl
    have e0 := s_fd74 (B := B) (A := A) (G := G) (fl := fl) (N := N) hN hS hC hij hj hu ha (show a ≤ j + 1 by omega) (r := fun e => rD P C s (nd P C s) i j (s - (u + 1)) e) (fun e h1 h2 => ⟨hr e (by omega) h2, rD_le _ _ _ _⟩) hn k50 (f_X7_findDeals_L57 N k50 m) (j + 2 - a) a N EV (by omega) (Nat.le_refl _) (by omega) (Nat.le_refl _)
    rw [hmn] at e0
    generalize hB1 : upA B 61 (vp_updL (B 61) (30 * u + a) (lN (rD P C s (nd P C s) i j (s - u) a))) = B1
    have q0 : ∀ k, k ≠ 61 → B1 k = B k := fun k hk => by rw [← hB1, upA_ne _ _ _ hk]
    have q1 : B1 61 = vp_updL (B 61) (30 * u + a) (lN (rD P C s (nd P C s) i j (s - u) a)) := by rw [← hB1, upA_same]
    obtain ⟨B', e1, e2, e3, e4⟩ := ih (a + 1) m B1 (by omega) (by omega) (by omega) (fun e h1 h2 => by rw [q1, vpL_ne _ _ _ (by omega)]; exact hr e h1 h2) (fun x y g1 g2 g3 g4 => by rw [q0 60 (by omega)]; exact hn x y g1 g2 g3 g4)
    refine ⟨B', ?_, fun k hk => (e2 k hk).trans (q0 k hk), fun e h1 h2 => ?_, fun x hx => ?_⟩
    · rw [f_X7_findDeals_L57, show (1 : Int32) = nI 1 from rfl, nI_add, if_neg (fun q => by have := (nI_ltI (by omega) (by omega)).mp q; omega), show (1152921504606846976 : Int64) = lN EV from rfl, e0, f_X7_findDeals_K118, gx_44_28, sb, show (30 : Int32) = nI 30 from rfl, pk_mul, nI_add, stJ_n (ly61 fl) (by omega) (by decide), sb, hB1, nI_1, e1]
      rfl
    · by_cases he : e = a
      · subst he; rw [e4 _ (by omega), q1, vpL_eq]
      · exact e3 e (by omega) h2
    · rw [e4 x (by omega), q1, vpL_ne _ _ _ (by omega)]
theorem s_fd50 (hN : 100 < N) (hS : Sml P C s t) (hC : NdC A G P C s t) {i j : Nat} (hij : i < j) (hj : j < t) : ∀ (u m : Nat) (B : Nat → Nat → Int64), u ≤ s → u < m → (∀ v, u ≤ v → v ≤ s → ∀ e, i ≤ e → e ≤ j + 1 → B 61 (30 * v + e) = lN (rD P C s (nd P C s) i j (s - v) e)) → NsM B P C s i j →
    ∃ B', f_X7_findDeals_L50 N m 44 (nI i) (nI j) (nI u - 1) (mem A B G fl) = some (mem A B' G fl) ∧ (∀ k, k ≠ 61 → B' k = B k) ∧ (∀ v, v ≤ s → ∀ e, i ≤ e → e ≤ j + 1 → B' 61 (30 * v + e) = lN (rD P C s (nd P C s) i j (s - v) e)) := by
  have h24 := hS.2.1
  have h4 := hS.1
  intro u
  induction u with
  | zero =>
    intro m B hu hm hr hn
    obtain ⟨m, rfl⟩ : ∃ j, m = j + 1 := ⟨m - 1, by omega⟩
    refine ⟨B, ?_, fun _ _ => rfl, fun v hv e h1 h2 => hr v (Nat.zero_le _) hv e h1 h2⟩
    rw [f_X7_findDeals_L50, if_pos (by decide)]
  | succ u ih =>
    intro m B hu hm hr hn
    obtain ⟨m, rfl⟩ : ∃ j, m = j + 1 := ⟨m - 1, by omega⟩
    obtain ⟨B1, e1, e2, e3, e4⟩ := s_fd57 (A := A) (G := G) (fl := fl) (N := N) hN hS hC hij hj (show u < s by omega) (f_X7_findDeals_L50 N m) (j + 2 - i) i N B (by omega) (Nat.le_refl _) (by omega) (fun e h1 h2 => hr (u + 1) (Nat.le_refl _) hu e h1 h2) hn
    obtain ⟨B2, c1', c2, c3⟩ := ih m B1 (by omega) (by omega) (fun v hv hv2 e h1 h2 => by
      by_cases hvu : v = u
      · subst hvu; exact e3 e h1 h2
      · rw [e4 _ (by omega)]; exact hr v (by omega) hv2 e h1 h2) (fun x y g1 g2 g3 g4 => by rw [e2 60 (by omega)]; exact hn x y g1 g2 g3 g4)
    refine ⟨B2, ?_, fun k hk => (c2 k hk).trans (e2 k hk), c3⟩
    rw [show nI u + (-1) = nI u - 1 from (Int32.sub_eq_add_neg _ _).symm] at e1
    rw [show (1 : Int32) = nI 1 from rfl, pk_sub (by omega), show u + 1 - 1 = u by omega, f_X7_findDeals_L50, if_neg (nI_pos (by omega)), e1, c1']
theorem s_fd2 (hN : 100 < N) (hS : Sml P C s t) (hC : NdC A G P C s t) {i j : Nat} (hij : i < j) (hj : j < t) : ∀ (d a m : Nat) (B : Nat → Nat → Int64), a + d = j + 2 → i ≤ a → d < m → (∀ e, i ≤ e → e < a → B 61 (30 * s + e) = lN (rD P C s (nd P C s) i j 0 e)) →
    ∃ B', f_X7_findDeals_L2 N m 44 (nI i) (nI j) (nI a) (mem A B G fl) = f_X7_findDeals_L50 N N 44 (nI i) (nI j) (nI s - 1) (mem A B' G fl) ∧ (∀ k, k ≠ 61 → B' k = B k) ∧ (∀ e, i ≤ e → e ≤ j + 1 → B' 61 (30 * s + e) = lN (rD P C s (nd P C s) i j 0 e)) := by
  have h24 := hS.2.1
  have h4 := hS.1
  intro d
  induction d with
  | zero =>
    intro a m B h ha hm hr
    obtain ⟨m, rfl⟩ : ∃ j, m = j + 1 := ⟨m - 1, by omega⟩
    refine ⟨B, ?_, fun _ _ => rfl, fun e h1 h2 => hr e h1 (by omega)⟩
    rw [f_X7_findDeals_L2, show (1 : Int32) = nI 1 from rfl, nI_add, if_pos (nI_lt (by omega) (by omega)), f_X7_findDeals_K43, gx_44_1, sb, hC.1]
    rfl
  | succ d ih =>
    intro a m B h ha hm hr
    obtain ⟨m, rfl⟩ : ∃ j, m = j + 1 := ⟨m - 1, by omega⟩
    generalize hB1 : upA B 61 (vp_updL (B 61) (30 * s + a) (lN (rD P C s (nd P C s) i j 0 a))) = B1
    have q0 : ∀ k, k ≠ 61 → B1 k = B k := fun k hk => by rw [← hB1, upA_ne _ _ _ hk]
    have q1 : B1 61 = vp_updL (B 61) (30 * s + a) (lN (rD P C s (nd P C s) i j 0 a)) := by rw [← hB1, upA_same]
    obtain ⟨B', e1, e2, e3⟩ := ih (a + 1) m B1 (by omega) (by omega) (by omega) (fun e h1 h2 => by
      rw [q1]
      by_cases he : e = a
      · subst he; rw [vpL_eq]
      · rw [vpL_ne _ _ _ (by omega)]; exact hr e h1 (by omega))
    refine ⟨B', ?_, fun k hk => (e2 k hk).trans (q0 k hk), e3⟩
    have hK : ∀ x : Int64, x = lN (rD P C s (nd P C s) i j 0 a) → f_X7_findDeals_K36 N (f_X7_findDeals_L2 N m) 44 (nI i) (nI j) (nI a) x (nI 30 * nI s + nI a) 61 (mem A B G fl) = f_X7_findDeals_L50 N N 44 (nI i) (nI j) (nI s - 1) (mem A B' G fl) := by
      intro x hx
      rw [f_X7_findDeals_K36, pk_mul, nI_add, hx, stJ_n (ly61 fl) (by omega) (by decide), sb, hB1, nI_1, e1]
    rw [f_X7_findDeals_L2, show (1 : Int32) = nI 1 from rfl, nI_add, if_neg (fun q => by have := (nI_ltI (by omega) (by omega)).mp q; omega), gx_44_28, sb, gx_44_1, sb, hC.1]
    by_cases he : a = j + 1
    · rw [if_pos (by rw [he])]
      exact hK 0 (by rw [rD, if_pos he]; rfl)
    · rw [if_neg (fun q => he ((nI_eq (by omega) (by omega)).mp q))]
      exact hK _ (by rw [rD, if_neg he]; rfl)
theorem s_findDeals (hN : 100 < N) (hS : Sml P C s t) (hC : NdC A G P C s t) {i j : Nat} (hij : i < j) (hj : j < t) (B : Nat → Nat → Int64) (hn : NsM B P C s i j) :
    ∃ B', f_X7_findDeals N 44 (nI i) (nI j) (mem A B G fl) = some (mem A B' G fl) ∧ (∀ k, k ≠ 61 → B' k = B k) ∧ (∀ v, v ≤ s → ∀ e, i ≤ e → e ≤ j + 1 → B' 61 (30 * v + e) = lN (rD P C s (nd P C s) i j (s - v) e)) := by
  have h24 := hS.2.1
  have h4 := hS.1
  obtain ⟨B1, e1, e2, e3⟩ := s_fd2 (A := A) (G := G) (fl := fl) (N := N) hN hS hC hij hj (j + 2 - i) i N B (by omega) (Nat.le_refl _) (by omega) (fun e h1 h2 => by omega)
  obtain ⟨B2, c1', c2, c3⟩ := s_fd50 (A := A) (G := G) (fl := fl) (N := N) hN hS hC hij hj s N B1 (Nat.le_refl _) (by omega) (fun v h1 h2 e g1 g2 => by
    have : v = s := by omega
    subst this
    rw [Nat.sub_self]
    exact e3 e g1 g2) (fun x y g1 g2 g3 g4 => by rw [e2 60 (by omega)]; exact hn x y g1 g2 g3 g4)
  refine ⟨B2, ?_, fun k hk => (c2 k hk).trans (e2 k hk), c3⟩
  unfold f_X7_findDeals
  rw [e1, c1']
theorem s_fn12 (hN : 100 < N) (hS : Sml P C s t) (hC : NdC A G P C s t) (k2 : Nat → Int32 → A_M → Option A_M) {w : Nat} (hw : 2 ≤ w) (hwt : w ≤ t) : ∀ (d i m : Nat) (B : Nat → Nat → Int64), i + d = t - w + 1 → d < m → (∀ a b, a < b → b < t → (b - a + 1 < w ∨ (b - a + 1 = w ∧ a < i)) → B 60 (24 * a + b) = lN (nd P C s a b)) →
    ∃ B', f_X7_findNodes_L12 N k2 m 44 (nI w) (nI i) (mem A B G fl) = k2 44 (nI (w + 1)) (mem A B' G fl) ∧ (∀ k, k ≠ 60 → k ≠ 61 → B' k = B k) ∧ (∀ a b, a < b → b < t → b - a + 1 < w + 1 → B' 60 (24 * a + b) = lN (nd P C s a b)) := by
  have h24 := hS.2.1
  have h4 := hS.1
  intro d
  induction d with
  | zero =>
    intro i m B h hm hB
    obtain ⟨m, rfl⟩ : ∃ j, m = j + 1 := ⟨m - 1, by omega⟩
    refine ⟨B, ?_, fun _ _ _ => rfl, fun a b g1 g2 g3 => hB a b g1 g2 (by omega)⟩
    rw [f_X7_findNodes_L12, gx_44_3, sb, hC.2.1, nI_add, if_pos (nI_lt (by omega) (by omega)), f_X7_findNodes_K59, nI_1]
  | succ d ih =>
    intro i m B h hm hB
    obtain ⟨m, rfl⟩ : ∃ j, m = j + 1 := ⟨m - 1, by omega⟩
    obtain ⟨B1, e1, e2, e3⟩ := s_findDeals (A := A) (G := G) (fl := fl) (N := N) hN hS hC (show i < i + w - 1 by omega) (show i + w - 1 < t by omega) B (fun a b g1 g2 g3 g4 => hB a b g2 (by omega) (by omega))
    have h0 := e3 0 (Nat.zero_le _) i (Nat.le_refl _) (by omega)
    rw [Nat.sub_zero, ← nd_eq (by omega), show 30 * 0 + i = i by omega] at h0
    generalize hB2 : upA B1 60 (vp_updL (B1 60) (24 * i + (i + w - 1)) (lN (nd P C s i (i + w - 1)))) = B2
    have q0 : ∀ k, k ≠ 60 → B2 k = B1 k := fun k hk => by rw [← hB2, upA_ne _ _ _ hk]
    have q1 : B2 60 = vp_updL (B 60) (24 * i + (i + w - 1)) (lN (nd P C s i (i + w - 1))) := by rw [← hB2, upA_same, e2 60 (by omega)]
    obtain ⟨B3, c1', c2, c3⟩ := ih (i + 1) m B2 (by omega) (by omega) (fun a b g1 g2 g3 => by
      rw [q1]
      by_cases q : a = i ∧ b = i + w - 1
      · obtain ⟨rfl, rfl⟩ := q; rw [vpL_eq]
      · rw [vpL_ne _ _ _ (by omega)]; exact hB a b g1 g2 (by omega))
    refine ⟨B3, ?_, fun k h1 h2 => by rw [c2 k h1 h2, q0 k h1, e2 k h2], c3⟩
    rw [f_X7_findNodes_L12, gx_44_3, sb, hC.2.1, nI_add, if_neg (fun q => by have := (nI_ltI (by omega) (by omega)).mp q; omega), ck_44, sb, show (1 : Int32) = nI 1 from rfl, pk_sub (by omega), e1, sb, gx_44_27, sb, gx_44_28, sb, ldJ_n (ly61 fl) (by omega) (by decide), sb, h0, show (24 : Int32) = nI 24 from rfl, pk_mul, nI_add, nI_add, pk_sub (by omega), show 24 * i + i + w - 1 = 24 * i + (i + w - 1) by omega, stJ_n (ly60 fl) (by omega) (by decide), sb, hB2, nI_add, c1']
theorem s_fn2 (hN : 100 < N) (hS : Sml P C s t) (hC : NdC A G P C s t) : ∀ (d w m : Nat) (B : Nat → Nat → Int64), w + d = max 2 (t + 1) → 2 ≤ w → d < m → (∀ a b, a < b → b < t → b - a + 1 < w → B 60 (24 * a + b) = lN (nd P C s a b)) →
    ∃ B', f_X7_findNodes_L2 N m 44 (nI w) (mem A B G fl) = some (mem A B' G fl) ∧ (∀ k, k ≠ 60 → k ≠ 61 → B' k = B k) ∧ (∀ a b, a < b → b < t → B' 60 (24 * a + b) = lN (nd P C s a b)) := by
  have h24 := hS.2.1
  intro d
  induction d with
  | zero =>
    intro w m B h hw hm hB
    obtain ⟨m, rfl⟩ : ∃ j, m = j + 1 := ⟨m - 1, by omega⟩
    refine ⟨B, ?_, fun _ _ _ => rfl, fun a b g1 g2 => hB a b g1 g2 (by omega)⟩
    rw [f_X7_findNodes_L2, gx_44_3, sb, hC.2.1, if_pos (nI_lt (by omega) (by omega))]
  | succ d ih =>
    intro w m B h hw hm hB
    obtain ⟨m, rfl⟩ : ∃ j, m = j + 1 := ⟨m - 1, by omega⟩
    obtain ⟨B1, e1, e2, e3⟩ := s_fn12 (A := A) (G := G) (fl := fl) (N := N) hN hS hC (f_X7_findNodes_L2 N m) hw (show w ≤ t by omega) (t - w + 1) 0 N B (by omega) (by omega) (fun a b g1 g2 g3 => hB a b g1 g2 (by omega))
    obtain ⟨B2, c1', c2, c3⟩ := ih (w + 1) m B1 (by omega) (by omega) (by omega) e3
    refine ⟨B2, ?_, fun k h1 h2 => by rw [c2 k h1 h2, e2 k h1 h2], c3⟩
    rw [f_X7_findNodes_L2, gx_44_3, sb, hC.2.1, if_neg (fun q => by have := (nI_ltI (by omega) (by omega)).mp q; omega), show (0 : Int32) = nI 0 from rfl, e1, c1']
theorem s_findNodes (hN : 100 < N) (hS : Sml P C s t) (hC : NdC A G P C s t) (B : Nat → Nat → Int64) :
    ∃ B', f_X7_findNodes N 44 (mem A B G fl) = some (mem A B' G fl) ∧ (∀ k, k ≠ 60 → k ≠ 61 → B' k = B k) ∧ (∀ a b, a < b → b < t → B' 60 (24 * a + b) = lN (nd P C s a b)) := by
  have h24 := hS.2.1
  unfold f_X7_findNodes
  exact s_fn2 (A := A) (G := G) (fl := fl) (N := N) hN hS hC (max 2 (t + 1) - 2) 2 N B (by omega) (Nat.le_refl _) (by omega) (fun a b g1 g2 g3 => by omega)
end No
