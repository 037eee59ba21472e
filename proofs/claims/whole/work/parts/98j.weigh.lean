/-! FREE: the reference marks and weighs -/
section Wg
variable {b1 b2 b3 : Nat} {lc : Nat → Nat} {un D al t : Nat} {fl : Nat → Bool} {N : Nat} {G : Nat → Nat → Int32}
/-- only marks of one level are added -/
def RMo (al p : Nat) (A A' : Nat → Nat → Int32) : Prop := (∀ k, k ≠ 52 → A' k = A k) ∧ (∀ j, lvJ al j ≠ p + 1 → A' 52 j = A 52 j) ∧ ∀ j, A 52 j ≠ 0 → A' 52 j ≠ 0
theorem RMo.refl (p : Nat) (A : Nat → Nat → Int32) : RMo al p A A := ⟨fun _ _ => rfl, fun _ _ => rfl, fun _ h => h⟩
theorem RMo.trans {p : Nat} {A A' A2 : Nat → Nat → Int32} (h : RMo al p A A') (g : RMo al p A' A2) : RMo al p A A2 := ⟨fun k hk => (g.1 k hk).trans (h.1 k hk), fun j hj => (g.2.1 j hj).trans (h.2.1 j hj), fun j hj => g.2.2 j (h.2.2 j hj)⟩
/-- all that is behind is marked -/
def CloF (b1 b2 b3 D al t : Nat) (A : Nat → Nat → Int32) (p a b c x : Nat) : Prop := ∀ k m, k ≤ mwF p a (t - x) → k < t - x → m ≤ mmF D p a (t - x) k → smF b1 b2 b3 b c (t - x) k m ≠ 0 → A 52 (tgF b1 b2 b3 al t p b c x k m) ≠ 0
theorem mw_le {p a R : Nat} : mwF p a R ≤ a ∧ mwF p a R ≤ R := by
  unfold mwF
  split <;> omega
theorem mm_le {p a R k : Nat} : mmF D p a R k ≤ a := by
  unfold mmF
  split <;> omega
theorem VT.le {a b c x : Nat} (h : VT al t a b c x) : a ≤ 24 := by
  by_cases q : al = 1
  · exact (h.2.1 q).1
  · have := h.2.2 q; omega
theorem nar1 : vp_nar .boolean (1 : Int32) = 1 := by decide
theorem s_rf64 {B : Nat → Nat → Int64} (hH : RfH b1 b2 b3 lc un D al t) {p a b c x k mm mw : Nat} (hv : VT al t a b c x) (hp : p < D) (hk : k < t - x) (hmm : mm ≤ 24) (k28 : Nat → Int32 → Int32 → Int32 → Int32 → Int32 → Int32 → Int32 → Int32 → A_M → Option A_M) : ∀ (d m n : Nat) (A : Nat → Nat → Int32), m + d = mm + 1 → d < n → RfC b1 b2 b3 lc un D al t A B G →
    ∃ A', f_X7_reachFrom_L64 N k28 n 44 (nI p) (nI a) (nI b) (nI c) (nI x) (nI (t - x)) (nI mw) (nI k) (nI mm) (nI m) (mem A B G fl) = k28 44 (nI p) (nI a) (nI b) (nI c) (nI x) (nI (t - x)) (nI mw) (nI (k + 1)) (mem A' B G fl) ∧ RMo al p A A' ∧ ∀ m', m ≤ m' → m' ≤ mm → smF b1 b2 b3 b c (t - x) k m' ≠ 0 → A' 52 (tgF b1 b2 b3 al t p b c x k m') ≠ 0 := by
  have ht : t ≤ 24 := hH.1.2.2.2.2.2.2
  have hD : D ≤ 31 := hH.1.2.2.2.2.2.1
  intro d
  induction d with
  | zero =>
    intro m n A h hn hC
    obtain ⟨n, rfl⟩ : ∃ j, n = j + 1 := ⟨n - 1, by omega⟩
    refine ⟨A, ?_, RMo.refl p A, fun m' q1 q2 => by omega⟩
    rw [f_X7_reachFrom_L64, if_pos (nI_lt (by omega) (by omega)), f_X7_reachFrom_K122, nI_1]
  | succ d ih =>
    intro m n A h hn hC
    obtain ⟨n, rfl⟩ : ∃ j, n = j + 1 := ⟨n - 1, by omega⟩
    have hb := s_bhM (fl := fl) (N := N) (p := p) hH hC hv (show k ≤ t - x by omega) (show m ≤ 24 by omega)
    rw [f_X7_reachFrom_L64, if_neg (nI_nlt (by omega) (by omega)), if_neg (nI_ge hk (by omega)), gx_44_16, sb, hC.2.2.2.1, if_neg (nI_ge hp (by omega)), ck_44, sb, hb, b2s]
    by_cases hz : smF b1 b2 b3 b c (t - x) k m = 0
    · obtain ⟨A', e1, e2, e3⟩ := ih (m + 1) n A (by omega) (by omega) hC
      refine ⟨A', ?_, e2, fun m' q1 q2 q3 => e3 m' (by
        rcases Nat.lt_or_ge m m' with r | r
        · omega
        · rw [show m' = m by omega] at q3; exact absurd hz q3) q2 q3⟩
      rw [if_pos hz, if_pos (by decide), f_X7_reachFrom_K116, nI_1, e1]
    · have htl := (hv.next (m := m) hH hk).lt (p := p + 1) ht hH.2.2.2.1 (fun q => by have := hH.2.2.1 q; omega) (by omega)
      have hlv := (hv.next (m := m) hH hk).lv (p := p + 1) ht hH.2.2.2.1
      generalize hA1 : upA A 52 (upd (A 52) (tgF b1 b2 b3 al t p b c x k m) 1) = A1
      have a0 : ∀ j, j ≠ 52 → A1 j = A j := fun j hj => by rw [← hA1, upA_ne _ _ _ hj]
      have a52 : A1 52 = upd (A 52) (tgF b1 b2 b3 al t p b c x k m) 1 := by rw [← hA1, upA_same]
      have hM1 : RMo al p A A1 := by
        refine ⟨a0, fun j hj => ?_, fun j hj => ?_⟩
        · rw [a52, upd_ne]
          intro q
          rw [q] at hj
          exact hj hlv
        · rw [a52]
          by_cases q : j = tgF b1 b2 b3 al t p b c x k m
          · rw [q, upd_eq]; decide
          · rw [upd_ne _ _ _ q]; exact hj
      obtain ⟨A', e1, e2, e3⟩ := ih (m + 1) n A1 (by omega) (by omega) (hC.fr (a0 54 (by omega)) rfl rfl rfl rfl rfl)
      refine ⟨A', ?_, hM1.trans e2, fun m' q1 q2 q3 => ?_⟩
      · rw [if_neg hz, if_neg (nI_pos (by have := htl.1; unfold tgF; omega)), gx_44_12, sb, stZ_n (ly52 fl) (by unfold tgF; exact htl.1) (by decide), sb, nar1, hA1, f_X7_reachFrom_K116, nI_1, e1]
      · rcases Nat.lt_or_ge m m' with r | r
        · exact e3 m' (by omega) q2 q3
        · rw [show m' = m by omega]
          refine e2.2.2 _ ?_
          rw [a52, upd_eq]
          decide
theorem s_rf28 {B : Nat → Nat → Int64} (hN : 100 < N) (hH : RfH b1 b2 b3 lc un D al t) {p a b c x mw : Nat} (hv : VT al t a b c x) (hp : p < D) (hmw : mw ≤ a ∧ mw ≤ t - x) : ∀ (d k n : Nat) (A : Nat → Nat → Int32), k + d = mw + 1 → d < n → RfC b1 b2 b3 lc un D al t A B G →
    ∃ A', f_X7_reachFrom_L28 N n 44 (nI p) (nI a) (nI b) (nI c) (nI x) (nI (t - x)) (nI mw) (nI k) (mem A B G fl) = some (mem A' B G fl) ∧ RMo al p A A' ∧ ∀ k' m, k ≤ k' → k' ≤ mw → k' < t - x → m ≤ mmF D p a (t - x) k' → smF b1 b2 b3 b c (t - x) k' m ≠ 0 → A' 52 (tgF b1 b2 b3 al t p b c x k' m) ≠ 0 := by
  have ht : t ≤ 24 := hH.1.2.2.2.2.2.2
  have hD : D ≤ 31 := hH.1.2.2.2.2.2.1
  have ha := hv.le
  intro d
  induction d with
  | zero =>
    intro k n A h hn hC
    obtain ⟨n, rfl⟩ : ∃ j, n = j + 1 := ⟨n - 1, by omega⟩
    refine ⟨A, ?_, RMo.refl p A, fun k' m q1 q2 => by omega⟩
    rw [f_X7_reachFrom_L28, if_pos (nI_lt (by omega) (by omega))]
  | succ d ih =>
    intro k n A h hn hC
    obtain ⟨n, rfl⟩ : ∃ j, n = j + 1 := ⟨n - 1, by omega⟩
    have hmmv : mmF D p a (t - x) k = min (a - k) (t - x - k) := by unfold mmF; rw [if_neg (by omega)]
    rw [f_X7_reachFrom_L28, if_neg (nI_nlt (by omega) (by omega)), gx_44_16, sb, hC.2.2.2.1, if_neg (fun q => by have := (nI_eq (by omega) (by omega)).mp q; omega), pk_sub (by omega), pk_sub (by omega), least_n (by omega) (by omega), b2s, f_X7_reachFrom_K59, ← hmmv, show (0 : Int32) = nI 0 from rfl]
    have hmm := mm_le (D := D) (p := p) (a := a) (R := t - x) (k := k)
    by_cases hk : k < t - x
    · obtain ⟨A1, e1, e2, e3⟩ := s_rf64 (fl := fl) (N := N) (B := B) (G := G) (mw := mw) hH hv hp hk (show mmF D p a (t - x) k ≤ 24 by omega) (f_X7_reachFrom_L28 N n) (mmF D p a (t - x) k + 1) 0 N A (by omega) (by omega) hC
      obtain ⟨A2, g1, g2, g3⟩ := ih (k + 1) n A1 (by omega) (by omega) (hC.fr (e2.1 54 (by omega)) rfl rfl rfl rfl rfl)
      refine ⟨A2, by rw [e1, g1], e2.trans g2, fun k' m q1 q2 q3 q4 q5 => ?_⟩
      rcases Nat.lt_or_ge k k' with r | r
      · exact g3 k' m (by omega) q2 q3 q4 q5
      · have hkk : k' = k := by omega
        subst hkk
        exact g2.2.2 _ (e3 m (Nat.zero_le _) q4 q5)
    · obtain ⟨N', hN'⟩ : ∃ j, N = j + 1 := ⟨N - 1, by omega⟩
      have hst : ∀ n', f_X7_reachFrom_L64 N (f_X7_reachFrom_L28 N n) (n' + 1) 44 (nI p) (nI a) (nI b) (nI c) (nI x) (nI (t - x)) (nI mw) (nI k) (nI (mmF D p a (t - x) k)) (nI 0) (mem A B G fl) = f_X7_reachFrom_L28 N n 44 (nI p) (nI a) (nI b) (nI c) (nI x) (nI (t - x)) (nI mw) (nI (k + 1)) (mem A B G fl) := fun n' => by
        rw [f_X7_reachFrom_L64, if_neg (nI_nlt (Nat.zero_le _) (by omega)), if_pos (nI_le (by omega) (by omega)), f_X7_reachFrom_K122, nI_1]
      have hst2 := hst N'
      rw [← hN'] at hst2
      obtain ⟨A2, g1, g2, g3⟩ := ih (k + 1) n A (by omega) (by omega) hC
      refine ⟨A2, by rw [hst2, g1], g2, fun k' m q1 q2 q3 q4 q5 => g3 k' m (by omega) q2 q3 q4 q5⟩
theorem s_reachF {B : Nat → Nat → Int64} (hN : 100 < N) (hH : RfH b1 b2 b3 lc un D al t) {p a b c x : Nat} (hv : VT al t a b c x) (hp : p < D) (A : Nat → Nat → Int32) (hC : RfC b1 b2 b3 lc un D al t A B G) :
    ∃ A', f_X7_reachFrom N 44 (nI p) (nI a) (nI b) (nI c) (nI x) (mem A B G fl) = some (mem A' B G fl) ∧ RMo al p A A' ∧ CloF b1 b2 b3 D al t A' p a b c x := by
  have ht : t ≤ 24 := hH.1.2.2.2.2.2.2
  have hD : D ≤ 31 := hH.1.2.2.2.2.2.1
  have ha := hv.le
  have hx := hv.1
  have hmw := mw_le (p := p) (a := a) (R := t - x)
  obtain ⟨A', e1, e2, e3⟩ := s_rf28 (fl := fl) (N := N) (B := B) (G := G) hN hH hv hp hmw (mwF p a (t - x) + 1) 0 N A (by omega) (by omega) hC
  refine ⟨A', ?_, e2, fun k m q1 q2 q3 q4 => e3 k m (Nat.zero_le _) q1 q2 q3 q4⟩
  unfold f_X7_reachFrom f_X7_reachFrom_K23
  rw [gx_44_3, sb, hC.1, pk_sub (by omega)]
  by_cases h0 : p = 0
  · subst h0
    rw [if_pos (show (nI 0 : Int32) = 0 from rfl)]
    exact e1
  · rw [if_neg (nI_ne0 (by omega) (by omega)), least_n (by omega) (by omega), b2s]
    unfold mwF at e1
    rw [if_neg h0] at e1
    exact e1
theorem s_wg69 {A : Nat → Nat → Int32} {B : Nat → Nat → Int64} (hH : RfH b1 b2 b3 lc un D al t) (hC : RfC b1 b2 b3 lc un D al t A B G) {p a b c x k mm mw : Nat} (hv : VT al t a b c x) (hp : p ≤ D) (hk : k ≤ t - x) (hmm : mm ≤ 24) (hB : ∀ m, m ≤ mm → BsF b1 b2 b3 lc un D al t B p b c x k m) (k33 : Nat → Int32 → Int32 → Int32 → Int32 → Int32 → Int32 → Int64 → Int32 → Int32 → A_M → Option A_M) : ∀ (d m n y : Nat), m + d = mm + 1 → d < n → y ≤ EV →
    f_X7_weigh_L69 N k33 n 44 (nI p) (nI a) (nI b) (nI c) (nI x) (nI (t - x)) (lN y) (nI mw) (nI k) (nI mm) (nI m) (mem A B G fl) = k33 44 (nI p) (nI a) (nI b) (nI c) (nI x) (nI (t - x)) (lN (mnF (fun m => cvF b1 b2 b3 lc un D p b c (t - x) k m) d m y)) (nI mw) (nI (k + 1)) (mem A B G fl) := by
  have ht : t ≤ 24 := hH.1.2.2.2.2.2.2
  have hD : D ≤ 31 := hH.1.2.2.2.2.2.1
  intro d
  induction d with
  | zero =>
    intro m n y h hn hy
    obtain ⟨n, rfl⟩ : ∃ j, n = j + 1 := ⟨n - 1, by omega⟩
    rw [f_X7_weigh_L69, if_pos (nI_lt (by omega) (by omega)), f_X7_weigh_K116, nI_1, mnF]
  | succ d ih =>
    intro m n y h hn hy
    obtain ⟨n, rfl⟩ : ∃ j, n = j + 1 := ⟨n - 1, by omega⟩
    have hc := s_costOf (fl := fl) (N := N) hH hC hv hp hk (show m ≤ 24 by omega) (hB m (by omega))
    have hcs := hH.1.cv (b1 := b1) (b2 := b2) (b3 := b3) (p := p) (b := b) (c := c) (R := t - x) (k := k) (m := m) (by omega) (by omega)
    have hce : cvF b1 b2 b3 lc un D p b c (t - x) k m ≤ EV := by
      rcases hcs with q | q
      · omega
      · unfold EV; omega
    rw [f_X7_weigh_L69, if_neg (nI_nlt (by omega) (by omega)), ck_44, sb, hc, b2s, mnF]
    show _ = k33 44 (nI p) (nI a) (nI b) (nI c) (nI x) (nI (t - x)) (lN (mnF (fun m => cvF b1 b2 b3 lc un D p b c (t - x) k m) d (m + 1) (min y (cvF b1 b2 b3 lc un D p b c (t - x) k m)))) (nI mw) (nI (k + 1)) (mem A B G fl)
    unfold EV at hy hce
    by_cases hlt : y ≤ cvF b1 b2 b3 lc un D p b c (t - x) k m
    · rw [if_pos ((lg_ge (by omega) (by omega)).mpr hlt), f_X7_weigh_K108, nI_1, Nat.min_eq_left hlt]
      exact ih (m + 1) n y (by omega) (by omega) hy
    · rw [if_neg (fun q => hlt ((lg_ge (by omega) (by omega)).mp q)), f_X7_weigh_K108, nI_1, Nat.min_eq_right (by omega)]
      exact ih (m + 1) n _ (by omega) (by omega) hce
theorem nT_le {f : Nat → Nat → Nat} {g : Nat → Nat} (d k x : Nat) : nT f g d k x ≤ x := ((le_nT d k x).mp (Nat.le_refl _)).1
theorem mnF_le2 {f : Nat → Nat} (d a x : Nat) : mnF f d a x ≤ x := ((le_mnF d a x).mp (Nat.le_refl _)).1
theorem s_wg33 {A : Nat → Nat → Int32} {B : Nat → Nat → Int64} (hN : 100 < N) (hH : RfH b1 b2 b3 lc un D al t) (hC : RfC b1 b2 b3 lc un D al t A B G) {p a b c x mw : Nat} (hv : VT al t a b c x) (hp : p ≤ D) (hmw : mw ≤ a ∧ mw ≤ t - x) (hB : ∀ k m, k ≤ mw → m ≤ mmF D p a (t - x) k → BsF b1 b2 b3 lc un D al t B p b c x k m) : ∀ (d k n y : Nat), k + d = mw + 1 → d < n → y ≤ EV →
    f_X7_weigh_L33 N n 44 (nI p) (nI a) (nI b) (nI c) (nI x) (nI (t - x)) (lN y) (nI mw) (nI k) (mem A B G fl) = f_X7_weigh_K122 N 44 (nI p) (nI a) (nI b) (nI c) (nI x) (lN (nT (fun k m => cvF b1 b2 b3 lc un D p b c (t - x) k m) (fun k => mmF D p a (t - x) k) d k y)) (mem A B G fl) := by
  have ht : t ≤ 24 := hH.1.2.2.2.2.2.2
  have hD : D ≤ 31 := hH.1.2.2.2.2.2.1
  have ha := hv.le
  intro d
  induction d with
  | zero =>
    intro k n y h hn hy
    obtain ⟨n, rfl⟩ : ∃ j, n = j + 1 := ⟨n - 1, by omega⟩
    rw [f_X7_weigh_L33, if_pos (nI_lt (by omega) (by omega)), nT]
  | succ d ih =>
    intro k n y h hn hy
    obtain ⟨n, rfl⟩ : ∃ j, n = j + 1 := ⟨n - 1, by omega⟩
    have hmm := mm_le (D := D) (p := p) (a := a) (R := t - x) (k := k)
    have h69 := s_wg69 (fl := fl) (N := N) (mw := mw) hH hC hv hp (show k ≤ t - x by omega) (show mmF D p a (t - x) k ≤ 24 by omega) (fun m hm => hB k m (by omega) hm) (f_X7_weigh_L33 N n) (mmF D p a (t - x) k + 1) 0 N y (by omega) (by omega) hy
    have hmn := mnF_le2 (f := fun m => cvF b1 b2 b3 lc un D p b c (t - x) k m) (mmF D p a (t - x) k + 1) 0 y
    have hi := ih (k + 1) n _ (by omega) (by omega) (Nat.le_trans hmn hy)
    rw [f_X7_weigh_L33, if_neg (nI_nlt (by omega) (by omega)), gx_44_16, sb, hC.2.2.2.1, nT, ← hi, ← h69]
    by_cases hpD : p = D
    · rw [if_pos (by rw [hpD])]
      have : mmF D p a (t - x) k = 0 := by unfold mmF; rw [if_pos hpD]
      rw [this]
      rfl
    · rw [if_neg (fun q => hpD ((nI_eq (by omega) (by omega)).mp q)), pk_sub (by omega), pk_sub (by omega), least_n (by omega) (by omega), b2s, f_X7_weigh_K64]
      have : mmF D p a (t - x) k = min (a - k) (t - x - k) := by unfold mmF; rw [if_neg hpD]
      rw [this]
      rfl
theorem s_weighF {A : Nat → Nat → Int32} {B : Nat → Nat → Int64} (hN : 100 < N) (hH : RfH b1 b2 b3 lc un D al t) (hC : RfC b1 b2 b3 lc un D al t A B G) {p a b c x : Nat} (hv : VT al t a b c x) (hp : p ≤ D) (hB : ∀ k m, k ≤ mwF p a (t - x) → m ≤ mmF D p a (t - x) k → BsF b1 b2 b3 lc un D al t B p b c x k m) :
    f_X7_weigh N 44 (nI p) (nI a) (nI b) (nI c) (nI x) (mem A B G fl) = some (mem A (upA B 51 (vp_updL (B 51) (ixF al p a b c x) (lN (bWF b1 b2 b3 lc un D p a b c (t - x))))) G fl) := by
  have ht : t ≤ 24 := hH.1.2.2.2.2.2.2
  have hD : D ≤ 31 := hH.1.2.2.2.2.2.1
  have ha := hv.le
  have hx := hv.1
  have hmw := mw_le (p := p) (a := a) (R := t - x)
  have e1 := s_wg33 (fl := fl) (N := N) hN hH hC hv hp hmw hB (mwF p a (t - x) + 1) 0 N EV (by omega) (by omega) (Nat.le_refl _)
  have hlt := hv.lt (p := p) ht hH.2.2.2.1 (fun q => by have := hH.2.2.1 q; omega) (by omega)
  have hf : f_X7_weigh N 44 (nI p) (nI a) (nI b) (nI c) (nI x) (mem A B G fl) = f_X7_weigh_K122 N 44 (nI p) (nI a) (nI b) (nI c) (nI x) (lN (bWF b1 b2 b3 lc un D p a b c (t - x))) (mem A B G fl) := by
    unfold f_X7_weigh f_X7_weigh_K28
    rw [gx_44_3, sb, hC.1, pk_sub (by omega)]
    by_cases h0 : p = 0
    · subst h0
      rw [if_pos (show (nI 0 : Int32) = 0 from rfl)]
      exact e1
    · rw [if_neg (nI_ne0 (by omega) (by omega)), least_n (by omega) (by omega), b2s]
      unfold bWF
      unfold mwF at e1 ⊢
      rw [if_neg h0] at e1 ⊢
      exact e1
  rw [hf, f_X7_weigh_K122, gx_44_11, sb, ck_44, sb, s_at hH.2.1 hC.2.1, b2s, stJ_n (ly51 fl) hlt.1 (by decide), sb]
end Wg
