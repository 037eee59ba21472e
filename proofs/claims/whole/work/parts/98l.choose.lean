/-! FREE: the reference chooses -/
section Co
variable {b1 b2 b3 : Nat} {lc : Nat → Nat} {un D al t : Nat} {fl : Nat → Bool} {N : Nat} {A : Nat → Nat → Int32} {B : Nat → Nat → Int64} {G : Nat → Nat → Int32}
theorem RfS.cv63 (h : RfS lc un D t) {p b c R k m : Nat} (hp : p ≤ 31) (hR : R ≤ t) : cvF b1 b2 b3 lc un D p b c R k m < 2 ^ 63 := by
  rcases h.cv (b1 := b1) (b2 := b2) (b3 := b3) (p := p) (b := b) (c := c) (R := R) (k := k) (m := m) hp hR with q | q
  · rw [q]; unfold EV; omega
  · omega
theorem bW63 {p a b c R : Nat} : bWF b1 b2 b3 lc un D p a b c R < 2 ^ 63 := by
  have : bWF b1 b2 b3 lc un D p a b c R ≤ EV := nT_le _ _ _
  unfold EV at this
  omega
theorem s_ch59m (hH : RfH b1 b2 b3 lc un D al t) (hC : RfC b1 b2 b3 lc un D al t A B G) {p a b c x k mm : Nat} (hv : VT al t a b c x) (hp : p ≤ D) (hk : k ≤ t - x) (hmm : mm ≤ 24) (hB : ∀ m, m ≤ mm → BsF b1 b2 b3 lc un D al t B p b c x k m) (hW : B 51 (ixF al p a b c x) = lN (bWF b1 b2 b3 lc un D p a b c (t - x))) (k25 : Nat → Int32 → Int32 → Int32 → Int32 → Int32 → Int32 → Int32 → A_M → Option A_M) : ∀ (d m n : Nat), m + d = mm + 1 → d < n → (∀ m', m ≤ m' → m' ≤ mm → cvF b1 b2 b3 lc un D p b c (t - x) k m' ≠ bWF b1 b2 b3 lc un D p a b c (t - x)) →
    f_X7_choose_L59 N k25 n 44 (nI p) (nI a) (nI b) (nI c) (nI x) (nI (t - x)) (nI k) (nI mm) (nI m) (mem A B G fl) = k25 44 (nI p) (nI a) (nI b) (nI c) (nI x) (nI (t - x)) (nI k + (-1)) (mem A B G fl) := by
  have ht : t ≤ 24 := hH.1.2.2.2.2.2.2
  have hD : D ≤ 31 := hH.1.2.2.2.2.2.1
  have hlt := hv.lt (p := p) ht hH.2.2.2.1 (fun q => by have := hH.2.2.1 q; omega) (by omega)
  intro d
  induction d with
  | zero =>
    intro m n h hn hm
    obtain ⟨n, rfl⟩ : ∃ j, n = j + 1 := ⟨n - 1, by omega⟩
    rw [f_X7_choose_L59, if_pos (nI_lt (by omega) (by omega)), f_X7_choose_K120]
  | succ d ih =>
    intro m n h hn hm
    obtain ⟨n, rfl⟩ : ∃ j, n = j + 1 := ⟨n - 1, by omega⟩
    have hc := s_costOf (fl := fl) (N := N) hH hC hv hp hk (show m ≤ 24 by omega) (hB m (by omega))
    rw [f_X7_choose_L59, if_neg (nI_nlt (by omega) (by omega)), ck_44, sb, hc, b2s, gx_44_11, sb, ck_44, sb, s_at hH.2.1 hC.2.1, b2s, ldJ_n (ly51 fl) hlt.1 (by decide), sb, hW, if_neg (fun q => hm m (Nat.le_refl _) (by omega) ((lg_eq (hH.1.cv63 (by omega) (by omega)) bW63).mp q)), nI_1]
    exact ih (m + 1) n (by omega) (by omega) (fun m' q1 q2 => hm m' (by omega) q2)
theorem s_ch59h (hH : RfH b1 b2 b3 lc un D al t) (hC : RfC b1 b2 b3 lc un D al t A B G) {p a b c x k mm ms : Nat} (hv : VT al t a b c x) (hp : p ≤ D) (hk : k ≤ t - x) (hmm : mm ≤ 24) (hms : ms ≤ mm) (hB : ∀ m, m ≤ mm → BsF b1 b2 b3 lc un D al t B p b c x k m) (hW : B 51 (ixF al p a b c x) = lN (bWF b1 b2 b3 lc un D p a b c (t - x))) (he : cvF b1 b2 b3 lc un D p b c (t - x) k ms = bWF b1 b2 b3 lc un D p a b c (t - x)) (k25 : Nat → Int32 → Int32 → Int32 → Int32 → Int32 → Int32 → Int32 → A_M → Option A_M) : ∀ (d m n : Nat), m + d = ms → d < n → (∀ m', m ≤ m' → m' < ms → cvF b1 b2 b3 lc un D p b c (t - x) k m' ≠ bWF b1 b2 b3 lc un D p a b c (t - x)) →
    f_X7_choose_L59 N k25 n 44 (nI p) (nI a) (nI b) (nI c) (nI x) (nI (t - x)) (nI k) (nI mm) (nI m) (mem A B G fl) = some (mem A B (upA G 44 (upd (upd (G 44) 25 (nI k)) 26 (nI ms))) fl) := by
  have ht : t ≤ 24 := hH.1.2.2.2.2.2.2
  have hD : D ≤ 31 := hH.1.2.2.2.2.2.1
  have hlt := hv.lt (p := p) ht hH.2.2.2.1 (fun q => by have := hH.2.2.1 q; omega) (by omega)
  have upAA : ∀ (f g : Nat → Int32), upA (upA G 44 f) 44 g = upA G 44 g := fun f g => by
    funext j
    by_cases q : j = 44
    · rw [q, upA_same, upA_same]
    · rw [upA_ne _ _ _ q, upA_ne _ _ _ q, upA_ne _ _ _ q]
  intro d
  induction d with
  | zero =>
    intro m n h hn hm
    obtain ⟨n, rfl⟩ : ∃ j, n = j + 1 := ⟨n - 1, by omega⟩
    have hmm0 : m = ms := by omega
    subst hmm0
    have hc := s_costOf (fl := fl) (N := N) hH hC hv hp hk (show m ≤ 24 by omega) (hB m (by omega))
    rw [f_X7_choose_L59, if_neg (nI_nlt (by omega) (by omega)), ck_44, sb, hc, b2s, gx_44_11, sb, ck_44, sb, s_at hH.2.1 hC.2.1, b2s, ldJ_n (ly51 fl) hlt.1 (by decide), sb, hW, if_pos ((lg_eq (hH.1.cv63 (by omega) (by omega)) bW63).mpr he), px_44_25, sb, px_44_26, sb, upA_same, upAA]
  | succ d ih =>
    intro m n h hn hm
    obtain ⟨n, rfl⟩ : ∃ j, n = j + 1 := ⟨n - 1, by omega⟩
    have hc := s_costOf (fl := fl) (N := N) hH hC hv hp hk (show m ≤ 24 by omega) (hB m (by omega))
    rw [f_X7_choose_L59, if_neg (nI_nlt (by omega) (by omega)), ck_44, sb, hc, b2s, gx_44_11, sb, ck_44, sb, s_at hH.2.1 hC.2.1, b2s, ldJ_n (ly51 fl) hlt.1 (by decide), sb, hW, if_neg (fun q => hm m (Nat.le_refl _) (by omega) ((lg_eq (hH.1.cv63 (by omega) (by omega)) bW63).mp q)), nI_1]
    exact ih (m + 1) n (by omega) (by omega) (fun m' q1 q2 => hm m' (by omega) q2)
theorem s_ch25 (hN : 100 < N) (hH : RfH b1 b2 b3 lc un D al t) (hC : RfC b1 b2 b3 lc un D al t A B G) {p a b c x ks ms : Nat} (hv : VT al t a b c x) (hp : p ≤ D) (hks : ks ≤ mwF p a (t - x)) (hms : ms ≤ mmF D p a (t - x) ks) (hB : ∀ k m, k ≤ mwF p a (t - x) → m ≤ mmF D p a (t - x) k → BsF b1 b2 b3 lc un D al t B p b c x k m) (hW : B 51 (ixF al p a b c x) = lN (bWF b1 b2 b3 lc un D p a b c (t - x))) (he : cvF b1 b2 b3 lc un D p b c (t - x) ks ms = bWF b1 b2 b3 lc un D p a b c (t - x)) (hn1 : ∀ m, m < ms → cvF b1 b2 b3 lc un D p b c (t - x) ks m ≠ bWF b1 b2 b3 lc un D p a b c (t - x)) (hn2 : ∀ k m, ks < k → k ≤ mwF p a (t - x) → m ≤ mmF D p a (t - x) k → cvF b1 b2 b3 lc un D p b c (t - x) k m ≠ bWF b1 b2 b3 lc un D p a b c (t - x)) : ∀ (d k n : Nat), k = ks + d → d < n → k ≤ mwF p a (t - x) →
    f_X7_choose_L25 N n 44 (nI p) (nI a) (nI b) (nI c) (nI x) (nI (t - x)) (nI k) (mem A B G fl) = some (mem A B (upA G 44 (upd (upd (G 44) 25 (nI ks)) 26 (nI ms))) fl) := by
  have ht : t ≤ 24 := hH.1.2.2.2.2.2.2
  have hD : D ≤ 31 := hH.1.2.2.2.2.2.1
  have ha := hv.le
  have hmw := mw_le (p := p) (a := a) (R := t - x)
  have pre : ∀ k n, k ≤ mwF p a (t - x) → f_X7_choose_L25 N (n + 1) 44 (nI p) (nI a) (nI b) (nI c) (nI x) (nI (t - x)) (nI k) (mem A B G fl) = f_X7_choose_L59 N (f_X7_choose_L25 N n) N 44 (nI p) (nI a) (nI b) (nI c) (nI x) (nI (t - x)) (nI k) (nI (mmF D p a (t - x) k)) (nI 0) (mem A B G fl) := by
    intro k n hk
    rw [f_X7_choose_L25, if_neg (nI_pos (by omega)), gx_44_16, sb, hC.2.2.2.1]
    by_cases hpD : p = D
    · rw [if_pos (by rw [hpD]), f_X7_choose_K54]
      have : mmF D p a (t - x) k = 0 := by unfold mmF; rw [if_pos hpD]
      rw [this]
      rfl
    · rw [if_neg (fun q => hpD ((nI_eq (by omega) (by omega)).mp q)), pk_sub (by omega), pk_sub (by omega), least_n (by omega) (by omega), b2s, f_X7_choose_K54]
      have : mmF D p a (t - x) k = min (a - k) (t - x - k) := by unfold mmF; rw [if_neg hpD]
      rw [this]
      rfl
  intro d
  induction d with
  | zero =>
    intro k n h hn hk
    obtain ⟨n, rfl⟩ : ∃ j, n = j + 1 := ⟨n - 1, by omega⟩
    have hkk : k = ks := by omega
    subst hkk
    have hmm := mm_le (D := D) (p := p) (a := a) (R := t - x) (k := k)
    rw [pre k n hk]
    exact s_ch59h hH hC hv hp (by omega) (by omega) hms (fun m hm => hB k m hk hm) hW he _ ms 0 N (by omega) (by omega) (fun m' _ q => hn1 m' q)
  | succ d ih =>
    intro k n h hn hk
    obtain ⟨n, rfl⟩ : ∃ j, n = j + 1 := ⟨n - 1, by omega⟩
    have hmm := mm_le (D := D) (p := p) (a := a) (R := t - x) (k := k)
    rw [pre k n hk, s_ch59m hH hC hv hp (by omega) (show mmF D p a (t - x) k ≤ 24 by omega) (fun m hm => hB k m hk hm) hW _ (mmF D p a (t - x) k + 1) 0 N (by omega) (by omega) (fun m' _ q => hn2 k m' (by omega) hk q)]
    have hk1 : nI k + (-1 : Int32) = nI (ks + d) := by rw [h]; exact pk_m1 (ks + d)
    rw [hk1]
    exact ih (ks + d) n rfl (by omega) (by omega)
theorem s_chooseF (hN : 100 < N) (hH : RfH b1 b2 b3 lc un D al t) (hC : RfC b1 b2 b3 lc un D al t A B G) {p a b c x ks ms : Nat} (hv : VT al t a b c x) (hp : p ≤ D) (hr : A 52 (ixF al p a b c x) ≠ 0) (hcl : p < D → ClL b1 b2 b3 D al t A p) (hbs : p < D → BsL b1 b2 b3 lc un D al t A B (p + 1)) (hb0 : BsL b1 b2 b3 lc un D al t A B p) (hks : ks ≤ mwF p a (t - x)) (hms : ms ≤ mmF D p a (t - x) ks) (he : cvF b1 b2 b3 lc un D p b c (t - x) ks ms = bWF b1 b2 b3 lc un D p a b c (t - x)) (hn1 : ∀ m, m < ms → cvF b1 b2 b3 lc un D p b c (t - x) ks m ≠ bWF b1 b2 b3 lc un D p a b c (t - x)) (hn2 : ∀ k m, ks < k → k ≤ mwF p a (t - x) → m ≤ mmF D p a (t - x) k → cvF b1 b2 b3 lc un D p b c (t - x) k m ≠ bWF b1 b2 b3 lc un D p a b c (t - x)) :
    f_X7_choose N 44 (nI p) (nI a) (nI b) (nI c) (nI x) (mem A B G fl) = some (mem A B (upA G 44 (upd (upd (G 44) 25 (nI ks)) 26 (nI ms))) fl) := by
  have ht : t ≤ 24 := hH.1.2.2.2.2.2.2
  have hD : D ≤ 31 := hH.1.2.2.2.2.2.1
  have ha := hv.le
  have hx := hv.1
  have hmw := mw_le (p := p) (a := a) (R := t - x)
  have e1 := s_ch25 (fl := fl) (N := N) hN hH hC hv hp hks hms (fun k m w1 w2 pD kR hz => by
    have hcl1 := hcl pD a b c x hv hr k m w1 kR w2 hz
    have hb1 := hbs pD _ _ _ _ (hv.next (m := m) hH kR) hcl1
    rw [show t - (x + k) = t - x - k by omega, bW_eq hH.1 (by omega) (by omega) (by omega)] at hb1
    exact hb1) (hb0 a b c x hv hr) he hn1 hn2 (mwF p a (t - x) - ks) (mwF p a (t - x)) N (by omega) (by omega) (Nat.le_refl _)
  unfold f_X7_choose f_X7_choose_K23
  rw [gx_44_3, sb, hC.1, pk_sub (by omega)]
  by_cases h0 : p = 0
  · subst h0
    rw [if_pos (show (nI 0 : Int32) = 0 from rfl)]
    exact e1
  · rw [if_neg (nI_ne0 (by omega) (by omega)), least_n (by omega) (by omega), b2s]
    unfold mwF at e1
    rw [if_neg h0] at e1
    exact e1
/-- the last level -/
theorem s_chLast (hN : 100 < N) (hH : RfH b1 b2 b3 lc un D al t) (hC : RfC b1 b2 b3 lc un D al t A B G) {p a b c x : Nat} (hv : VT al t a b c x) (hp1 : 1 ≤ p) (hp : p ≤ D) (hr : A 52 (ixF al p a b c x) ≠ 0) (hcl : p < D → ClL b1 b2 b3 D al t A p) (hbs : p < D → BsL b1 b2 b3 lc un D al t A B (p + 1)) (hb0 : BsL b1 b2 b3 lc un D al t A B p) (hR : t - x ≤ a) :
    f_X7_choose N 44 (nI p) (nI a) (nI b) (nI c) (nI x) (mem A B G fl) = some (mem A B (upA G 44 (upd (upd (G 44) 25 (nI (t - x))) 26 (nI 0))) fl) := by
  have hmw : mwF p a (t - x) = t - x := by unfold mwF; rw [if_neg (by omega)]; omega
  refine s_chooseF hN hH hC hv hp hr hcl hbs hb0 (by omega) (Nat.zero_le _) ?_ (fun m q => absurd q (Nat.not_lt_zero m)) (fun k m q1 q2 => by omega)
  rw [bW_eq hH.1 hp1 hp (by omega)]
  unfold cvF bvF
  rw [if_pos (Nat.le_refl _), gF_0 b1 b2 b3 lc hR, if_pos (by decide), Nat.add_zero]
/-- a level on the way -/
theorem s_chWay (hN : 100 < N) (hH : RfH b1 b2 b3 lc un D al t) (hC : RfC b1 b2 b3 lc un D al t A B G) {p a b c x : Nat} (hv : VT al t a b c x) (hp1 : 1 ≤ p) (hp : p < D) (hr : A 52 (ixF al p a b c x) ≠ 0) (hcl : p < D → ClL b1 b2 b3 D al t A p) (hbs : p < D → BsL b1 b2 b3 lc un D al t A B (p + 1)) (hb0 : BsL b1 b2 b3 lc un D al t A B p) (hR : ¬ t - x ≤ a) (hg : gF b1 b2 b3 lc (D - p) a b c (t - x) < EV) :
    f_X7_choose N 44 (nI p) (nI a) (nI b) (nI c) (nI x) (mem A B G fl) = some (mem A B (upA G 44 (upd (upd (G 44) 25 (nI (chW b1 b2 b3 lc (D - p) a b c (t - x)))) 26 (nI (a - chW b1 b2 b3 lc (D - p) a b c (t - x))))) fl) := by
  have hg' := hg
  rw [show D - p = D - p - 1 + 1 by omega] at hg'
  obtain ⟨w1, w2⟩ := chW_ok b1 b2 b3 lc hR hg'
  rw [show D - p - 1 + 1 = D - p by omega] at w1 w2
  have hch : chW b1 b2 b3 lc (D - p) a b c (t - x) = gw (fun w => decide (cwF b1 b2 b3 lc (D - p - 1) a b c (t - x) w = gF b1 b2 b3 lc (D - p) a b c (t - x))) a := by unfold chW; rw [if_neg hR]
  have hmw : mwF p a (t - x) = a := by unfold mwF; rw [if_neg (by omega)]; omega
  have hmm : ∀ k, mmF D p a (t - x) k = min (a - k) (t - x - k) := fun k => by unfold mmF; rw [if_neg (by omega)]
  have hbw := bW_eq (b1 := b1) (b2 := b2) (b3 := b3) (a := a) (b := b) (c := c) (R := t - x) hH.1 hp1 (show p ≤ D by omega) (by omega)
  have hiff := fun k m hk hm => cv_iff (b1 := b1) (b2 := b2) (b3 := b3) (a := a) (b := b) (c := c) (R := t - x) (k := k) (m := m) hH.1 hp (by omega) hR hk hm hg
  have hge := fun k hk => gw_ge (Q := fun w => decide (cwF b1 b2 b3 lc (D - p - 1) a b c (t - x) w = gF b1 b2 b3 lc (D - p) a b c (t - x))) a k hk
  rw [← hch] at hge
  generalize chW b1 b2 b3 lc (D - p) a b c (t - x) = w at w1 w2 hge ⊢
  refine s_chooseF hN hH hC hv (by omega) hr hcl hbs hb0 (by omega) (by rw [hmm]; omega) ?_ (fun m q => ?_) (fun k m q1 q2 q3 => ?_)
  · rw [hbw]
    exact (hiff w (a - w) w1 (Nat.le_refl _)).mpr ⟨rfl, w2⟩
  · rw [hbw]
    intro r
    have := ((hiff w m w1 (by omega)).mp r).1
    omega
  · rw [hbw]
    rw [hmm] at q3
    intro r
    have := ((hiff k m (by omega) (by omega)).mp r).2
    have := hge k (by omega) (decide_eq_true this)
    omega
theorem bW_0 (hH : RfH b1 b2 b3 lc un D al t) (ht0 : 0 < t) : bWF b1 b2 b3 lc un D 0 1 0 0 t = cvF b1 b2 b3 lc un D 0 0 0 t 0 1 ∧ cvF b1 b2 b3 lc un D 0 0 0 t 0 0 = EV ∧ (cvF b1 b2 b3 lc un D 0 0 0 t 0 1 < EV ↔ gF b1 b2 b3 lc (D - 1) (min t b1) (min t b2) (min t b3) t < EV) := by
  have hD1 : 1 ≤ D := hH.2.2.2.2.2.2.2
  have hD : D ≤ 31 := hH.1.2.2.2.2.2.1
  have h0 : cvF b1 b2 b3 lc un D 0 0 0 t 0 0 = EV := by
    refine cv_out (by omega) ?_
    rintro ⟨-, q⟩
    rw [Nat.mul_zero, Nat.mul_zero, Nat.mul_zero, Nat.sub_zero, Nat.add_zero, gF_dead b1 b2 b3 lc _ _ ht0] at q
    exact Nat.lt_irrefl _ q
  have hcs := hH.1.cv (b1 := b1) (b2 := b2) (b3 := b3) (p := 0) (b := 0) (c := 0) (R := t) (k := 0) (m := 1) (by omega) (Nat.le_refl _)
  have hcap := gF_cap b1 b2 b3 lc (D - 1) (min t b1) (min t b2) (min t b3) b1 b2 b3 t (by omega) (by omega) (by omega)
  have hE : cvF b1 b2 b3 lc un D 0 0 0 t 0 1 ≤ EV := by
    rcases hcs with q | q
    · omega
    · unfold EV; omega
  refine ⟨?_, h0, ?_⟩
  · refine eq_of_le (fun y => ?_)
    have hmm : mmF D 0 1 t 0 = 1 := by unfold mmF; rw [if_neg (by omega)]; omega
    unfold bWF
    rw [le_nT, show mwF 0 1 t = 0 from rfl]
    constructor
    · rintro ⟨-, h⟩
      exact h 0 1 (Nat.le_refl _) (by omega) (by rw [hmm]; exact Nat.le_refl _)
    · intro h
      refine ⟨Nat.le_trans h hE, fun k m _ q2 q3 => ?_⟩
      have hk : k = 0 := by omega
      subst hk
      rw [hmm] at q3
      rcases Nat.lt_or_ge m 1 with r | r
      · rw [show m = 0 by omega, h0]; exact Nat.le_trans h hE
      · rw [show m = 1 by omega]; exact h
  · rw [hcap]
    by_cases hg : gF b1 b2 b3 lc (D - 1) b1 b2 b3 t < EV
    · have h1 : gF b1 b2 b3 lc (D - (0 + 1)) (0 + b1 * 1) (0 + b2 * 1) (b3 * 1) (t - 0) < EV := by
        rw [Nat.mul_one, Nat.mul_one, Nat.mul_one, Nat.zero_add, Nat.zero_add, Nat.zero_add, Nat.sub_zero]; exact hg
      have hgs := hH.1.g (b1 := b1) (b2 := b2) (b3 := b3) (d := D - 1) (a := b1) (b := b2) (c := b3) (R := t) (by omega) (Nat.le_refl _)
      have hl : lc t ≤ 24000000 := hH.1.2.2.1
      have hsm := hH.1.sm (p := 0) (R := t) (x := lc t + gF b1 b2 b3 lc (D - 1) b1 b2 b3 t) (by omega) (Nat.le_refl _) (by omega)
      rw [cv_in (by omega) (by omega) h1, Nat.mul_one, Nat.mul_one, Nat.mul_one, Nat.zero_add, Nat.zero_add, Nat.zero_add, Nat.sub_zero]
      exact ⟨fun _ => hg, fun _ => by unfold EV; omega⟩
    · rw [cv_out (by omega) (fun q => hg (by
        have := q.2
        rw [Nat.mul_one, Nat.mul_one, Nat.mul_one, Nat.zero_add, Nat.zero_add, Nat.zero_add, Nat.sub_zero] at this
        exact this))]
      exact ⟨fun q => absurd q (Nat.lt_irrefl _), fun q => absurd q hg⟩
/-- the first level -/
theorem s_chFirst (hN : 100 < N) (hH : RfH b1 b2 b3 lc un D al t) (hC : RfC b1 b2 b3 lc un D al t A B G) (ht0 : 0 < t) (hv : VT al t 1 0 0 0) (hr : A 52 (ixF al 0 1 0 0 0) ≠ 0) (hcl : ClL b1 b2 b3 D al t A 0) (hbs : BsL b1 b2 b3 lc un D al t A B (0 + 1)) (hb0 : BsL b1 b2 b3 lc un D al t A B 0) (hg : gF b1 b2 b3 lc (D - 1) (min t b1) (min t b2) (min t b3) t < EV) :
    f_X7_choose N 44 (nI 0) (nI 1) (nI 0) (nI 0) (nI 0) (mem A B G fl) = some (mem A B (upA G 44 (upd (upd (G 44) 25 (nI 0)) 26 (nI 1))) fl) := by
  have hD1 : 1 ≤ D := hH.2.2.2.2.2.2.2
  obtain ⟨q1, q2, q3⟩ := bW_0 hH ht0
  refine s_chooseF hN hH hC hv (Nat.zero_le _) hr (fun _ => hcl) (fun _ => hbs) hb0 (Nat.zero_le _) ?_ ?_ (fun m q => ?_) (fun k m r1 r2 => ?_)
  · unfold mmF
    rw [if_neg (by omega)]
    omega
  · rw [Nat.sub_zero]; exact q1.symm
  · rw [Nat.sub_zero, show m = 0 by omega, q1, q2]
    have := q3.mpr hg
    omega
  · have : mwF 0 1 (t - 0) = 0 := rfl
    omega
end Co
