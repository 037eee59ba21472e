/-! the class's OrderMaker: weigh -/
theorem mnJ_n {a b : Nat} (ha : a < 2 ^ 63) (hb : b < 2 ^ 63) : mnJ (lN a) (lN b) = lN (min a b) := by
  unfold mnJ
  by_cases h : b < a
  · rw [if_pos ((pk_lLT hb ha).mpr h), Nat.min_eq_right (by omega)]
  · rw [if_neg (fun e => h ((pk_lLT hb ha).mp e)), Nat.min_eq_left (by omega)]
theorem ctS_cat (C : Nat → Nat) : ∀ (a b i : Nat), ctS C (a + b) i = ctS C a i + ctS C b (i + a) := by
  intro a
  induction a with
  | zero => intro b i; rw [Nat.zero_add]; show _ = 0 + ctS C b i; rw [Nat.zero_add]
  | succ a ih =>
    intro b i
    rw [show a + 1 + b = (a + b) + 1 by omega, ctS, ctS, ih, show i + 1 + a = i + (a + 1) by omega]
    omega
theorem Wt_sub {C : Nat → Nat} {fr i e : Nat} (h1 : fr ≤ i) (h2 : i ≤ e) : Wt C fr i ≤ Wt C fr e ∧ Wt C fr e - Wt C fr i = Wt C i e := by
  unfold Wt
  have := ctS_cat C (i - fr) (e - i) fr
  rw [show i - fr + (e - i) = e - fr by omega, show fr + (i - fr) = i by omega] at this
  omega
theorem Wt_le {C : Nat → Nat} {t : Nat} (hC : ∀ i, i < t → C i ≤ 1000000) : ∀ (d a : Nat), a + d ≤ t → ctS C d a ≤ 1000000 * d := by
  intro d
  induction d with
  | zero => intro a _; exact Nat.zero_le _
  | succ d ih =>
    intro a h
    have := ih (a + 1) (by omega)
    have := hC a (by omega)
    rw [ctS]
    omega
theorem nI_lt_iff {a b : Nat} (ha : a < 2 ^ 31) (hb : b < 2 ^ 31) : nI a < nI b ↔ a < b := nI_ltI ha hb
/-- prices and counts are small -/
def Sml (P C : Nat → Nat) (s t : Nat) : Prop := s ≤ 4 ∧ t ≤ 24 ∧ (∀ u, u < s → P u ≤ 9) ∧ ∀ i, i < t → C i ≤ 1000000
theorem Sml.w {P C : Nat → Nat} {s t a e : Nat} (h : Sml P C s t) (he : e ≤ t) : Wt C a e ≤ 24000000 := by
  unfold Wt
  by_cases hae : a ≤ e
  · have := Wt_le h.2.2.2 (e - a) a (by omega)
    have := h.2.1
    omega
  · rw [show e - a = 0 by omega]; exact Nat.zero_le _
theorem Sml.pw {P C : Nat → Nat} {s t a e u : Nat} (h : Sml P C s t) (he : e ≤ t) (hu : u < s) : P u * Wt C a e ≤ 216000000 := by
  have := Nat.mul_le_mul (h.2.2.1 u hu) (h.w (a := a) he)
  omega
theorem ixT3 {v w a b i j : Nat} (hb : b < 24) (hj : j < 24) (ha : a < 24) (hi : i < 24) (e : (v * 24 + a) * 24 + b = (w * 24 + i) * 24 + j) : v = w ∧ a = i ∧ b = j := by omega
section We
variable {A : Nat → Nat → Int32} {G : Nat → Nat → Int32} {fl : Nat → Bool} {N s t fr to : Nat} {P C : Nat → Nat}
/-- what weighing reads -/
def WgC (A : Nat → Nat → Int32) (B : Nat → Nat → Int64) (G : Nat → Nat → Int32) (P C : Nat → Nat) (s fr to : Nat) : Prop := G 93 4 = nI s ∧ (∀ u, u < s → A 97 u = nI (P u)) ∧ ∀ x, fr ≤ x → x ≤ to + 1 → B 96 x = lN (Wt C fr x)
def NXa (B : Nat → Nat → Int64) (P C : Nat → Nat) (s a b : Nat) : Prop := B 94 (a * 24 + b) = lN (nd P C s a b) ∧ ∀ u, 1 ≤ u → u ≤ s → B 95 ((u * 24 + a) * 24 + b) = lN (dD P C s (nd P C s) b (s - u) a)
theorem s_behind (f2 : fl 2 = true) {B : Nat → Nat → Int64} (hS : Sml P C s t) (hto : to < t) (hW : WgC A B G P C s fr to) {u i j : Nat} (hu : u < s) (hi : fr ≤ i) (hij : i ≤ j) (hj : j ≤ to) (hn : B 94 (i * 24 + j) = lN (nd P C s i j)) : f_X4_behindSign N 93 (nI u) (nI i) (nI j) (mem A B G fl) = some (lN (P u * Wt C i (j + 1) + nd P C s i j), mem A B G fl) := by
  have h4 := hS.1
  have h24 := hS.2.1
  obtain ⟨q1, q2⟩ := Wt_sub (C := C) hi (show i ≤ j + 1 by omega)
  unfold f_X4_behindSign f_X4_leastOf
  rw [gx_93_3 f2, sb, ldI_n (ly97 f2) (by omega) (by decide), sb, hW.2.1 u hu, gx_93_2 f2, sb, show (1 : Int32) = nI 1 from rfl, nI_add, ldJ_n (ly96 f2) (by omega) (by decide), sb, sb, ldJ_n (ly96 f2) (by omega) (by decide), sb, hW.2.2 _ (by omega) (by omega), hW.2.2 _ hi (by omega), ck_93 f2, sb, gx_93_0 f2, sb, show (24 : Int32) = nI 24 from rfl, pk_mul, nI_add, ldJ_n (ly94 f2) (by omega) (by decide), sb, b2s, hn, nI_l (by have := hS.2.2.1 u hu; omega), lN_sub q1, q2, lN_mul, lN_add]
theorem s_dealOf (f2 : fl 2 = true) {B : Nat → Nat → Int64} (hS : Sml P C s t) (hto : to < t) {u a j : Nat} (hu : u ≤ s) (ha : a ≤ j + 1) (hj : j ≤ to) (hn : a ≤ j → B 95 ((u * 24 + a) * 24 + j) = lN (dD P C s (nd P C s) j (s - u) a)) : f_X4_dealOf N 93 (nI u) (nI a) (nI j) (mem A B G fl) = some (lN (dD P C s (nd P C s) j (s - u) a), mem A B G fl) := by
  have h4 := hS.1
  have h24 := hS.2.1
  unfold f_X4_dealOf
  by_cases h : a ≤ j
  · rw [if_pos (nI_le h (by omega)), gx_93_1 f2, sb, show (24 : Int32) = nI 24 from rfl, pk_mul, nI_add, pk_mul, nI_add, ldJ_n (ly95 f2) (by omega) (by decide), sb, hn h]
  · have : a = j + 1 := by omega
    subst this
    rw [if_neg (nI_ge (by omega) (by omega)), dD_end]
    rfl
theorem s_wNode1 (f2 : fl 2 = true) {B : Nat → Nat → Int64} (hS : Sml P C s t) (hto : to < t) (hW : WgC A B G P C s fr to) {i j : Nat} (hi : fr ≤ i) (hij : i ≤ j) (hj : j ≤ to) (hB : ∀ a b, fr ≤ a → a ≤ b → b ≤ to → b - a < j - i → NXa B P C s a b) (k16 : Nat → Int32 → Int32 → Int64 → Int32 → A_M → Option A_M) {u : Nat} (hu : u < s) : ∀ (d l m x : Nat), l + d = j → i ≤ l → d < m → x ≤ EV → f_X4_weighNode_L28 N k16 m 93 (nI i) (nI j) (lN x) (nI u) (nI l) (mem A B G fl) = k16 93 (nI i) (nI j) (lN (mnF (fun e => P u * Wt C i e + c1 (nd P C s) i e + dD P C s (nd P C s) j (s - (u + 1)) e) d (l + 1) x)) (nI (u + 1)) (mem A B G fl) := by
  have h24 := hS.2.1
  have h4 := hS.1
  intro d
  induction d with
  | zero =>
    intro l m x h hl hm hx
    obtain ⟨m, rfl⟩ : ∃ j, m = j + 1 := ⟨m - 1, by omega⟩
    rw [f_X4_weighNode_L28, if_pos (nI_le (by omega) (by omega)), f_X4_weighNode_K68, nI_1]
    rfl
  | succ d ih =>
    intro l m x h hl hm hx
    obtain ⟨m, rfl⟩ : ∃ j, m = j + 1 := ⟨m - 1, by omega⟩
    have hc : c1 (nd P C s) i (l + 1) = nd P C s i l := by
      unfold c1
      by_cases q : l + 1 - i < 2
      · rw [if_pos q, show l = i by omega, nd_self]
      · rw [if_neg q, show l + 1 - 1 = l by omega]
    have b1 := nd_le (P := P) (C := C) (s := s) i l
    have b2 := dD_le (P := P) (C := C) (s := s) (c := nd P C s) j (s - (u + 1)) (l + 1)
    have b3 := hS.pw (a := i) (e := l + 1) (u := u) (by omega) hu
    unfold EV at b1 b2 hx
    rw [f_X4_weighNode_L28, if_neg (nI_ge (by omega) (by omega)), ck_93 f2, sb, s_behind f2 hS hto hW hu hi hl (by omega) (hB i l hi hl (by omega) (by omega)).1, b2s, ck_93 f2, sb, show (1 : Int32) = nI 1 from rfl, nI_add, nI_add, s_dealOf f2 hS hto (by omega) (by omega) hj (fun hle => (hB (l + 1) j (by omega) hle hj (by omega)).2 (u + 1) (by omega) (by omega)), b2s, lN_add, mnJ_n (by omega) (by omega), ih (l + 1) m _ (by omega) (by omega) (by omega) (by unfold EV; omega), mnF, hc]
theorem s_wNode2 (f2 : fl 2 = true) (hN : 100 < N) {B : Nat → Nat → Int64} (hS : Sml P C s t) (hto : to < t) (hW : WgC A B G P C s fr to) {i j : Nat} (hi : fr ≤ i) (hij : i ≤ j) (hj : j ≤ to) (hB : ∀ a b, fr ≤ a → a ≤ b → b ≤ to → b - a < j - i → NXa B P C s a b) : ∀ (d u m x : Nat), u + d = s → d < m → x ≤ EV → f_X4_weighNode_L16 N m 93 (nI i) (nI j) (lN x) (nI u) (mem A B G fl) = some (mem A (upA B 94 (vp_updL (B 94) (i * 24 + j) (lN (nS (fun u e => P u * Wt C i e + c1 (nd P C s) i e + dD P C s (nd P C s) j (s - (u + 1)) e) (j - i) (i + 1) d u x)))) G fl) := by
  have h24 := hS.2.1
  have h4 := hS.1
  intro d
  induction d with
  | zero =>
    intro u m x h hm hx
    obtain ⟨m, rfl⟩ : ∃ j, m = j + 1 := ⟨m - 1, by omega⟩
    rw [f_X4_weighNode_L16, gx_93_4 f2, sb, hW.1, if_pos (nI_le (by omega) (by omega)), gx_93_0 f2, sb, show (24 : Int32) = nI 24 from rfl, pk_mul, nI_add, stJ_n (ly94 f2) (by omega) (by decide), sb]
    rfl
  | succ d ih =>
    intro u m x h hm hx
    obtain ⟨m, rfl⟩ : ∃ j, m = j + 1 := ⟨m - 1, by omega⟩
    rw [f_X4_weighNode_L16, gx_93_4 f2, sb, hW.1, if_neg (nI_ge (by omega) (by omega)), s_wNode1 f2 hS hto hW hi hij hj hB _ (by omega) (j - i) i N x (by omega) (Nat.le_refl _) (by omega) hx, ih (u + 1) m _ (by omega) (by omega) (Nat.le_trans (mnF_le _ _ _) hx), nS]
theorem s_wNode (f2 : fl 2 = true) (hN : 100 < N) {B : Nat → Nat → Int64} (hS : Sml P C s t) (hto : to < t) (hW : WgC A B G P C s fr to) {i j : Nat} (hi : fr ≤ i) (hij : i ≤ j) (hj : j ≤ to) (hB : ∀ a b, fr ≤ a → a ≤ b → b ≤ to → b - a < j - i → NXa B P C s a b) : f_X4_weighNode N 93 (nI i) (nI j) (mem A B G fl) = some (mem A (upA B 94 (vp_updL (B 94) (i * 24 + j) (lN (nd P C s i j)))) G fl) := by
  have h24 := hS.2.1
  unfold f_X4_weighNode
  by_cases h : i = j
  · subst h
    rw [if_pos rfl, f_X4_weighNode_K12, show (0 : Int64) = lN 0 from rfl, show (0 : Int32) = nI 0 from rfl, s_wNode2 f2 hN hS hto hW hi hij hj hB s 0 N 0 (by omega) (by have := hS.1; omega) (Nat.zero_le _), nd_self]
    congr 5
    exact Nat.le_zero.mp (((le_nS s 0 0).mp (Nat.le_refl _)).1)
  · rw [if_neg (fun e => h ((nI_eq (by omega) (by omega)).mp e)), f_X4_weighNode_K12, show (1152921504606846976 : Int64) = lN EV from rfl, show (0 : Int32) = nI 0 from rfl, s_wNode2 f2 hN hS hto hW hi hij hj hB s 0 N EV (by omega) (by have := hS.1; omega) (Nat.le_refl _), nS_rD (by omega), ← nd_eq (by omega)]
theorem s_wDeals1 (f2 : fl 2 = true) {B : Nat → Nat → Int64} (hS : Sml P C s t) (hto : to < t) (hW : WgC A B G P C s fr to) {i j : Nat} (hi : fr ≤ i) (hj : j ≤ to) (hB : ∀ a b, fr ≤ a → a ≤ b → b ≤ to → b - a < j - i → NXa B P C s a b) (hB2 : B 94 (i * 24 + j) = lN (nd P C s i j)) (k29 : Nat → Int32 → Int32 → Int32 → A_M → Option A_M) {u : Nat} (hu : u < s) : ∀ (d l m x : Nat), l + d = j + 1 → i ≤ l → d < m → x ≤ EV → f_X4_weighDeals_L48 N k29 m 93 (nI i) (nI j) (nI u) (lN x) (nI l) (mem A B G fl) = f_X4_weighDeals_K88 N k29 93 (nI i) (nI j) (nI u) (lN (mnF (fun e => P u * Wt C i e + c1 (nd P C s) i e + dD P C s (nd P C s) j (s - (u + 1)) e) d (l + 1) x)) (mem A B G fl) := by
  have h24 := hS.2.1
  have h4 := hS.1
  intro d
  induction d with
  | zero =>
    intro l m x h hl hm hx
    obtain ⟨m, rfl⟩ : ∃ j, m = j + 1 := ⟨m - 1, by omega⟩
    rw [f_X4_weighDeals_L48, if_pos (nI_lt (by omega) (by omega))]
    rfl
  | succ d ih =>
    intro l m x h hl hm hx
    obtain ⟨m, rfl⟩ : ∃ j, m = j + 1 := ⟨m - 1, by omega⟩
    have hc : c1 (nd P C s) i (l + 1) = nd P C s i l := by
      unfold c1
      by_cases q : l + 1 - i < 2
      · rw [if_pos q, show l = i by omega, nd_self]
      · rw [if_neg q, show l + 1 - 1 = l by omega]
    have b1 := nd_le (P := P) (C := C) (s := s) i l
    have b2 := dD_le (P := P) (C := C) (s := s) (c := nd P C s) j (s - (u + 1)) (l + 1)
    have b3 := hS.pw (a := i) (e := l + 1) (u := u) (by omega) hu
    have hn : B 94 (i * 24 + l) = lN (nd P C s i l) := by
      by_cases q : l = j
      · subst q; exact hB2
      · exact (hB i l hi hl (by omega) (by omega)).1
    unfold EV at b1 b2 hx
    rw [f_X4_weighDeals_L48, if_neg (fun e => by have := (nI_ltI (by omega) (by omega)).mp e; omega), ck_93 f2, sb, s_behind f2 hS hto hW hu hi hl (by omega) hn, b2s, ck_93 f2, sb, show (1 : Int32) = nI 1 from rfl, nI_add, nI_add, s_dealOf f2 hS hto (by omega) (by omega) hj (fun hle => (hB (l + 1) j (by omega) hle hj (by omega)).2 (u + 1) (by omega) (by omega)), b2s, lN_add, mnJ_n (by omega) (by omega), ih (l + 1) m _ (by omega) (by omega) (by omega) (by unfold EV; omega), mnF, hc]
theorem s_wDeals2 (f2 : fl 2 = true) (hN : 100 < N) (hS : Sml P C s t) (hto : to < t) {i j : Nat} (hi : fr ≤ i) (hij : i ≤ j) (hj : j ≤ to) : ∀ (u m : Nat) (B : Nat → Nat → Int64), u < s → u < m → WgC A B G P C s fr to → (∀ a b, fr ≤ a → a ≤ b → b ≤ to → b - a < j - i → NXa B P C s a b) → B 94 (i * 24 + j) = lN (nd P C s i j) → B 95 (((u + 1) * 24 + i) * 24 + j) = lN (dD P C s (nd P C s) j (s - (u + 1)) i) →
    ∃ B', f_X4_weighDeals_L29 N m 93 (nI i) (nI j) (nI u) (mem A B G fl) = some (mem A B' G fl) ∧ (∀ k, k ≠ 95 → B' k = B k) ∧ (∀ v, 1 ≤ v → v ≤ u → B' 95 ((v * 24 + i) * 24 + j) = lN (dD P C s (nd P C s) j (s - v) i)) ∧ (∀ x, (∀ v, 1 ≤ v → v ≤ u → x ≠ (v * 24 + i) * 24 + j) → B' 95 x = B 95 x) := by
  have h24 := hS.2.1
  have h4 := hS.1
  intro u
  induction u with
  | zero =>
    intro m B hu hm hW hB hB2 hu1
    obtain ⟨m, rfl⟩ : ∃ j, m = j + 1 := ⟨m - 1, by omega⟩
    exact ⟨B, by rw [f_X4_weighDeals_L29, if_pos (by decide)], fun _ _ => rfl, fun v a b => by omega, fun _ _ => rfl⟩
  | succ u ih =>
    intro m B hu hm hW hB hB2 hu1
    obtain ⟨m, rfl⟩ : ∃ j, m = j + 1 := ⟨m - 1, by omega⟩
    have hb := dD_le (P := P) (C := C) (s := s) (c := nd P C s) j (s - (u + 1 + 1)) i
    have hst : mnF (fun e => P (u + 1) * Wt C i e + c1 (nd P C s) i e + dD P C s (nd P C s) j (s - (u + 1 + 1)) e) (j + 1 - i) (i + 1) (dD P C s (nd P C s) j (s - (u + 1 + 1)) i) = dD P C s (nd P C s) j (s - (u + 1)) i := by
      rw [show s - (u + 1) = (s - (u + 1 + 1)) + 1 by omega, dD_step hij, show s - 1 - (s - (u + 1 + 1)) = u + 1 by omega]
    generalize hB1 : upA B 95 (vp_updL (B 95) (((u + 1) * 24 + i) * 24 + j) (lN (dD P C s (nd P C s) j (s - (u + 1)) i))) = B1
    have q0 : ∀ k, k ≠ 95 → B1 k = B k := fun k hk => by rw [← hB1, upA_ne _ _ _ hk]
    have q1 : B1 95 = vp_updL (B 95) (((u + 1) * 24 + i) * 24 + j) (lN (dD P C s (nd P C s) j (s - (u + 1)) i)) := by rw [← hB1, upA_same]
    obtain ⟨B', e1, e2, e3, e4⟩ := ih m B1 (by omega) (by omega) ⟨hW.1, hW.2.1, fun x a b => by rw [q0 96 (by omega)]; exact hW.2.2 x a b⟩ (fun a b g1 g2 g3 g4 => by
      obtain ⟨z1, z2⟩ := hB a b g1 g2 g3 g4
      refine ⟨by rw [q0 94 (by omega)]; exact z1, fun v v1 v2 => ?_⟩
      rw [q1, vpL_ne _ _ _ (fun e => by have := ixT3 (by omega) (by omega) (by omega) (by omega) e; omega)]
      exact z2 v v1 v2) (by rw [q0 94 (by omega)]; exact hB2) (by rw [q1, vpL_eq])
    refine ⟨B', ?_, fun k hk => (e2 k hk).trans (q0 k hk), fun v v1 v2 => ?_, fun x hx => ?_⟩
    · rw [f_X4_weighDeals_L29, if_neg (show ¬ nI (u + 1) < (1 : Int32) from fun e => by have := (nI_ltI (b := 1) (by omega) (by omega)).mp e; omega), ck_93 f2, sb, show (1 : Int32) = nI 1 from rfl, nI_add, s_dealOf f2 hS hto (by omega) (by omega) hj (fun _ => hu1), b2s, s_wDeals1 f2 hS hto hW hi hj hB hB2 _ (by omega) (j + 1 - i) i N _ (by omega) (Nat.le_refl _) (by omega) hb, hst, f_X4_weighDeals_K88, gx_93_1 f2, sb, show (24 : Int32) = nI 24 from rfl, pk_mul, nI_add, pk_mul, nI_add, stJ_n (ly95 f2) (by omega) (by decide), sb, hB1, pk_m1, e1]
    · by_cases hv : v = u + 1
      · subst hv
        rw [e4 _ (fun w a b => by omega), q1, vpL_eq]
      · exact e3 v v1 (by omega)
    · rw [e4 x (fun v a b => hx v a (by omega)), q1, vpL_ne _ _ _ (hx (u + 1) (by omega) (Nat.le_refl _))]
theorem s_wDeals (f2 : fl 2 = true) (hN : 100 < N) (hS : Sml P C s t) (hs : 1 ≤ s) (hto : to < t) {i j : Nat} (hi : fr ≤ i) (hij : i ≤ j) (hj : j ≤ to) {B : Nat → Nat → Int64} (hW : WgC A B G P C s fr to) (hB : ∀ a b, fr ≤ a → a ≤ b → b ≤ to → b - a < j - i → NXa B P C s a b) (hB2 : B 94 (i * 24 + j) = lN (nd P C s i j)) :
    ∃ B', f_X4_weighDeals N 93 (nI i) (nI j) (mem A B G fl) = some (mem A B' G fl) ∧ (∀ k, k ≠ 95 → B' k = B k) ∧ (∀ v, 1 ≤ v → v ≤ s → B' 95 ((v * 24 + i) * 24 + j) = lN (dD P C s (nd P C s) j (s - v) i)) ∧ (∀ x, (∀ v, 1 ≤ v → v ≤ s → x ≠ (v * 24 + i) * 24 + j) → B' 95 x = B 95 x) := by
  have h24 := hS.2.1
  have h4 := hS.1
  generalize hB1 : upA B 95 (vp_updL (B 95) ((s * 24 + i) * 24 + j) (lN EV)) = B1
  have q0 : ∀ k, k ≠ 95 → B1 k = B k := fun k hk => by rw [← hB1, upA_ne _ _ _ hk]
  have q1 : B1 95 = vp_updL (B 95) ((s * 24 + i) * 24 + j) (lN EV) := by rw [← hB1, upA_same]
  have hd0 : dD P C s (nd P C s) j 0 i = EV := by rw [dD, if_neg (by omega)]
  obtain ⟨B', e1, e2, e3, e4⟩ := s_wDeals2 (A := A) (G := G) (N := N) (P := P) (C := C) f2 hN hS hto hi hij hj (s - 1) N B1 (by omega) (by omega) ⟨hW.1, hW.2.1, fun x a b => by rw [q0 96 (by omega)]; exact hW.2.2 x a b⟩ (fun a b g1 g2 g3 g4 => by
      obtain ⟨z1, z2⟩ := hB a b g1 g2 g3 g4
      refine ⟨by rw [q0 94 (by omega)]; exact z1, fun v v1 v2 => ?_⟩
      rw [q1, vpL_ne _ _ _ (fun e => by have := ixT3 (by omega) (by omega) (by omega) (by omega) e; omega)]
      exact z2 v v1 v2) (by rw [q0 94 (by omega)]; exact hB2) (by rw [show s - 1 + 1 = s by omega, q1, vpL_eq, Nat.sub_self, hd0])
  refine ⟨B', ?_, fun k hk => (e2 k hk).trans (q0 k hk), fun v v1 v2 => ?_, fun x hx => ?_⟩
  · unfold f_X4_weighDeals
    rw [gx_93_1 f2, sb, gx_93_4 f2, sb, hW.1, show (24 : Int32) = nI 24 from rfl, pk_mul, nI_add, pk_mul, nI_add, stJ_n (ly95 f2) (by omega) (by decide), sb, show (1152921504606846976 : Int64) = lN EV from rfl, hB1, gx_93_4 f2, sb, hW.1, show (1 : Int32) = nI 1 from rfl, pk_sub hs, e1]
  · by_cases hv : v = s
    · subst hv
      rw [e4 _ (fun w a b => by omega), q1, vpL_eq, Nat.sub_self, hd0]
    · exact e3 v v1 (by omega)
  · rw [e4 x (fun v a b => hx v a (by omega)), q1, vpL_ne _ _ _ (hx s (by omega) (Nat.le_refl _))]
/-- both, for all nodes of one size -/
theorem s_wAll1 (f2 : fl 2 = true) (hN : 100 < N) (hS : Sml P C s t) (hs : 1 ≤ s) (hto : to < t) (k65 : Nat → Int32 → Int32 → Int32 → A_M → Option A_M) {more : Nat} : ∀ (d i m : Nat) (B : Nat → Nat → Int64), i + d = to + 1 - more → more ≤ to - fr → fr ≤ i → d < m → WgC A B G P C s fr to → (∀ a b, fr ≤ a → a ≤ b → b ≤ to → (b - a < more ∨ (b - a = more ∧ a < i)) → NXa B P C s a b) →
    ∃ B', f_X4_weigh_L76 N k65 m 93 (nI fr) (nI to) (nI more) (nI i) (mem A B G fl) = k65 93 (nI fr) (nI to) (nI (more + 1)) (mem A B' G fl) ∧ (∀ k, k ≠ 94 → k ≠ 95 → B' k = B k) ∧ (∀ a b, fr ≤ a → a ≤ b → b ≤ to → b - a < more + 1 → NXa B' P C s a b) := by
  have h24 := hS.2.1
  have h4 := hS.1
  intro d
  induction d with
  | zero =>
    intro i m B h hmo hi hm hW hB
    obtain ⟨m, rfl⟩ : ∃ j, m = j + 1 := ⟨m - 1, by omega⟩
    refine ⟨B, ?_, fun _ _ _ => rfl, fun a b g1 g2 g3 g4 => hB a b g1 g2 g3 (by omega)⟩
    rw [f_X4_weigh_L76, nI_add, if_pos (nI_lt (by omega) (by omega)), f_X4_weigh_K113, nI_1]
  | succ d ih =>
    intro i m B h hmo hi hm hW hB
    obtain ⟨m, rfl⟩ : ∃ j, m = j + 1 := ⟨m - 1, by omega⟩
    have hn := s_wNode (A := A) (G := G) (N := N) (P := P) (C := C) f2 hN hS hto hW hi (show i ≤ i + more by omega) (show i + more ≤ to by omega) (fun a b g1 g2 g3 g4 => hB a b g1 g2 g3 (by omega))
    generalize hB1 : upA B 94 (vp_updL (B 94) (i * 24 + (i + more)) (lN (nd P C s i (i + more)))) = B1 at hn
    have q0 : ∀ k, k ≠ 94 → B1 k = B k := fun k hk => by rw [← hB1, upA_ne _ _ _ hk]
    have q1 : B1 94 = vp_updL (B 94) (i * 24 + (i + more)) (lN (nd P C s i (i + more))) := by rw [← hB1, upA_same]
    have hW1 : WgC A B1 G P C s fr to := ⟨hW.1, hW.2.1, fun x a b => by rw [q0 96 (by omega)]; exact hW.2.2 x a b⟩
    have hB1' : ∀ a b, fr ≤ a → a ≤ b → b ≤ to → (b - a < more ∨ (b - a = more ∧ a < i)) → NXa B1 P C s a b := fun a b g1 g2 g3 g4 => by
      obtain ⟨z1, z2⟩ := hB a b g1 g2 g3 g4
      refine ⟨?_, fun v v1 v2 => by rw [q0 95 (by omega)]; exact z2 v v1 v2⟩
      rw [q1, vpL_ne _ _ _ (by omega)]
      exact z1
    obtain ⟨B2, e1, e2, e3, e4⟩ := s_wDeals (A := A) (G := G) (N := N) (P := P) (C := C) f2 hN hS hs hto hi (show i ≤ i + more by omega) (show i + more ≤ to by omega) hW1 (fun a b g1 g2 g3 g4 => hB1' a b g1 g2 g3 (by omega)) (by rw [q1, vpL_eq])
    obtain ⟨B3, c1', c2, c3⟩ := ih (i + 1) m B2 (by omega) hmo (by omega) (by omega) ⟨hW.1, hW.2.1, fun x a b => by rw [e2 96 (by omega)]; exact hW1.2.2 x a b⟩ (fun a b g1 g2 g3 g4 => by
      by_cases q : b - a = more ∧ a = i
      · have hb : b = i + more := by omega
        have ha : a = i := q.2
        subst ha hb
        exact ⟨by rw [e2 94 (by omega), q1, vpL_eq], fun v v1 v2 => e3 v v1 v2⟩
      · obtain ⟨z1, z2⟩ := hB1' a b g1 g2 g3 (by omega)
        refine ⟨by rw [e2 94 (by omega)]; exact z1, fun v v1 v2 => ?_⟩
        rw [e4 _ (fun w wa wb e => by have := ixT3 (by omega) (by omega) (by omega) (by omega) e; omega)]
        exact z2 v v1 v2)
    refine ⟨B3, ?_, fun k h1 h2 => by rw [c2 k h1 h2, e2 k h2, q0 k h1], c3⟩
    rw [f_X4_weigh_L76, nI_add, if_neg (fun e => by have := (nI_ltI (by omega) (by omega)).mp e; omega), ck_93 f2, sb, hn, sb, ck_93 f2, sb, e1, sb, nI_1, c1']
theorem s_wAll2 (f2 : fl 2 = true) (hN : 100 < N) (hS : Sml P C s t) (hs : 1 ≤ s) (hft : fr ≤ to) (hto : to < t) : ∀ (d more m : Nat) (B : Nat → Nat → Int64), more + d = to - fr + 1 → d < m → WgC A B G P C s fr to → (∀ a b, fr ≤ a → a ≤ b → b ≤ to → b - a < more → NXa B P C s a b) →
    ∃ B', f_X4_weigh_L65 N m 93 (nI fr) (nI to) (nI more) (mem A B G fl) = some (mem A B' G fl) ∧ (∀ k, k ≠ 94 → k ≠ 95 → B' k = B k) ∧ (∀ a b, fr ≤ a → a ≤ b → b ≤ to → NXa B' P C s a b) := by
  have h24 := hS.2.1
  intro d
  induction d with
  | zero =>
    intro more m B h hm hW hB
    obtain ⟨m, rfl⟩ : ∃ j, m = j + 1 := ⟨m - 1, by omega⟩
    exact ⟨B, by rw [f_X4_weigh_L65, pk_sub hft, if_pos (nI_lt (by omega) (by omega))], fun _ _ _ => rfl, fun a b g1 g2 g3 => hB a b g1 g2 g3 (by omega)⟩
  | succ d ih =>
    intro more m B h hm hW hB
    obtain ⟨m, rfl⟩ : ∃ j, m = j + 1 := ⟨m - 1, by omega⟩
    obtain ⟨B1, e1, e2, e3⟩ := s_wAll1 (A := A) (G := G) (N := N) (P := P) (C := C) f2 hN hS hs hto (f_X4_weigh_L65 N m) (more := more) (to + 1 - more - fr) fr N B (by omega) (by omega) (Nat.le_refl _) (by omega) hW (fun a b g1 g2 g3 g4 => hB a b g1 g2 g3 (by omega))
    obtain ⟨B2, c1', c2, c3⟩ := ih (more + 1) m B1 (by omega) (by omega) ⟨hW.1, hW.2.1, fun x a b => by rw [e2 96 (by omega) (by omega)]; exact hW.2.2 x a b⟩ e3
    refine ⟨B2, ?_, fun k h1 h2 => by rw [c2 k h1 h2, e2 k h1 h2], c3⟩
    rw [f_X4_weigh_L65, pk_sub hft, if_neg (fun e => by have := (nI_ltI (by omega) (by omega)).mp e; omega), e1, c1']
theorem s_sums (f2 : fl 2 = true) (ht : t ≤ 24) (hto : to < t) (hC : ∀ i, i < t → A 2 i = nI (C i) ∧ C i ≤ 1000000) : ∀ (d i m : Nat) (B : Nat → Nat → Int64), i + d = to + 1 → fr ≤ i → d < m → (∀ x, fr ≤ x → x ≤ i → B 96 x = lN (Wt C fr x)) →
    ∃ B', f_X4_weigh_L28 N m 93 2 (nI fr) (nI to) (nI i) (mem A B G fl) = f_X4_weigh_L65 N N 93 (nI fr) (nI to) (nI 0) (mem A B' G fl) ∧ (∀ k, k ≠ 96 → B' k = B k) ∧ (∀ x, fr ≤ x → x ≤ to + 1 → B' 96 x = lN (Wt C fr x)) := by
  intro d
  induction d with
  | zero =>
    intro i m B h hi hm hB
    obtain ⟨m, rfl⟩ : ∃ j, m = j + 1 := ⟨m - 1, by omega⟩
    refine ⟨B, ?_, fun _ _ => rfl, fun x a b => hB x a (by omega)⟩
    rw [f_X4_weigh_L28, if_pos (nI_lt (by omega) (by omega)), f_X4_weigh_K62]
    rfl
  | succ d ih =>
    intro i m B h hi hm hB
    obtain ⟨m, rfl⟩ : ∃ j, m = j + 1 := ⟨m - 1, by omega⟩
    obtain ⟨h1, h2⟩ := hC i (by omega)
    have hw : Wt C fr i + C i = Wt C fr (i + 1) := by
      unfold Wt
      have := ctS_cat C (i - fr) 1 fr
      rw [show i - fr + 1 = i + 1 - fr by omega, show fr + (i - fr) = i by omega] at this
      rw [this]
      rfl
    obtain ⟨B', e1, e2, e3⟩ := ih (i + 1) m (upA B 96 (vp_updL (B 96) (i + 1) (lN (Wt C fr (i + 1))))) (by omega) (by omega) (by omega) (fun x a b => by
      rw [upA_same]
      by_cases e : x = i + 1
      · subst e; rw [vpL_eq]
      · rw [vpL_ne _ _ _ e]; exact hB x a (by omega))
    refine ⟨B', ?_, fun k hk => by rw [e2 k hk, upA_ne _ _ _ hk], e3⟩
    rw [f_X4_weigh_L28, if_neg (fun e => by have := (nI_ltI (by omega) (by omega)).mp e; omega), gx_93_2 f2, sb, sb, ldJ_n (ly96 f2) (by omega) (by decide), sb, hB i hi (Nat.le_refl _), ldI_n (ly2 fl) (by omega) (by decide), sb, h1, nI_l (by omega), lN_add, hw, show (1 : Int32) = nI 1 from rfl, nI_add, stJ_n (ly96 f2) (by omega) (by decide), sb, e1]
theorem s_weigh (f2 : fl 2 = true) (hN : 100 < N) (hS : Sml P C s t) (hs : 1 ≤ s) (hft : fr ≤ to) (hto : to < t) (A : Nat → Nat → Int32) (B : Nat → Nat → Int64) (G : Nat → Nat → Int32) (hP : ∀ u, u < s → A 1 u = nI (P u)) (hC : ∀ i, i < t → A 2 i = nI (C i)) :
    ∃ A' B' G', f_X4_weigh N 93 2 (nI fr) (nI to) 1 (nI s) (mem A B G fl) = some (mem A' B' G' fl) ∧ (∀ k, k ≠ 97 → A' k = A k) ∧ (∀ k, k ≠ 94 → k ≠ 95 → k ≠ 96 → B' k = B k) ∧ (∀ k, k ≠ 93 → G' k = G k) ∧ WgC A' B' G' P C s fr to ∧ (∀ a b, fr ≤ a → a ≤ b → b ≤ to → NXa B' P C s a b) := by
  have h24 := hS.2.1
  have h4 := hS.1
  generalize hG1 : upA G 93 (upd (G 93) 4 (nI s)) = G1
  generalize hA1 : upA A 97 (va_cpy (A 1) (A 97) 0 0 4) = A1
  have a0 : ∀ k, k ≠ 97 → A1 k = A k := fun k hk => by rw [← hA1, upA_ne _ _ _ hk]
  have a97 : ∀ u, u < s → A1 97 u = nI (P u) := fun u hu => by
    rw [← hA1, upA_same, pk_cpy_in (by omega) (by omega), show 0 + (u - 0) = u by omega]
    exact hP u hu
  have g4 : G1 93 4 = nI s := by rw [← hG1, upA_same, upd_eq]
  generalize hB1 : upA B 96 (vp_updL (B 96) fr 0) = B1
  obtain ⟨B2, e1, e2, e3⟩ := s_sums (A := A1) (G := G1) (N := N) (C := C) (t := t) f2 h24 hto (fun i hi => ⟨by rw [a0 2 (by omega)]; exact hC i hi, hS.2.2.2 i hi⟩) (to + 1 - fr) fr N B1 (by omega) (Nat.le_refl _) (by omega) (fun x a b => by
    have : x = fr := by omega
    subst this
    rw [← hB1, upA_same, vpL_eq, Wt_self]
    rfl)
  obtain ⟨B3, c1', c2, c3⟩ := s_wAll2 (A := A1) (G := G1) (N := N) (P := P) (C := C) f2 hN hS hs hft hto (to - fr + 1) 0 N B2 (by omega) (by omega) ⟨g4, a97, e3⟩ (fun a b _ _ _ h => by omega)
  refine ⟨A1, B3, G1, ?_, a0, fun k h1 h2 h3 => by rw [c2 k h1 h2, e2 k h3, ← hB1, upA_ne _ _ _ h3], fun k hk => by rw [← hG1, upA_ne _ _ _ hk], ⟨g4, a97, fun x a b => by rw [c2 96 (by omega) (by omega)]; exact e3 x a b⟩, c3⟩
  unfold f_X4_weigh
  rw [px_93_4 f2, sb, gx_93_3 f2, sb, hG1, show (0 : Int32) = nI 0 from rfl, show (4 : Int32) = nI 4 from rfl, cpI_mem (ly1 fl) (ly97 f2) (by decide) (by decide) (by decide) (by decide), sb, hA1, gx_93_2 f2, sb, stJ_n (ly96 f2) (by omega) (by decide), sb, hB1, e1, c1']
end We
