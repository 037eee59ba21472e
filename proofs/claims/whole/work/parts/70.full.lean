/-! full: the words take all the room when every sign leads somewhere from every place -/
def sm (f : Nat → Nat) : Nat → Nat
  | 0 => 0
  | n + 1 => sm f n + f n
theorem sm_congr {f g : Nat → Nat} : ∀ n, (∀ i, i < n → f i = g i) → sm f n = sm g n := by
  intro n
  induction n with
  | zero => intro _; rfl
  | succ n ih => intro h; show sm f n + f n = sm g n + g n; rw [ih (fun i hi => h i (by omega)), h n (by omega)]
theorem sm_add (f g : Nat → Nat) : ∀ n, sm (fun i => f i + g i) n = sm f n + sm g n := by
  intro n
  induction n with
  | zero => rfl
  | succ n ih => show sm (fun i => f i + g i) n + (f n + g n) = sm f n + f n + (sm g n + g n); rw [ih]; omega
theorem sm_zero : ∀ n, sm (fun _ => 0) n = 0 := by
  intro n
  induction n with
  | zero => rfl
  | succ n ih => show sm (fun _ => 0) n + 0 = 0; rw [ih]
theorem sm_comm (h : Nat → Nat → Nat) (s : Nat) : ∀ t, sm (fun i => sm (fun v => h i v) s) t = sm (fun v => sm (fun i => h i v) t) s := by
  intro t
  induction t with
  | zero => exact (sm_zero s).symm
  | succ t ih =>
    show sm (fun i => sm (fun v => h i v) s) t + sm (fun v => h t v) s = sm (fun v => sm (fun i => h i v) t + h t v) s
    rw [ih, sm_add]
theorem sm_one {a c : Nat} : ∀ s, sm (fun v => if v = a then c else 0) s = if a < s then c else 0 := by
  intro s
  induction s with
  | zero => rfl
  | succ s ih =>
    show sm (fun v => if v = a then c else 0) s + (if s = a then c else 0) = _
    rw [ih]
    by_cases h1 : a < s
    · rw [if_pos h1, if_neg (by omega), if_pos (by omega)]; rfl
    · by_cases h2 : s = a
      · rw [if_neg h1, if_pos h2, if_pos (by omega)]; omega
      · rw [if_neg h1, if_neg h2, if_neg (by omega)]
theorem sm_most {f : Nat → Nat} {c : Nat} : ∀ n, (∀ i, i < n → f i ≤ c) → sm f n ≤ n * c ∧ (sm f n = n * c ↔ ∀ i, i < n → f i = c) := by
  intro n
  induction n with
  | zero => intro _; exact ⟨Nat.zero_le _, ⟨fun _ i hi => by omega, fun _ => (Nat.zero_mul c).symm⟩⟩
  | succ n ih =>
    intro h
    obtain ⟨h1, h2⟩ := ih (fun i hi => h i (by omega))
    have h3 := h n (by omega)
    have h4 : (n + 1) * c = n * c + c := Nat.succ_mul n c
    show sm f n + f n ≤ _ ∧ (sm f n + f n = _ ↔ _)
    refine ⟨by omega, ⟨fun e i hi => ?_, fun e => ?_⟩⟩
    · by_cases hin : i = n
      · subst hin; omega
      · exact h2.mp (by omega) i (by omega)
    · rw [h2.mpr (fun i hi => e i (by omega)), e n (by omega), h4]
section Kr
variable {R n : Nat → Nat} {s t : Nat}
def exW (R n : Nat → Nat) (x : Nat × Nat) (i : Nat) : Prop := ct (R i) x.2 = x.1 ∧ x.2 ≤ n i
theorem exW_dec (R n : Nat → Nat) (x : Nat × Nat) (i : Nat) : exW R n x i ∨ ¬ exW R n x i := Classical.em _
def kr (R n : Nat → Nat) (s t : Nat) (x : Nat × Nat) : Nat := sm (fun i => if ct (R i) x.2 = x.1 ∧ x.2 ≤ n i then s ^ (24 - n i) else 0) t
def isW (R n : Nat → Nat) (t : Nat) (x : Nat × Nat) : Prop := ∃ i, i < t ∧ n i = x.2 ∧ R i = x.1
def isP (R n : Nat → Nat) (t : Nat) (x : Nat × Nat) : Prop := ∃ i, i < t ∧ x.2 < n i ∧ ct (R i) x.2 = x.1
/-- words: short enough, clean, of signs below s -/
def WW (R n : Nat → Nat) (s t : Nat) : Prop := ∀ i, i < t → R i < 4 ^ 24 ∧ n i ≤ 24 ∧ rz (R i) (n i) ∧ ∀ k, k < n i → dg (R i) k < s
theorem pre_eq (hP : PF R n t) (hW : WW R n s t) {i j : Nat} (hi : i < t) (hj : j < t) (h : ct (R j) (n i) = R i) (hl : n i ≤ n j) : i = j := by
  by_cases e : i = j
  · exact e
  · exfalso
    have h1 := pf_ne hP hi hj e
    have h2 : n i ≤ al (R i ^^^ R j) := by
      rw [al_iff (hW i hi).1 (hW j hj).1 (hW i hi).2.1, ← ct_eq_iff, h, ct_all (hW i hi).2.2.1]
    omega
theorem kr_W (hP : PF R n t) (hW : WW R n s t) {x : Nat × Nat} (h : isW R n t x) : kr R n s t x = s ^ (24 - x.2) := by
  obtain ⟨i, hi, h1, h2⟩ := h
  unfold kr
  rw [sm_congr (g := fun j => if j = i then s ^ (24 - x.2) else 0) t (fun j hj => ?_), sm_one, if_pos hi]
  by_cases e : j = i
  · subst e
    rw [if_pos ⟨by rw [← h1, ct_all (hW j hj).2.2.1, h2], by omega⟩, if_pos rfl, h1]
  · rw [if_neg e, if_neg (fun ⟨g1, g2⟩ => e (pre_eq hP hW hi hj (by rw [h1, g1, h2]) (by omega)).symm)]
theorem kr_N (hW : WW R n s t) {x : Nat × Nat} (h1 : ¬ isW R n t x) (h2 : ¬ isP R n t x) : kr R n s t x = 0 := by
  unfold kr
  rw [sm_congr (g := fun _ => 0) t (fun j hj => ?_), sm_zero]
  rw [if_neg]
  rintro ⟨g1, g2⟩
  by_cases e : x.2 = n j
  · exact h1 ⟨j, hj, e.symm, by rw [← g1, e, ct_all (hW j hj).2.2.1]⟩
  · exact h2 ⟨j, hj, by omega, g1⟩
theorem isP_W (hP : PF R n t) (hW : WW R n s t) {x : Nat × Nat} (h : isP R n t x) : ¬ isW R n t x := by
  rintro ⟨i, hi, h1, h2⟩
  obtain ⟨j, hj, g1, g2⟩ := h
  have := pre_eq hP hW hi hj (by rw [h1, g2, h2]) (by omega)
  subst this
  omega
theorem chd_iff (hW : WW R n s t) {x : Nat × Nat} (hx : x.2 ≤ 23) (hz : rz x.1 x.2) {i v : Nat} (hi : i < t) (hv : v < 4) : ct (R i) (chd x v).2 = (chd x v).1 ↔ ct (R i) x.2 = x.1 ∧ dg (R i) x.2 = v := by
  show ct (R i) (x.2 + 1) = x.1 + v * 4 ^ (23 - x.2) ↔ _
  have hp : 0 < 4 ^ (23 - x.2) := Nat.pow_pos (by decide)
  constructor
  · intro e
    have h1 : ct (R i) x.2 = x.1 := by
      have := congrArg (fun y => ct y x.2) e
      rw [ct_ct (by omega) (by omega), ct_add (by omega) hz hv] at this
      exact this
    refine ⟨h1, ?_⟩
    rw [ct_succ (by omega), h1] at e
    exact Nat.eq_of_mul_eq_mul_right hp (Nat.add_left_cancel e)
  · rintro ⟨e1, e2⟩
    rw [ct_succ (by omega), e1, e2]
theorem isP_ok (hW : WW R n s t) {x : Nat × Nat} (h : isP R n t x) : x.1 < 4 ^ 24 ∧ x.2 ≤ 23 ∧ rz x.1 x.2 := by
  obtain ⟨i, hi, h1, h2⟩ := h
  rw [← h2]
  have := (hW i hi).2.1
  exact ⟨ct_lt (hW i hi).1, by omega, ct_rz _ _⟩
theorem kr_P (hs : s ≤ 4) (hP : PF R n t) (hW : WW R n s t) {x : Nat × Nat} (h : isP R n t x) : kr R n s t x = sm (fun v => kr R n s t (chd x v)) s := by
  obtain ⟨x1, x2, x3⟩ := isP_ok hW h
  have hnw := isP_W hP hW h
  unfold kr
  rw [← sm_comm (fun i v => if ct (R i) (chd x v).2 = (chd x v).1 ∧ (chd x v).2 ≤ n i then s ^ (24 - n i) else 0) s t]
  refine sm_congr t (fun i hi => ?_)
  by_cases e : ct (R i) x.2 = x.1 ∧ x.2 ≤ n i
  · have hlt : x.2 < n i := by
      refine Nat.lt_of_le_of_ne e.2 (fun he => hnw ⟨i, hi, he.symm, ?_⟩)
      rw [← e.1, he, ct_all (hW i hi).2.2.1]
    have hd := (hW i hi).2.2.2 x.2 hlt
    rw [if_pos e, sm_congr (g := fun v => if v = dg (R i) x.2 then s ^ (24 - n i) else 0) s (fun v hv => ?_), sm_one, if_pos hd]
    by_cases e2 : v = dg (R i) x.2
    · rw [if_pos e2, if_pos ⟨(chd_iff hW x2 x3 hi (by omega)).mpr ⟨e.1, e2.symm⟩, hlt⟩]
    · rw [if_neg e2, if_neg (fun g => e2 ((chd_iff hW x2 x3 hi (by omega)).mp g.1).2.symm)]
  · rw [if_neg e, sm_congr (g := fun _ => 0) s (fun v hv => ?_), sm_zero]
    rw [if_neg (fun g => e ⟨((chd_iff hW x2 x3 hi (by omega)).mp g.1).1, by have : (chd x v).2 = x.2 + 1 := rfl; omega⟩)]
/-- nothing is left open behind x -/
def Cmp (R n : Nat → Nat) (s t : Nat) (x : Nat × Nat) : Prop := isW R n t x ∨ (isP R n t x ∧ ∀ y, isP R n t y → x.2 ≤ y.2 → ct y.1 x.2 = x.1 → ∀ v, v < s → isW R n t (chd y v) ∨ isP R n t (chd y v))
theorem kr_main (hs0 : 0 < s) (hs : s ≤ 4) (hP : PF R n t) (hW : WW R n s t) : ∀ (d : Nat) (x : Nat × Nat), x.2 + d = 24 → kr R n s t x ≤ s ^ (24 - x.2) ∧ (kr R n s t x = s ^ (24 - x.2) ↔ Cmp R n s t x) := by
  intro d
  induction d with
  | zero =>
    intro x hx
    have hpos : 0 < s ^ (24 - x.2) := Nat.pow_pos hs0
    have hnp : ¬ isP R n t x := fun ⟨i, hi, h1, _⟩ => by have := (hW i hi).2.1; omega
    by_cases hw : isW R n t x
    · rw [kr_W hP hW hw]
      exact ⟨Nat.le_refl _, fun _ => Or.inl hw, fun _ => rfl⟩
    · rw [kr_N hW hw hnp]
      exact ⟨Nat.zero_le _, fun e => by omega, fun e => e.elim (fun e => absurd e hw) (fun e => absurd e.1 hnp)⟩
  | succ d ih =>
    intro x hx
    have hpos : 0 < s ^ (24 - x.2) := Nat.pow_pos hs0
    by_cases hw : isW R n t x
    · rw [kr_W hP hW hw]
      exact ⟨Nat.le_refl _, fun _ => Or.inl hw, fun _ => rfl⟩
    by_cases hp : isP R n t x
    · obtain ⟨x1, x2, x3⟩ := isP_ok hW hp
      have hc : ∀ v, v < s → kr R n s t (chd x v) ≤ s ^ (23 - x.2) ∧ (kr R n s t (chd x v) = s ^ (23 - x.2) ↔ Cmp R n s t (chd x v)) := by
        intro v _
        have := ih (chd x v) (by show x.2 + 1 + d = 24; omega)
        rw [show 24 - (chd x v).2 = 23 - x.2 by show 24 - (x.2 + 1) = _; omega] at this
        exact this
      have hm := sm_most (f := fun v => kr R n s t (chd x v)) s (fun v hv => (hc v hv).1)
      rw [kr_P hs hP hW hp, show s ^ (24 - x.2) = s * s ^ (23 - x.2) by rw [show 24 - x.2 = (23 - x.2) + 1 by omega, Nat.pow_succ, Nat.mul_comm]]
      refine ⟨hm.1, hm.2.trans ⟨fun h => Or.inr ⟨hp, fun y hy hl he v hv => ?_⟩, fun h v hv => ?_⟩⟩
      · -- every child is complete
        have hcm : ∀ v, v < s → Cmp R n s t (chd x v) := fun v hv => (hc v hv).2.mp (h v hv)
        obtain ⟨y1, y2, y3⟩ := isP_ok hW hy
        by_cases e : y.2 = x.2
        · have hxy : y = x := by
            refine Prod.ext ?_ e
            rw [← he, ← e, ct_all y3]
          rw [hxy]
          exact (hcm v hv).imp id (fun e => e.1)
        · obtain ⟨i, hi, g1, g2⟩ := id hy
          have hd := (hW i hi).2.2.2 x.2 (by omega)
          have h3 : ct (R i) x.2 = x.1 := by rw [← he, ← g2, ct_ct (by omega) (by omega)]
          have h4 : ct (R i) (chd x (dg (R i) x.2)).2 = (chd x (dg (R i) x.2)).1 := (chd_iff hW x2 x3 hi (by omega)).mpr ⟨h3, rfl⟩
          rcases hcm _ hd with hq | ⟨-, hq⟩
          · exfalso
            refine isP_W hP hW (x := chd x (dg (R i) x.2)) ⟨i, hi, ?_, h4⟩ hq
            show x.2 + 1 < n i
            omega
          · refine hq y hy (show x.2 + 1 ≤ y.2 by omega) ?_ v hv
            rw [← g2, ct_ct (show (chd x (dg (R i) x.2)).2 ≤ y.2 by show x.2 + 1 ≤ y.2; omega) (by omega), h4]
      · refine (hc v hv).2.mpr ?_
        rcases h with h | ⟨-, h⟩
        · exact absurd h hw
        · rcases h x hp (Nat.le_refl _) (ct_all x3) v hv with h5 | h5
          · exact Or.inl h5
          · refine Or.inr ⟨h5, fun y hy hl he => h y hy (by have : (chd x v).2 = x.2 + 1 := rfl; omega) ?_⟩
            have e1 := congrArg (fun q => ct q x.2) he
            have e2 : ct (chd x v).1 x.2 = x.1 := ct_add (by omega) x3 (by omega)
            rw [ct_ct (show x.2 ≤ (chd x v).2 by show x.2 ≤ x.2 + 1; omega) (show x.2 + 1 ≤ 24 by omega), e2] at e1
            exact e1
    · rw [kr_N hW hw hp]
      exact ⟨Nat.zero_le _, fun e => by omega, fun e => e.elim (fun e => absurd e hw) (fun e => absurd e.1 hp)⟩
theorem kr_full (hs0 : 0 < s) (hs : s ≤ 4) (ht : 0 < t) (hP : PF R n t) (hW : WW R n s t) : sm (fun i => s ^ (24 - n i)) t = s ^ 24 ↔ ∀ y, isP R n t y → ∀ v, v < s → isW R n t (chd y v) ∨ isP R n t (chd y v) := by
  have hr : isP R n t (0, 0) := ⟨0, ht, hP.1 0 ht, ct_0 (hW 0 ht).1⟩
  have h0 := (kr_main hs0 hs hP hW 24 (0, 0) rfl).2
  have e : kr R n s t (0, 0) = sm (fun i => s ^ (24 - n i)) t := by
    unfold kr
    exact sm_congr t (fun i hi => if_pos ⟨ct_0 (hW i hi).1, Nat.zero_le _⟩)
  rw [e] at h0
  refine h0.trans ⟨fun h => ?_, fun h => Or.inr ⟨hr, fun y hy _ _ => h y hy⟩⟩
  rcases h with h | ⟨-, h⟩
  · exact absurd h (isP_W hP hW hr)
  · intro y hy v hv
    exact h y hy (Nat.zero_le _) (ct_0 (isP_ok hW hy).1) v hv
end Kr
theorem Ws.ww {s t : Nat} {b : Nat → Int64} {a : Nat → Int32} {R n : Nat → Nat} (h : Ws s t b a R n) : WW R n s t := fun i hi => ⟨(h i hi).2.2.1, (h i hi).2.2.2.1, (h i hi).2.2.2.2.1, (h i hi).2.2.2.2.2⟩
theorem pls_mem {R n : Nat → Nat} {t : Nat} {y : Nat × Nat} : y ∈ PLS R n t ↔ isP R n t y := by
  unfold PLS
  rw [vp_mem]
  constructor
  · rintro (h | ⟨j, k, h1, h2, h3, h4⟩)
    · cases h
    · subst h4; exact ⟨j, by omega, h3, rfl⟩
  · rintro ⟨i, h1, h2, h3⟩
    exact Or.inr ⟨i, y.2, Nat.zero_le _, by omega, h2, Prod.ext h3.symm rfl⟩
theorem ldO_ne {R n : Nat → Nat} {t : Nat} {y : Nat × Nat} : ldO (PLS R n t) R n t y ≠ none ↔ isW R n t y ∨ isP R n t y := by
  unfold ldO
  by_cases h : wdB R n y t 0 = true
  · rw [if_pos h]
    refine ⟨fun _ => Or.inl ?_, fun _ e => (by cases e)⟩
    obtain ⟨j, h1, h2, h3, h4⟩ := (wdB_iff t 0).mp h
    exact ⟨j, by omega, h3, h4⟩
  · rw [if_neg h, Ne, ix_none, Classical.not_not, pls_mem]
    refine ⟨Or.inr, fun e => e.elim (fun ⟨j, h1, h2, h3⟩ => absurd ((wdB_iff t 0).mpr ⟨j, Nat.zero_le _, by omega, h2, h3⟩) h) id⟩
section Fu
variable {A : Nat → Nat → Int32} {B : Nat → Nat → Int64} {G : Nat → Nat → Int32} {fl : Nat → Bool} {N s t : Nat} {R n : Nat → Nat}
theorem s_rowsOf (hS : G 0 10 = nI s) (hs : s ≤ 4) {c : Nat} (hc : c ≤ 24) : ∀ (d k m : Nat), k + d = c → d < m → f_X6_rowsOfSize_L5 N m 0 (nI c) (lN (s ^ k)) (nI k) (mem A B G fl) = some (lN (s ^ c), mem A B G fl) := by
  intro d
  induction d with
  | zero =>
    intro k m h hm
    obtain ⟨m, rfl⟩ : ∃ j, m = j + 1 := ⟨m - 1, by omega⟩
    rw [f_X6_rowsOfSize_L5, if_pos (nI_le (by omega) (by omega)), show k = c by omega]
  | succ d ih =>
    intro k m h hm
    obtain ⟨m, rfl⟩ : ∃ j, m = j + 1 := ⟨m - 1, by omega⟩
    rw [f_X6_rowsOfSize_L5, if_neg (nI_ge (by omega) (by omega)), gx_0_10, sb, hS, nI_l (by omega), lN_mul, nI_1, ← Nat.pow_succ, ih (k + 1) m (by omega) (by omega)]
theorem s_rows (hS : G 0 10 = nI s) (hs : s ≤ 4) (hN : 24 < N) {c : Nat} (hc : c ≤ 24) : f_X6_rowsOfSize N 0 (nI c) (mem A B G fl) = some (lN (s ^ c), mem A B G fl) := by
  unfold f_X6_rowsOfSize
  have := s_rowsOf (A := A) (B := B) (fl := fl) (N := N) hS hs hc c 0 N (by omega) (by omega)
  exact this
theorem s_fullX (hS : G 0 10 = nI s) (hs : s ≤ 4) (ht : t ≤ 24) (hN : 24 < N) (hT : G 13 2 = nI t) (hW : Ws s t (B 14) (A 15) R n) : ∀ (d i m : Nat), i + d = t → d < m → f_X6_full_L27 N m 0 (lN (sm (fun i => s ^ (24 - n i)) i)) (nI i) (mem A B G fl) = some (bz (sm (fun i => s ^ (24 - n i)) t = s ^ 24), mem A B G fl) := by
  have hp : ∀ c, c ≤ 24 → s ^ c ≤ 4 ^ 24 := fun c hc => Nat.le_trans (Nat.pow_le_pow_left hs c) (Nat.pow_le_pow_right (by decide) hc)
  intro d
  induction d with
  | zero =>
    intro i m h hm
    obtain ⟨m, rfl⟩ : ∃ j, m = j + 1 := ⟨m - 1, by omega⟩
    have hi : i = t := by omega
    subst hi
    have h1 := (sm_most (f := fun i => s ^ (24 - n i)) (c := 4 ^ 24) i (fun j _ => hp _ (by omega))).1
    have h2 : i * 4 ^ 24 ≤ 24 * 4 ^ 24 := Nat.mul_le_mul_right _ ht
    have h3 := hp 24 (by omega)
    have h4 : (24 : Nat) * 4 ^ 24 < 2 ^ 63 := by decide
    have h5 : (4 : Nat) ^ 24 < 2 ^ 63 := by decide
    rw [f_X6_full_L27, gx_0_7, sb, gx_13_2, sb, hT, if_pos (nI_le (by omega) (by omega)), ck_0, sb, show (24 : Int32) = nI 24 from rfl, s_rows hS hs hN (by omega), b2s]
    by_cases e : sm (fun i => s ^ (24 - n i)) i = s ^ 24
    · rw [if_pos ((lg_eq (by omega) (by omega)).mpr e)]
      unfold bz
      rw [if_pos e]
    · rw [if_neg (fun q => e ((lg_eq (by omega) (by omega)).mp q))]
      unfold bz
      rw [if_neg e]
  | succ d ih =>
    intro i m h hm
    obtain ⟨m, rfl⟩ : ∃ j, m = j + 1 := ⟨m - 1, by omega⟩
    obtain ⟨w1, w2, w3, w4, -, -⟩ := hW i (by omega)
    rw [f_X6_full_L27, gx_0_7, sb, gx_13_2, sb, hT, if_neg (nI_ge (by omega) (by omega)), sb, gx_13_1, sb, ldI_n (ly15 fl) (by omega) (by decide), sb, w2, ck_0, sb, show (24 : Int32) = nI 24 from rfl, pk_sub w4, s_rows hS hs hN (by omega), b2s, lN_add, nI_1]
    exact ih (i + 1) m (by omega) (by omega)
def lvB (o : Nat → Option Nat) : Nat → Nat → Bool → Bool
  | 0, _, b => b
  | d + 1, v, b => lvB o d (v + 1) (b && (o v).isSome)
theorem lvB_iff {o : Nat → Option Nat} : ∀ (d v : Nat) (b : Bool), lvB o d v b = true ↔ b = true ∧ ∀ u, v ≤ u → u < v + d → o u ≠ none := by
  intro d
  induction d with
  | zero => intro v b; exact ⟨fun h => ⟨h, fun u h1 h2 => by omega⟩, fun h => h.1⟩
  | succ d ih =>
    intro v b
    show lvB o d (v + 1) (b && (o v).isSome) = true ↔ _
    rw [ih, Bool.and_eq_true, Option.isSome_iff_ne_none]
    constructor
    · rintro ⟨⟨h1, h2⟩, h3⟩
      refine ⟨h1, fun u g1 g2 => ?_⟩
      by_cases e : u = v
      · subst e; exact h2
      · exact h3 u (by omega) (by omega)
    · rintro ⟨h1, h2⟩
      exact ⟨⟨h1, h2 v (Nat.le_refl _) (by omega)⟩, fun u g1 g2 => h2 u (by omega) (by omega)⟩
theorem bz01 {b : Bool} : (bz (b = true) = 0 ↔ b = false) := by cases b <;> decide
theorem s_fullM1 (hs : s ≤ 4) (hS : G 44 1 = nI s) (k28 : Nat → Int32 → Int32 → A_M → Option (Int32 × A_M)) {k : Nat} (hk : k ≤ 553) {o : Nat → Option Nat} (ho : ∀ v, v < s → A 70 (4 * k + v) = pI (o v) ∧ ∀ j, o v = some j → j < 2 ^ 31) : ∀ (d v m : Nat) (b : Bool), v + d = s → d < m → f_X7_full_L38 N k28 m 44 (bz (b = true)) (nI k) (nI v) (mem A B G fl) = k28 44 (bz (lvB o d v b = true)) (nI (k + 1)) (mem A B G fl) := by
  intro d
  induction d with
  | zero =>
    intro v m b h hm
    obtain ⟨m, rfl⟩ : ∃ j, m = j + 1 := ⟨m - 1, by omega⟩
    rw [f_X7_full_L38, gx_44_1, sb, hS, if_pos (nI_le (by omega) (by omega)), f_X7_full_K75, nI_1]
    rfl
  | succ d ih =>
    intro v m b h hm
    obtain ⟨m, rfl⟩ : ∃ j, m = j + 1 := ⟨m - 1, by omega⟩
    obtain ⟨o1, o2⟩ := ho v (by omega)
    show _ = k28 44 (bz (lvB o d (v + 1) (b && (o v).isSome) = true)) _ _
    rw [f_X7_full_L38, gx_44_1, sb, hS, if_neg (nI_ge (by omega) (by omega))]
    cases b with
    | false =>
      rw [if_pos (by decide), f_X7_full_K67, f_X7_full_K68, nI_1]
      exact ih (v + 1) m false (by omega) (by omega)
    | true =>
      rw [if_neg (by decide), gx_44_41, sb, show ((4 : Int32) * nI k + nI v) = nI (4 * k + v) by rw [show (4 : Int32) = nI 4 from rfl, pk_mul, nI_add], ldI_n (ly70 fl) (by omega) (by decide), sb, o1]
      cases ho2 : o v with
      | none =>
        rw [if_pos (show pI none < 0 by decide), f_X7_full_K67, f_X7_full_K68, nI_1]
        exact ih (v + 1) m false (by omega) (by omega)
      | some j =>
        rw [if_neg (Int32.not_lt.mpr ((pI_neg (fun i hi => o2 i (by rw [ho2]; exact hi))).mpr (fun e => (by cases e)))), f_X7_full_K68, nI_1]
        exact ih (v + 1) m true (by omega) (by omega)
def flB (o : Nat → Nat → Option Nat) (s : Nat) : Nat → Nat → Bool → Bool
  | 0, _, b => b
  | d + 1, k, b => flB o s d (k + 1) (lvB (o k) s 0 b)
theorem flB_iff {o : Nat → Nat → Option Nat} {s : Nat} : ∀ (d k : Nat) (b : Bool), flB o s d k b = true ↔ b = true ∧ ∀ u v, k ≤ u → u < k + d → v < s → o u v ≠ none := by
  intro d
  induction d with
  | zero => intro k b; exact ⟨fun h => ⟨h, fun u v h1 h2 => by omega⟩, fun h => h.1⟩
  | succ d ih =>
    intro k b
    show flB o s d (k + 1) (lvB (o k) s 0 b) = true ↔ _
    rw [ih, lvB_iff]
    constructor
    · rintro ⟨⟨h1, h2⟩, h3⟩
      refine ⟨h1, fun u v g1 g2 g3 => ?_⟩
      by_cases e : u = k
      · subst e; exact h2 v (Nat.zero_le _) (by omega)
      · exact h3 u v (by omega) (by omega) g3
    · rintro ⟨h1, h2⟩
      exact ⟨⟨h1, fun v _ g => h2 k v (Nat.le_refl _) (by omega) (by omega)⟩, fun u v g1 g2 g3 => h2 u v (by omega) (by omega) g3⟩
theorem s_fullM (hs : s ≤ 4) (hN : 24 < N) (hS : G 44 1 = nI s) {P : Nat} (hp : P ≤ 553) (hP : G 44 40 = nI P) {o : Nat → Nat → Option Nat} (ho : ∀ k v, k < P → v < s → A 70 (4 * k + v) = pI (o k v) ∧ ∀ j, o k v = some j → j < 2 ^ 31) : ∀ (d k m : Nat) (b : Bool), k + d = P → d < m → f_X7_full_L28 N m 44 (bz (b = true)) (nI k) (mem A B G fl) = some (bz (flB o s d k b = true), mem A B G fl) := by
  intro d
  induction d with
  | zero =>
    intro k m b h hm
    obtain ⟨m, rfl⟩ : ∃ j, m = j + 1 := ⟨m - 1, by omega⟩
    rw [f_X7_full_L28, gx_44_40, sb, hP, if_pos (nI_le (by omega) (by omega))]
    cases b <;> rfl
  | succ d ih =>
    intro k m b h hm
    obtain ⟨m, rfl⟩ : ∃ j, m = j + 1 := ⟨m - 1, by omega⟩
    rw [f_X7_full_L28, gx_44_40, sb, hP, if_neg (nI_ge (by omega) (by omega)), show (0 : Int32) = nI 0 from rfl, s_fullM1 hs hS _ (by omega) (fun v hv => ho k v (by omega) hv) s 0 N b (by omega) (by omega), ih (k + 1) m _ (by omega) (by omega)]
    rfl
end Fu
theorem ldO_lt {R n : Nat → Nat} {t : Nat} {L : List (Nat × Nat)} (hl : L.length ≤ 553) {y : Nat × Nat} {j : Nat} (h : ldO L R n t y = some j) : j < 553 := by
  unfold ldO at h
  split at h
  · obtain rfl := Option.some.inj h; decide
  · have := (List.getElem?_eq_some_iff.mp (ix_some L 0 j h).2).1
    omega
theorem lo_full : LO_full Inv := LawI.mk (fx := f_X6_full NN 0) (fm := f_X7_full NN 44) (fun h => ok_X6_full NN h) (fun h => ok_X7_full NN h) (by
  intro z A B G fl hz hR
  obtain ⟨s, t, h1, hc, h3, h4, h5, h6, h7, h8⟩ := id hR
  obtain ⟨n1, n2, n3, n4, n5, n6, n7, n8⟩ := id h1
  unfold f_X6_full f_X7_full
  rcases id hc with ⟨c1, c2⟩ | ⟨c1, c2, c3, c4, c5, -⟩
  · refine ⟨-3, A, B, G, A, B, G, ?_, ?_, hR.next⟩
    · rw [ck_0, sb, s_hasCode0 c1, b2s, if_pos rfl]
    · rw [gx_44_4, sb, c2, if_pos rfl]
  · obtain ⟨R, n, w1, w2⟩ := ws_both c5
    by_cases hf : fo (badB R n 0 0 t) t 0 = none
    · have hP := pf_of hf
      obtain ⟨A', B', G', e1, e2, e3, e4, e5, e6⟩ := s_findPlaces (fl := fl) (N := NN) (by decide) n6 n3 hP.1 n2 n5 w2
      have ho : ∀ k v, k < (PLS R n t).length → v < s → A' 70 (4 * k + v) = pI (ldO (PLS R n t) R n t (chd ((PLS R n t).getD k (0, 0)) v)) ∧ ∀ j, ldO (PLS R n t) R n t (chd ((PLS R n t).getD k (0, 0)) v) = some j → j < 2 ^ 31 := by
        intro k v hk hv
        have hg : (PLS R n t)[k]? = some ((PLS R n t).getD k (0, 0)) := by
          rw [List.getD_eq_getElem?_getD, List.getElem?_eq_getElem hk]; rfl
        exact ⟨e6 k _ v hg hv, fun j hj => by have := ldO_lt e5 hj; omega⟩
      have hM := s_fullM (A := A') (B := B') (G := G') (fl := fl) (N := NN) n3 (by decide) (by rw [e2.2.2.2 1 (by omega)]; exact n2) e5 e3.1 ho (PLS R n t).length 0 NN true (by omega) (by show _ < 300000; omega)
      have hX := s_fullX (A := A) (B := B) (G := G) (fl := fl) (N := NN) n1 n3 n6 (by decide) c1 w1 t 0 NN (by omega) (by show _ < 300000; omega)
      have key : (flB (fun k v => ldO (PLS R n t) R n t (chd ((PLS R n t).getD k (0, 0)) v)) s (PLS R n t).length 0 true = true) ↔ sm (fun i => s ^ (24 - n i)) t = s ^ 24 := by
        rw [flB_iff, kr_full (by omega) n3 c3 hP w1.ww]
        constructor
        · rintro ⟨-, h⟩ y hy v hv
          obtain ⟨k, hk, hy2⟩ := List.mem_iff_getElem.mp (pls_mem.mpr hy)
          have := h k v (Nat.zero_le _) (by omega) hv
          rw [ldO_ne, List.getD_eq_getElem?_getD, List.getElem?_eq_getElem hk] at this
          rw [← hy2]
          exact this
        · intro h
          refine ⟨rfl, fun u v _ hu hv => ?_⟩
          rw [ldO_ne]
          have hu2 : u < (PLS R n t).length := by omega
          rw [List.getD_eq_getElem?_getD, List.getElem?_eq_getElem hu2]
          exact h _ (pls_mem.mp (List.getElem_mem hu2)) v hv
      refine ⟨bz (sm (fun i => s ^ (24 - n i)) t = s ^ 24), A, B, G, A', B', G', ?_, ?_, hR.frP e2⟩
      · rw [ck_0, sb, s_hasCode1 c1 c3 n6, b2s, if_neg (show ¬ (1 : Int32) = 0 by decide), gx_0_7, sb, ck_13, sb, s_isFreeX n6 w1 c1 (by show _ < 300000; omega), b2s, if_neg (bz1 hf)]
        exact hX
      · rw [gx_44_4, sb, c2, if_neg (show ¬ (1 : Int32) = 0 by decide), ck_44, sb, s_isFreeM n6 w2 n5 (by show _ < 300000; omega), b2s, if_neg (bz1 hf), ck_44, sb, e1, sb]
        refine hM.trans ?_
        congr 2
        unfold bz
        by_cases q : sm (fun i => s ^ (24 - n i)) t = s ^ 24
        · rw [if_pos q, if_pos (key.mpr q)]
        · rw [if_neg q, if_neg (fun e => q (key.mp e))]
    · refine ⟨-5, A, B, G, A, B, G, ?_, ?_, hR.next⟩
      · rw [ck_0, sb, s_hasCode1 c1 c3 n6, b2s, if_neg (show ¬ (1 : Int32) = 0 by decide), gx_0_7, sb, ck_13, sb, s_isFreeX n6 w1 c1 (by show _ < 300000; omega), b2s, if_pos (bz0 hf)]
      · rw [gx_44_4, sb, c2, if_neg (show ¬ (1 : Int32) = 0 by decide), ck_44, sb, s_isFreeM n6 w2 n5 (by show _ < 300000; omega), b2s, if_pos (bz0 hf)])
