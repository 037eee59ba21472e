/-! reading: the row ahead, the word that stands there -/
theorem ct_add {R k v : Nat} (hk : k < 24) (hz : rz R k) (hv : v < 4) : ct (R + v * 4 ^ (23 - k)) k = R := by
  unfold rz at hz
  unfold ct
  obtain ⟨q, rfl⟩ := Nat.dvd_of_mod_eq_zero hz
  have e2 : 4 ^ (24 - k) = 4 ^ (23 - k) * 4 := by rw [show 24 - k = (23 - k) + 1 by omega, Nat.pow_succ]
  have h1 : v * 4 ^ (23 - k) < 4 ^ (24 - k) := by
    rw [e2, Nat.mul_comm]
    exact Nat.mul_lt_mul_of_pos_left hv (Nat.pow_pos (by decide))
  rw [Nat.mul_add_div (Nat.pow_pos (by decide)), Nat.div_eq_of_lt h1, Nat.add_zero, Nat.mul_comm]
theorem ct_div (R n : Nat) : ct R n / 4 ^ (24 - n) = R / 4 ^ (24 - n) := Nat.mul_div_cancel _ (Nat.pow_pos (by decide))
theorem ct_ct {R k j : Nat} (h : k ≤ j) (hj : j ≤ 24) : ct (ct R j) k = ct R k := by
  unfold ct
  congr 1
  have e : 4 ^ (24 - k) = 4 ^ (24 - j) * 4 ^ (j - k) := by rw [← Nat.pow_add]; congr 1; omega
  rw [e, ← Nat.div_div_eq_div_mul, Nat.mul_div_cancel _ (Nat.pow_pos (by decide)), Nat.div_div_eq_div_mul]
theorem ct_eq_iff {X R n : Nat} : ct X n = ct R n ↔ X / 4 ^ (24 - n) = R / 4 ^ (24 - n) := by
  unfold ct
  constructor
  · intro h
    exact Nat.eq_of_mul_eq_mul_right (Nat.pow_pos (by decide)) h
  · intro h; rw [h]
/-- the row of the k signs from place p of the line on -/
def rwF (l : Nat → Nat) (p : Nat) : Nat → Nat
  | 0 => 0
  | k + 1 => rwF l p k + l (p + k) * 4 ^ (23 - k)
section Rw
variable {l : Nat → Nat} {p a : Nat}
theorem rwF_ok (hl : ∀ j, j < a → l (p + j) < 4) : ∀ k, k ≤ 24 → k ≤ a → rz (rwF l p k) k ∧ rwF l p k < 4 ^ 24 := by
  intro k
  induction k with
  | zero => intro _ _; exact ⟨rz_0 0, Nat.pow_pos (by decide)⟩
  | succ k ih =>
    intro h1 h2
    obtain ⟨q1, q2⟩ := ih (by omega) (by omega)
    exact ⟨rz_add (by omega) q1, row_add_lt (by omega) q2 q1 (hl k (by omega))⟩
theorem rwF_ct (ha : a ≤ 24) (hl : ∀ j, j < a → l (p + j) < 4) : ∀ d k, k + d = a → ct (rwF l p a) k = rwF l p k := by
  intro d
  induction d with
  | zero =>
    intro k h
    have : k = a := by omega
    subst this
    exact ct_all (rwF_ok hl k ha (Nat.le_refl _)).1
  | succ d ih =>
    intro k h
    have h1 := ih (k + 1) (by omega)
    have h2 := ct_add (v := l (p + k)) (show k < 24 by omega) (rwF_ok hl k (by omega) (by omega)).1 (hl k (by omega))
    rw [← ct_ct (show k ≤ k + 1 by omega) (by omega), h1]
    exact h2
end Rw
/-- how far the line and word i are alike -/
def mI (X a : Nat) (R n : Nat → Nat) (i : Nat) : Nat := min (al (X ^^^ R i)) (min a (n i))
/-- no word is the beginning of another -/
def PF (R n : Nat → Nat) (t : Nat) : Prop := (∀ i, i < t → 0 < n i) ∧ ∀ i j, i < j → j < t → ¬ min (n i) (n j) ≤ al (R i ^^^ R j)
theorem fo_none {P : Nat → Bool} : ∀ (d i : Nat), fo P d i = none ↔ ∀ j, i ≤ j → j < i + d → P j = false := by
  intro d
  induction d with
  | zero => intro i; exact ⟨fun _ j h1 h2 => absurd h1 (by omega), fun _ => rfl⟩
  | succ d ih =>
    intro i
    show (if P i = true then some i else fo P d (i + 1)) = none ↔ _
    by_cases h : P i = true
    · rw [if_pos h]
      exact ⟨fun e => (by cases e), fun e => (by have := e i (by omega) (by omega); rw [h] at this; cases this)⟩
    · rw [if_neg h, ih (i + 1)]
      constructor
      · intro e j h1 h2
        by_cases q : j = i
        · subst q; simpa using h
        · exact e j (by omega) (by omega)
      · intro e j h1 h2; exact e j (by omega) (by omega)
theorem pf_of {R n : Nat → Nat} {t : Nat} (h : fo (badB R n 0 0 t) t 0 = none) : PF R n t := by
  rw [fo_none] at h
  refine ⟨fun i hi => ?_, fun i j h1 h2 => ?_⟩
  · have := h i (by omega) (by omega)
    unfold badB at this
    rw [alone0] at this
    have h3 : decide (n i = 0) = false := by cases q : decide (n i = 0) with | false => rfl | true => rw [q] at this; cases this
    have := of_decide_eq_false h3
    omega
  · have := h i (by omega) (by omega)
    unfold badB at this
    have h3 : withO R n 0 t i = none := by
      cases q : withO R n 0 t i with
      | none => rfl
      | some _ => rw [q] at this; simp at this
    unfold withO at h3
    rw [fo_none] at h3
    have h4 := h3 j (by omega) (by omega)
    unfold brB at h4
    rw [decide_eq_false (show ¬ (0 : Int32) = 2 by decide)] at h4
    have h5 : decide (min (n i) (n j) ≤ al (R i ^^^ R j)) = false := by
      cases q : decide (min (n i) (n j) ≤ al (R i ^^^ R j)) with
      | false => rfl
      | true => rw [q] at h4; cases h4
    exact of_decide_eq_false h5
def rdF (X a : Nat) (R n : Nat → Nat) (t : Nat) : Option Nat := fo (fun i => decide (mI X a R n i = n i)) t 0
def fmx (X a : Nat) (R n : Nat → Nat) : Nat → Nat → Nat → Nat
  | 0, _, f => f
  | d + 1, i, f => fmx X a R n d (i + 1) (max f (mI X a R n i))
theorem fmx_le {X a : Nat} {R n : Nat → Nat} {c : Nat} (h : a ≤ c) : ∀ d i f, f ≤ c → fmx X a R n d i f ≤ c := by
  intro d
  induction d with
  | zero => intro i f hf; exact hf
  | succ d ih =>
    intro i f hf
    apply ih
    unfold mI
    omega
theorem fmx_ge {X a : Nat} {R n : Nat → Nat} : ∀ d i f, f ≤ fmx X a R n d i f ∧ ∀ j, i ≤ j → j < i + d → mI X a R n j ≤ fmx X a R n d i f := by
  intro d
  induction d with
  | zero => intro i f; exact ⟨Nat.le_refl _, fun j h1 h2 => absurd h1 (by omega)⟩
  | succ d ih =>
    intro i f
    have := ih (i + 1) (max f (mI X a R n i))
    refine ⟨Nat.le_trans (Nat.le_max_left _ _) this.1, fun j h1 h2 => ?_⟩
    by_cases q : j = i
    · subst q; exact Nat.le_trans (Nat.le_max_right _ _) this.1
    · exact this.2 j (by omega) (by omega)
theorem fmx_at {X a : Nat} {R n : Nat → Nat} : ∀ d i f, fmx X a R n d i f = f ∨ ∃ j, i ≤ j ∧ j < i + d ∧ fmx X a R n d i f = mI X a R n j := by
  intro d
  induction d with
  | zero => intro i f; exact Or.inl rfl
  | succ d ih =>
    intro i f
    rcases ih (i + 1) (max f (mI X a R n i)) with h | ⟨j, h1, h2, h3⟩
    · by_cases q : f ≤ mI X a R n i
      · right
        exact ⟨i, by omega, by omega, by show fmx X a R n d (i + 1) (max f (mI X a R n i)) = _; rw [h, Nat.max_eq_right q]⟩
      · left
        show fmx X a R n d (i + 1) (max f (mI X a R n i)) = f
        rw [h, Nat.max_eq_left (by omega)]
    · exact Or.inr ⟨j, by omega, by omega, h3⟩
section RX
variable {A : Nat → Nat → Int32} {B : Nat → Nat → Int64} {G : Nat → Nat → Int32} {fl : Nat → Bool} {N s t kc : Nat} {R n : Nat → Nat}
theorem s_rowX {l : Nat → Nat} {p a L : Nat} (hL : L ≤ 200) (ha : a ≤ 24) (hpa : p + a ≤ L) (hg : G 6 4 = nI p) (hA : ∀ j, j < L → A 7 j = nI (l j) ∧ l j < 4) : ∀ (d k m : Nat), k + d = a → d < m → f_X2_readWord_L20 N m 6 kc (nI a) (lN (rwF l p k)) (nI k) (mem A B G fl) = f_X2_readWord_K51 N 6 kc (nI a) (lN (rwF l p a)) (mem A B G fl) := by
  intro d
  induction d with
  | zero =>
    intro k m h1 hm
    obtain ⟨m, rfl⟩ : ∃ j, m = j + 1 := ⟨m - 1, by omega⟩
    have : k = a := by omega
    subst this
    rw [f_X2_readWord_L20, if_pos (nI_le (by omega) (by omega))]
  | succ d ih =>
    intro k m h1 hm
    obtain ⟨m, rfl⟩ : ∃ j, m = j + 1 := ⟨m - 1, by omega⟩
    have hq := hA (p + k) (by omega)
    have hz := rwF_ok (l := l) (p := p) (a := a) (fun j hj => (hA (p + j) (by omega)).2) k (by omega) (by omega)
    rw [f_X2_readWord_L20, if_neg (nI_ge (by omega) (by omega)), gx_6_0, sb, gx_6_4, sb, hg, nI_add, ldI_n (ly7 fl) (by omega) (by decide), sb, hq.1, s_rowAndSign (by omega) hz.1 hq.2, b2s, nI_1]
    exact ih (k + 1) m (by omega) (by omega)
theorem s_wordX (hc : cdL fl kc) (hkc : kc = 13 ∨ kc = 16) (ht : t ≤ 24) (hW : Ws s t (B (kc + 1)) (A (kc + 2)) R n) (hG : G kc 2 = nI t) {X a p c : Nat} (hX : X < 4 ^ 24) (ha : a ≤ 24) (hg4 : G 6 4 = nI p) (hg3 : G 6 3 = nI c) (hc2 : c < 200) : ∀ (d i m f : Nat), i + d = t → d < m → f ≤ a → f_X2_readWord_L57 N m 6 kc (nI a) (lN X) (nI f) (nI i) (mem A B G fl) = match fo (fun i => decide (mI X a R n i = n i)) d i with
    | some j => some (nI j, mem (upA A 8 (upd (A 8) c (nI j))) B (upA G 6 (upd (upd (G 6) 4 (nI (p + n j))) 3 (nI (c + 1)))) fl)
    | none => some ((-100 : Int32) - nI p - nI (fmx X a R n d i f), mem A B G fl) := by
  intro d
  induction d with
  | zero =>
    intro i m f h1 hm hf
    obtain ⟨m, rfl⟩ : ∃ j, m = j + 1 := ⟨m - 1, by omega⟩
    rw [f_X2_readWord_L57, cd_num hc, sb, hG, if_pos (nI_le (by omega) (by omega)), gx_6_4, sb, hg4]
    rfl
  | succ d ih =>
    intro i m f h1 hm hf
    obtain ⟨m, rfl⟩ : ∃ j, m = j + 1 := ⟨m - 1, by omega⟩
    obtain ⟨u1, u2, u3, u4, -⟩ := hW i (by omega)
    have h24 := al_24 (X ^^^ R i)
    have hm1 : mnI (nI (al (X ^^^ R i))) (mnI (nI a) (nI (n i))) = nI (mI X a R n i) := by
      rw [mnI_n (by omega) (by omega), mnI_n (by omega) (by omega)]
      rfl
    have hml : mI X a R n i ≤ a := by unfold mI; omega
    have hu : fo (fun i => decide (mI X a R n i = n i)) (d + 1) i = if decide (mI X a R n i = n i) = true then some i else fo (fun i => decide (mI X a R n i = n i)) d (i + 1) := rfl
    rw [f_X2_readWord_L57, cd_num hc, sb, hG, if_neg (nI_ge (by omega) (by omega)), cd_rows hc, sb, ldJ_n hc.2.1 (by omega) (by decide), sb, u1, s_alike hX u3, b2s, cd_sizes hc, sb, ldI_n hc.2.2.1 (by omega) (by decide), sb, sb, ldI_n hc.2.2.1 (by omega) (by decide), sb, u2, hm1, hu]
    by_cases h : mI X a R n i = n i
    · rw [if_pos (by rw [h]), if_pos (decide_eq_true h)]
      unfold f_X2_readWord_K105
      rw [gx_6_4, sb, hg4, px_6_4, sb, gx_6_1, sb, gx_6_3, sb]
      show (stI _ 8 (G 6 3) (nI i)).bind _ = _
      rw [hg3, stI_n (ly8 fl) hc2 (by decide), sb, gx_6_3, sb, px_6_3, sb, upA_same, upA_twice, nI_add, h]
      show some (nI i, mem _ _ (upA G 6 (upd (upd (G 6) 4 (nI (p + n i))) 3 (G 6 3 + 1))) fl) = _
      rw [hg3, nI_1]
    · rw [if_neg (fun e => h ((nI_eq (by omega) (by omega)).mp e)), if_neg (by simpa using h), mxI_n (by omega) (by omega), nI_1]
      exact ih (i + 1) m _ (by omega) (by omega) (by omega)
end RX

section RM
variable {A : Nat → Nat → Int32} {B : Nat → Nat → Int64} {G : Nat → Nat → Int32} {fl : Nat → Bool} {N s t : Nat} {R n : Nat → Nat}
/-- the word that the row is -/
def eqB (R n : Nat → Nat) (x q i : Nat) : Bool := decide (n i = q) && decide (R i = x)
/-- a word that begins with the row -/
def goB (R n : Nat → Nat) (x q i : Nat) : Bool := decide (q ≤ n i) && decide (q ≤ al (x ^^^ R i))
theorem s_atM1 (ht : t ≤ 24) (hW : Ws s t (B 47) (A 48) R n) (hG : G 44 3 = nI t) {x q : Nat} (hx : x < 4 ^ 24) (hq : q ≤ 24) (k8 : Nat → Int64 → Int32 → Int32 → A_M → Option (Int32 × A_M)) (x5 : Int32) : ∀ (d i m : Nat) (b : Bool), i + d = t → d < m → f_X7_wordAt_L57 N k8 m 44 (lN x) (nI q) x5 (bz (b = true)) (nI i) (mem A B G fl) = match fo (eqB R n x q) d i with
    | some j => some (nI j, mem A B G fl)
    | none => if (b || (fo (goB R n x q) d i).isSome) = true then k8 44 (lN x) (nI q) (x5 + 1) (mem A B G fl) else some ((-x5) - 1, mem A B G fl) := by
  have hx' := r48 hx
  intro d
  induction d with
  | zero =>
    intro i m b h1 hm
    obtain ⟨m, rfl⟩ : ∃ j, m = j + 1 := ⟨m - 1, by omega⟩
    rw [f_X7_wordAt_L57, gx_44_3, sb, hG, if_pos (nI_le (by omega) (by omega))]
    unfold f_X7_wordAt_K141
    cases b
    · rw [if_pos (show bz (false = true) = 0 from rfl)]; rfl
    · rw [if_neg (show ¬ bz (true = true) = 0 by decide)]; rfl
  | succ d ih =>
    intro i m b h1 hm
    obtain ⟨m, rfl⟩ : ∃ j, m = j + 1 := ⟨m - 1, by omega⟩
    obtain ⟨u1, u2, u3, u4, -⟩ := hW i (by omega)
    have u3' := r48 u3
    have l1 : ldJ (mem A B G fl) 47 (nI i) = some (lN (R i)) := by rw [ldJ_n (ly47 fl) (by omega) (by decide), u1]
    have l2 : ldI (mem A B G fl) 48 (nI i) = some (nI (n i)) := by rw [ldI_n (ly48 fl) (by omega) (by decide), u2]
    have hu : fo (eqB R n x q) (d + 1) i = if eqB R n x q i = true then some i else fo (eqB R n x q) d (i + 1) := rfl
    have hg : fo (goB R n x q) (d + 1) i = if goB R n x q i = true then some i else fo (goB R n x q) d (i + 1) := rfl
    have h93 : eqB R n x q i = false → f_X7_wordAt_K93 N k8 (f_X7_wordAt_L57 N k8 m) 44 (lN x) (nI q) x5 (bz (b = true)) (nI i) (mem A B G fl) = match fo (eqB R n x q) (d + 1) i with
        | some j => some (nI j, mem A B G fl)
        | none => if (b || (fo (goB R n x q) (d + 1) i).isSome) = true then k8 44 (lN x) (nI q) (x5 + 1) (mem A B G fl) else some ((-x5) - 1, mem A B G fl) := by
      intro he
      rw [hu, if_neg (by rw [he]; decide), hg]
      unfold f_X7_wordAt_K93 f_X7_wordAt_K132 f_X7_wordAt_K128 f_X7_wordAt_K133
      rw [nI_1]
      cases b
      · rw [if_pos (show bz (false = true) = 0 from rfl), if_neg (show ¬ (24 : Int32) < nI q from nI_nlt (a := 24) hq (by decide))]
        simp only [gx_44_7, gx_44_8, sb, l1, l2, s_begins hx u3 hq (show n i < 2 ^ 31 by omega), b2s]
        by_cases h : q ≤ n i ∧ q ≤ al (x ^^^ R i)
        · rw [if_neg (bz1 h), if_pos (show goB R n x q i = true by unfold goB; rw [decide_eq_true h.1, decide_eq_true h.2]; rfl)]
          exact ih (i + 1) m true (by omega) (by omega)
        · rw [if_pos (bz0 h), if_neg (show ¬ goB R n x q i = true by unfold goB; simpa using h)]
          exact ih (i + 1) m false (by omega) (by omega)
      · rw [if_neg (show ¬ bz (true = true) = 0 by decide)]
        exact ih (i + 1) m true (by omega) (by omega)
    rw [f_X7_wordAt_L57, gx_44_3, sb, hG, if_neg (nI_ge (by omega) (by omega)), gx_44_8, sb, l2, sb]
    by_cases h : n i = q
    · rw [if_pos (by rw [h]), gx_44_7, sb, l1, sb]
      by_cases h2 : R i = x
      · rw [if_pos ((lg_eq (by omega) (by omega)).mpr h2), hu, if_pos (by unfold eqB; rw [decide_eq_true h, decide_eq_true h2]; rfl)]
      · rw [if_neg (fun e => h2 ((lg_eq (by omega) (by omega)).mp e))]
        exact h93 (by unfold eqB; rw [decide_eq_false h2]; simp)
    · rw [if_neg (fun e => h ((nI_eq (by omega) (by omega)).mp e))]
      exact h93 (by unfold eqB; rw [decide_eq_false h]; rfl)
/-- the words against the line's row, sign by sign -/
theorem eq_iff {l : Nat → Nat} {p a q i : Nat} (hW : Ws s t (B 47) (A 48) R n) (hi : i < t) (ha : a ≤ 24) (hl : ∀ j, j < a → l (p + j) < 4) (hq : q ≤ a) : (n i = q ∧ R i = rwF l p q) ↔ (n i = q ∧ mI (rwF l p a) a R n i = n i) := by
  obtain ⟨-, -, u3, u4, u5, -⟩ := hW i hi
  have hX := rwF_ok hl a ha (Nat.le_refl _)
  have hc := rwF_ct ha hl (a - q) q (by omega)
  constructor
  · rintro ⟨h1, h2⟩
    refine ⟨h1, ?_⟩
    have : q ≤ al (rwF l p a ^^^ R i) := by
      rw [al_iff hX.2 u3 (by omega), ← ct_eq_iff, hc, ← h2, ← h1, ct_all u5]
    unfold mI
    omega
  · rintro ⟨h1, h2⟩
    refine ⟨h1, ?_⟩
    have h3 : q ≤ al (rwF l p a ^^^ R i) := by unfold mI at h2; omega
    rw [al_iff hX.2 u3 (by omega), ← ct_eq_iff, hc] at h3
    rw [h3, ← h1, ct_all u5]
theorem go_iff {l : Nat → Nat} {p a q i : Nat} (hW : Ws s t (B 47) (A 48) R n) (hi : i < t) (ha : a ≤ 24) (hl : ∀ j, j < a → l (p + j) < 4) (hq : q ≤ a) : (q ≤ n i ∧ q ≤ al (rwF l p q ^^^ R i)) ↔ q ≤ mI (rwF l p a) a R n i := by
  obtain ⟨-, -, u3, u4, u5, -⟩ := hW i hi
  have hX := rwF_ok hl a ha (Nat.le_refl _)
  have hX2 := rwF_ok hl q (by omega) hq
  have hc := rwF_ct ha hl (a - q) q (by omega)
  have h3 : q ≤ al (rwF l p q ^^^ R i) ↔ q ≤ al (rwF l p a ^^^ R i) := by
    rw [al_iff hX.2 u3 (by omega), al_iff hX2.2 u3 (by omega), ← hc, ct_div]
  rw [h3]
  unfold mI
  omega
/-- two words at one place are one -/
theorem rd_one {X a i j : Nat} (hX : X < 4 ^ 24) (hW : Ws s t (B 47) (A 48) R n) (hP : PF R n t) (hi : i < t) (hj : j < t) (h1 : mI X a R n i = n i) (h2 : mI X a R n j = n j) : i = j := by
  have key : ∀ i j, i < t → j < t → i < j → mI X a R n i = n i → mI X a R n j = n j → False := by
    intro i j hi hj hij h1 h2
    obtain ⟨-, -, u3, u4, -⟩ := hW i hi
    obtain ⟨-, -, v3, v4, -⟩ := hW j hj
    have q1 : min (n i) (n j) ≤ al (X ^^^ R i) := by unfold mI at h1; omega
    have q2 : min (n i) (n j) ≤ al (X ^^^ R j) := by unfold mI at h2; omega
    rw [al_iff hX u3 (by omega)] at q1
    rw [al_iff hX v3 (by omega)] at q2
    apply hP.2 i j hij hj
    rw [al_iff u3 v3 (by omega), ← q1, q2]
  rcases Nat.lt_trichotomy i j with h | h | h
  · exact absurd (key i j hi hj h h1 h2) id
  · exact h
  · exact absurd (key j i hj hi h h2 h1) id
end RM

theorem fo_one {P : Nat → Bool} {d i j : Nat} (h1 : i ≤ j) (h2 : j < i + d) (hP : P j = true) (hu : ∀ k, i ≤ k → k < i + d → P k = true → k = j) : fo P d i = some j := by
  cases h : fo P d i with
  | none =>
    have := (fo_none d i).mp h j h1 h2
    rw [hP] at this
    cases this
  | some k =>
    obtain ⟨q1, q2, q3⟩ := fo_lt P d i k h
    rw [hu k q1 q2 q3]
theorem fo_is {P : Nat → Bool} {d i j : Nat} (h1 : i ≤ j) (h2 : j < i + d) (hP : P j = true) : (fo P d i).isSome = true := by
  cases h : fo P d i with
  | none =>
    have := (fo_none d i).mp h j h1 h2
    rw [hP] at this
    cases this
  | some k => rfl
section RA
variable {A : Nat → Nat → Int32} {B : Nat → Nat → Int64} {G : Nat → Nat → Int32} {fl : Nat → Bool} {N s t : Nat} {R n : Nat → Nat} {l : Nat → Nat} {p L : Nat}
theorem s_atStep (ht : t ≤ 24) (hW : Ws s t (B 47) (A 48) R n) (hG : G 44 3 = nI t) (hN : 24 < N) (hL : L ≤ 200) (hg : G 44 44 = nI L) (hA : ∀ j, j < L → A 72 j = nI (l j) ∧ l j < 4) {q : Nat} (hq : q < 24) (hpq : p + q < L) (m : Nat) : f_X7_wordAt_L8 N (m + 1) 44 (lN (rwF l p q)) (nI q) (nI (p + q)) (mem A B G fl) = match fo (eqB R n (rwF l p (q + 1)) (q + 1)) t 0 with
    | some j => some (nI j, mem A B G fl)
    | none => if (fo (goB R n (rwF l p (q + 1)) (q + 1)) t 0).isSome = true then f_X7_wordAt_L8 N m 44 (lN (rwF l p (q + 1))) (nI (q + 1)) (nI (p + (q + 1))) (mem A B G fl) else some ((-nI (p + q)) - 1, mem A B G fl) := by
  have hl : ∀ j, j < q + 1 → l (p + j) < 4 := fun j hj => (hA (p + j) (by omega)).2
  have hz := rwF_ok hl q (by omega) (by omega)
  have hz2 := rwF_ok hl (q + 1) (by omega) (by omega)
  rw [f_X7_wordAt_L8, gx_44_44, sb, hg, if_neg (fun e => by have := (nI_eq (by omega) (by omega)).mp e; omega), if_neg (show ¬ nI q = 24 from fun e => by have := (nI_eq (b := 24) (by omega) (by decide)).mp e; omega), gx_44_43, sb, ldI_n (ly72 fl) (by omega) (by decide), sb, (hA (p + q) hpq).1, s_with hq hz.1 (hA (p + q) hpq).2, b2s]
  unfold f_X7_wordAt_K47
  rw [nI_1, show (0 : Int32) = bz (false = true) from rfl]
  refine Eq.trans (s_atM1 (N := N) ht hW hG hz2.2 (show q + 1 ≤ 24 by omega) _ _ t 0 N false (by omega) (by omega)) ?_
  rw [Bool.false_or, nI_1]
  rfl
theorem s_atM (ht : t ≤ 24) (hW : Ws s t (B 47) (A 48) R n) (hP : PF R n t) (hG : G 44 3 = nI t) (hN : 24 < N) (hL : L ≤ 200) (hg : G 44 44 = nI L) (hA : ∀ j, j < L → A 72 j = nI (l j) ∧ l j < 4) (hp : p < L) : f_X7_wordAt N 44 (nI p) (mem A B G fl) = some ((match rdF (rwF l p (min 24 (L - p))) (min 24 (L - p)) R n t with
    | some j => nI j
    | none => (-nI (p + fmx (rwF l p (min 24 (L - p))) (min 24 (L - p)) R n t 0 0)) - 1), mem A B G fl) := by
  generalize ha : min 24 (L - p) = a
  have ha24 : a ≤ 24 := by omega
  have haL : p + a ≤ L := by omega
  have hl : ∀ j, j < a → l (p + j) < 4 := fun j hj => (hA (p + j) (by omega)).2
  have hX := rwF_ok hl a (by omega) (Nat.le_refl _)
  have heq : ∀ q i, i < t → q ≤ a → (eqB R n (rwF l p q) q i = true ↔ n i = q ∧ mI (rwF l p a) a R n i = n i) := by
    intro q i hi hq
    rw [← eq_iff hW hi (by omega) hl hq]
    unfold eqB
    simp
  have hgo : ∀ q i, i < t → q ≤ a → (goB R n (rwF l p q) q i = true ↔ q ≤ mI (rwF l p a) a R n i) := by
    intro q i hi hq
    rw [← go_iff hW hi (by omega) hl hq]
    unfold goB
    simp
  unfold f_X7_wordAt
  cases hr : rdF (rwF l p a) a R n t with
  | some j =>
    obtain ⟨-, j1, j2⟩ := fo_lt _ _ _ _ hr
    have j1 : j < t := by omega
    have j2 : mI (rwF l p a) a R n j = n j := of_decide_eq_true j2
    have hja : n j ≤ a := by unfold mI at j2; omega
    have hj0 := hP.1 j j1
    have go : ∀ (d q m : Nat), q + d = n j → 0 < d → d < m → f_X7_wordAt_L8 N m 44 (lN (rwF l p q)) (nI q) (nI (p + q)) (mem A B G fl) = some (nI j, mem A B G fl) := by
      intro d
      induction d with
      | zero => intro q m _ h0; exact absurd h0 (by omega)
      | succ d ih =>
        intro q m h1 _ hm
        obtain ⟨m, rfl⟩ : ∃ j, m = j + 1 := ⟨m - 1, by omega⟩
        rw [s_atStep ht hW hG hN hL hg hA (by omega) (by omega)]
        by_cases hd : d = 0
        · have : fo (eqB R n (rwF l p (q + 1)) (q + 1)) t 0 = some j := fo_one (by omega) (by omega) ((heq (q + 1) j j1 (by omega)).mpr ⟨by omega, j2⟩) (fun k _ hk hk2 => rd_one hX.2 hW hP (by omega) j1 ((heq (q + 1) k (by omega) (by omega)).mp hk2).2 j2)
          rw [this]
        · have h2 : fo (eqB R n (rwF l p (q + 1)) (q + 1)) t 0 = none := by
            rw [fo_none]
            intro k _ hk
            cases hb : eqB R n (rwF l p (q + 1)) (q + 1) k with
            | false => rfl
            | true =>
              have hb2 := (heq (q + 1) k (by omega) (by omega)).mp hb
              have := rd_one hX.2 hW hP (show k < t by omega) j1 hb2.2 j2
              subst this
              omega
          have h3 : (fo (goB R n (rwF l p (q + 1)) (q + 1)) t 0).isSome = true := fo_is (j := j) (by omega) (by omega) ((hgo (q + 1) j j1 (by omega)).mpr (by omega))
          rw [h2, h3]
          exact ih (q + 1) m (by omega) (by omega) (by omega)
    exact go (n j) 0 N (by omega) hj0 (by omega)
  | none =>
    have hno : ∀ i, i < t → ¬ mI (rwF l p a) a R n i = n i := by
      intro i hi e
      have := (fo_none t 0).mp hr i (by omega) (by omega)
      exact of_decide_eq_false this e
    generalize hF : fmx (rwF l p a) a R n t 0 0 = F
    have hFa : F ≤ a := by rw [← hF]; exact fmx_le (Nat.le_refl _) t 0 0 (by omega)
    have hF2 : ∀ i, i < t → mI (rwF l p a) a R n i ≤ F := fun i hi => by rw [← hF]; exact (fmx_ge t 0 0).2 i (by omega) (by omega)
    have hF3 : F = 0 ∨ ∃ j, j < t ∧ F = mI (rwF l p a) a R n j := by
      rcases fmx_at (X := rwF l p a) (a := a) (R := R) (n := n) t 0 0 with h | ⟨j, h1, h2, h3⟩
      · left; omega
      · right; exact ⟨j, by omega, by omega⟩
    have hE : ∀ q, q < a → fo (eqB R n (rwF l p (q + 1)) (q + 1)) t 0 = none := by
      intro q hq
      rw [fo_none]
      intro k _ hk
      cases hb : eqB R n (rwF l p (q + 1)) (q + 1) k with
      | false => rfl
      | true => exact absurd ((heq (q + 1) k (by omega) (by omega)).mp hb).2 (hno k (by omega))
    have go : ∀ (d q m : Nat), q + d = F → d < m → f_X7_wordAt_L8 N m 44 (lN (rwF l p q)) (nI q) (nI (p + q)) (mem A B G fl) = some ((-nI (p + F)) - 1, mem A B G fl) := by
      intro d
      induction d with
      | zero =>
        intro q m h1 hm
        obtain ⟨m, rfl⟩ : ∃ j, m = j + 1 := ⟨m - 1, by omega⟩
        have : q = F := by omega
        subst this
        by_cases hpL : p + q = L
        · rw [f_X7_wordAt_L8, gx_44_44, sb, hg, if_pos (by rw [hpL])]
        · have hqa : q < a := by
            rcases Nat.lt_or_ge q a with h | h
            · exact h
            · exfalso
              rcases hF3 with h0 | ⟨j, j1, j2⟩
              · omega
              · have u4 := (hW j j1).2.2.2.1
                apply hno j j1
                unfold mI at *
                omega
          rw [s_atStep ht hW hG hN hL hg hA (Nat.lt_of_lt_of_le hqa ha24) (Nat.lt_of_lt_of_le (Nat.add_lt_add_left hqa p) haL), hE q hqa]
          have h3 : (fo (goB R n (rwF l p (q + 1)) (q + 1)) t 0) = none := by
            rw [fo_none]
            intro k _ hk
            cases hb : goB R n (rwF l p (q + 1)) (q + 1) k with
            | false => rfl
            | true =>
              have := (hgo (q + 1) k (by omega) (by omega)).mp hb
              have := hF2 k (by omega)
              omega
          rw [h3]
          rfl
      | succ d ih =>
        intro q m h1 hm
        obtain ⟨m, rfl⟩ : ∃ j, m = j + 1 := ⟨m - 1, by omega⟩
        rw [s_atStep ht hW hG hN hL hg hA (by omega) (by omega), hE q (by omega)]
        obtain ⟨j, j1, j2⟩ : ∃ j, j < t ∧ F = mI (rwF l p a) a R n j := by
          rcases hF3 with h0 | h0
          · omega
          · exact h0
        have h3 : (fo (goB R n (rwF l p (q + 1)) (q + 1)) t 0).isSome = true := fo_is (j := j) (by omega) (by omega) ((hgo (q + 1) j j1 (by omega)).mpr (by omega))
        rw [h3]
        exact ih (q + 1) m (by omega) (by omega)
    exact go F 0 N (by omega) (by omega)
end RA

/-! the whole reading -/
/-- the line from place p on: the items, how many, where, and the place of a fault -/
def rdAll (l : Nat → Nat) (L : Nat) (R n : Nat → Nat) (t : Nat) : Nat → Nat → Nat → (Nat → Int32) → (Nat → Int32) × Nat × Nat × Option Nat
  | 0, p, c, it => (it, c, p, none)
  | f + 1, p, c, it => if L ≤ p then (it, c, p, none) else match rdF (rwF l p (min 24 (L - p))) (min 24 (L - p)) R n t with
    | some j => rdAll l L R n t f (p + n j) (c + 1) (upd it c (nI j))
    | none => (it, c, p, some (p + fmx (rwF l p (min 24 (L - p))) (min 24 (L - p)) R n t 0 0))
def rdV : (Nat → Int32) × Nat × Nat × Option Nat → Int32
  | (_, c, _, none) => nI c
  | (_, _, _, some q) => (-100 : Int32) - nI q
theorem i_sub2 (a b : Nat) : (-100 : Int32) - nI a - nI b = (-100 : Int32) - nI (a + b) := by
  rw [← nI_add, Int32.sub_sub]
theorem neg100 : ∀ q, q < 256 → ¬ 0 ≤ (-100 : Int32) - nI q := by decide +kernel
theorem neg1q : ∀ q, q < 256 → ¬ 0 ≤ (-nI q) - 1 := by decide +kernel
theorem neg2q (q : Nat) : (-100 : Int32) - (-((-nI q) - 1) - 1) = (-100 : Int32) - nI q := by
  congr 1
  rw [Int32.neg_sub, Int32.sub_neg, Int32.add_comm, Int32.add_sub_cancel]
