/-! ORDERED: the least cost of a NODE -/
def EV : Nat := 1152921504606846976
def mnF (f : Nat → Nat) : Nat → Nat → Nat → Nat
  | 0, _, x => x
  | d + 1, a, x => mnF f d (a + 1) (min x (f a))
theorem le_mnF {f : Nat → Nat} {y : Nat} : ∀ (d a x : Nat), y ≤ mnF f d a x ↔ y ≤ x ∧ ∀ e, a ≤ e → e < a + d → y ≤ f e := by
  intro d
  induction d with
  | zero => intro a x; exact ⟨fun h => ⟨h, fun e h1 h2 => by omega⟩, fun h => h.1⟩
  | succ d ih =>
    intro a x
    rw [mnF, ih]
    constructor
    · rintro ⟨h1, h2⟩
      refine ⟨by omega, fun e h3 h4 => ?_⟩
      by_cases he : e = a
      · subst he; omega
      · exact h2 e (by omega) (by omega)
    · rintro ⟨h1, h2⟩
      have := h2 a (Nat.le_refl _) (by omega)
      exact ⟨by omega, fun e h3 h4 => h2 e (by omega) (by omega)⟩
theorem mnF_le {f : Nat → Nat} (d a x : Nat) : mnF f d a x ≤ x := ((le_mnF d a x).mp (Nat.le_refl _)).1
theorem eq_of_le {A B : Nat} (h : ∀ y, y ≤ A ↔ y ≤ B) : A = B := Nat.le_antisymm ((h A).mp (Nat.le_refl _)) ((h B).mpr (Nat.le_refl _))
theorem mnF_cg {f g : Nat → Nat} : ∀ (d a x : Nat), (∀ e, a ≤ e → e < a + d → f e = g e) → mnF f d a x = mnF g d a x := by
  intro d a x h
  refine eq_of_le (fun y => ?_)
  rw [le_mnF, le_mnF]
  constructor
  · rintro ⟨h1, h2⟩; exact ⟨h1, fun e a b => by rw [← h e a b]; exact h2 e a b⟩
  · rintro ⟨h1, h2⟩; exact ⟨h1, fun e a b => by rw [h e a b]; exact h2 e a b⟩
def Wt (C : Nat → Nat) (a e : Nat) : Nat := ctS C (e - a) a
def vv (p w c r : Nat) : Nat := if EV ≤ r then EV else p * w + c + r
def c1 (c : Nat → Nat → Nat) (a e : Nat) : Nat := if e - a < 2 then 0 else c a (e - 1)
theorem le_vv {p w c r y : Nat} (hy : y ≤ EV) : y ≤ vv p w c r ↔ y ≤ p * w + c + r := by
  unfold vv
  split <;> omega
def dD (P C : Nat → Nat) (s : Nat) (c : Nat → Nat → Nat) (j : Nat) : Nat → Nat → Nat
  | 0, a => if a = j + 1 then 0 else EV
  | k + 1, a => mnF (fun e => vv (P (s - 1 - k)) (Wt C a e) (c1 c a e) (dD P C s c j k e)) (j + 2 - a) a EV
def rD (P C : Nat → Nat) (s : Nat) (c : Nat → Nat → Nat) (i j : Nat) : Nat → Nat → Nat
  | 0, a => if a = j + 1 then 0 else EV
  | k + 1, a => mnF (fun e => if e - a = j - i + 1 then EV else vv (P (s - 1 - k)) (Wt C a e) (c1 c a e) (rD P C s c i j k e)) (j + 2 - a) a EV
section Or
variable {P C : Nat → Nat} {s : Nat} {c : Nat → Nat → Nat}
theorem dD_le (j : Nat) : ∀ k a, dD P C s c j k a ≤ EV := by
  intro k
  cases k with
  | zero => intro a; rw [dD]; split <;> omega
  | succ k => intro a; rw [dD]; exact mnF_le _ _ _
theorem rD_le (i j : Nat) : ∀ k a, rD P C s c i j k a ≤ EV := by
  intro k
  cases k with
  | zero => intro a; rw [rD]; split <;> omega
  | succ k => intro a; rw [rD]; exact mnF_le _ _ _
theorem rD_dD {i j : Nat} (hij : i ≤ j) : ∀ k a, i < a → a ≤ j + 1 → rD P C s c i j k a = dD P C s c j k a := by
  intro k
  induction k with
  | zero => intro a _ _; rfl
  | succ k ih =>
    intro a ha hj
    rw [rD, dD]
    refine mnF_cg _ _ _ (fun e h1 h2 => ?_)
    rw [if_neg (by omega), ih e (by omega) (by omega)]
theorem Wt_self (a : Nat) : Wt C a a = 0 := by unfold Wt; rw [Nat.sub_self]; rfl
theorem dD_end (j : Nat) : ∀ k, dD P C s c j k (j + 1) = 0 := by
  intro k
  induction k with
  | zero => rw [dD, if_pos rfl]
  | succ k ih =>
    rw [dD, show j + 2 - (j + 1) = 1 by omega, mnF, mnF, ih]
    unfold vv c1
    rw [Wt_self, if_neg (by decide), if_pos (by omega)]
    omega
/-- from the one sign to the next -/
theorem dD_step {j a : Nat} (ha : a ≤ j) (k : Nat) : dD P C s c j (k + 1) a = mnF (fun e => P (s - 1 - k) * Wt C a e + c1 c a e + dD P C s c j k e) (j + 1 - a) (a + 1) (dD P C s c j k a) := by
  have hk := dD_le (P := P) (C := C) (s := s) (c := c) j k a
  refine eq_of_le (fun y => ?_)
  rw [dD, le_mnF, le_mnF]
  have e0 : vv (P (s - 1 - k)) (Wt C a a) (c1 c a a) (dD P C s c j k a) = dD P C s c j k a := by
    unfold vv c1
    rw [Wt_self, if_pos (show a - a < 2 by omega)]
    split <;> omega
  constructor
  · rintro ⟨h1, h2⟩
    have := h2 a (Nat.le_refl _) (by omega)
    rw [e0] at this
    refine ⟨this, fun e g1 g2 => ?_⟩
    have := h2 e (by omega) (by omega)
    exact (le_vv h1).mp this
  · rintro ⟨h1, h2⟩
    refine ⟨by omega, fun e g1 g2 => ?_⟩
    by_cases he : e = a
    · subst he; rw [e0]; exact h1
    · exact (le_vv (by omega)).mpr (h2 e (by omega) (by omega))
/-- the class's way to the cost of a node -/
def nS (f : Nat → Nat → Nat) (d a : Nat) : Nat → Nat → Nat → Nat
  | 0, _, x => x
  | k + 1, v, x => nS f d a k (v + 1) (mnF (f v) d a x)
theorem le_nS {f : Nat → Nat → Nat} {d a y : Nat} : ∀ (k v x : Nat), y ≤ nS f d a k v x ↔ y ≤ x ∧ ∀ u e, v ≤ u → u < v + k → a ≤ e → e < a + d → y ≤ f u e := by
  intro k
  induction k with
  | zero => intro v x; exact ⟨fun h => ⟨h, fun u e h1 h2 => by omega⟩, fun h => h.1⟩
  | succ k ih =>
    intro v x
    rw [nS, ih, le_mnF]
    constructor
    · rintro ⟨⟨h1, h2⟩, h3⟩
      refine ⟨h1, fun u e g1 g2 g3 g4 => ?_⟩
      by_cases hu : u = v
      · subst hu; exact h2 e g3 g4
      · exact h3 u e (by omega) (by omega) g3 g4
    · rintro ⟨h1, h2⟩
      exact ⟨⟨h1, fun e g1 g2 => h2 v e (Nat.le_refl _) (by omega) g1 g2⟩, fun u e g1 g2 g3 g4 => h2 u e (by omega) (by omega) g3 g4⟩
theorem le_rD {i j y : Nat} (hij : i < j) : ∀ k, k ≤ s → (y ≤ rD P C s c i j k i ↔ y ≤ EV ∧ ∀ u e, s - k ≤ u → u < s → i + 1 ≤ e → e < i + 1 + (j - i) → y ≤ P u * Wt C i e + c1 c i e + dD P C s c j (s - (u + 1)) e) := by
  intro k
  induction k with
  | zero =>
    intro _
    rw [rD, if_neg (by omega)]
    exact ⟨fun h => ⟨h, fun u e h1 h2 => by omega⟩, fun h => h.1⟩
  | succ k ih =>
    intro hk
    have hr := rD_le (P := P) (C := C) (s := s) (c := c) i j k i
    rw [rD, le_mnF]
    have e0 : (if i - i = j - i + 1 then EV else vv (P (s - 1 - k)) (Wt C i i) (c1 c i i) (rD P C s c i j k i)) = rD P C s c i j k i := by
      rw [if_neg (by omega)]
      unfold vv c1
      rw [Wt_self, if_pos (show i - i < 2 by omega)]
      split <;> omega
    constructor
    · rintro ⟨h1, h2⟩
      have h3 := h2 i (Nat.le_refl _) (by omega)
      rw [e0, ih (by omega)] at h3
      refine ⟨h1, fun u e g1 g2 g3 g4 => ?_⟩
      by_cases hu : u = s - 1 - k
      · have := h2 e (by omega) (by omega)
        rw [if_neg (by omega), le_vv h1, rD_dD (by omega) k e (by omega) (by omega)] at this
        rw [hu, show s - (s - 1 - k + 1) = k by omega]
        exact this
      · exact h3.2 u e (by omega) g2 g3 g4
    · rintro ⟨h1, h2⟩
      refine ⟨h1, fun e g1 g2 => ?_⟩
      by_cases he : e = i
      · subst he
        rw [e0, ih (by omega)]
        exact ⟨h1, fun u e g1 g2 g3 g4 => h2 u e (by omega) g2 g3 g4⟩
      · by_cases he2 : e = j + 1
        · rw [if_pos (by omega)]; exact h1
        · rw [if_neg (by omega), le_vv h1, rD_dD (by omega) k e (by omega) (by omega)]
          have := h2 (s - 1 - k) e (by omega) (by omega) (by omega) (by omega)
          rw [show s - (s - 1 - k + 1) = k by omega] at this
          exact this
theorem nS_rD {i j : Nat} (hij : i < j) : nS (fun u e => P u * Wt C i e + c1 c i e + dD P C s c j (s - (u + 1)) e) (j - i) (i + 1) s 0 EV = rD P C s c i j s i := by
  refine eq_of_le (fun y => ?_)
  rw [le_nS, le_rD hij s (Nat.le_refl _), Nat.sub_self, Nat.zero_add]
/-- smaller nodes alone count -/
theorem dD_cg {c2 : Nat → Nat → Nat} {i0 j : Nat} (h : ∀ a b, i0 ≤ a → a < b → b ≤ j → c a b = c2 a b) : ∀ k a, i0 ≤ a → a ≤ j + 1 → dD P C s c j k a = dD P C s c2 j k a := by
  intro k
  induction k with
  | zero => intro a _ _; rfl
  | succ k ih =>
    intro a h1 h2
    rw [dD, dD]
    refine mnF_cg _ _ _ (fun e g1 g2 => ?_)
    have : c1 c a e = c1 c2 a e := by
      unfold c1
      by_cases q : e - a < 2
      · rw [if_pos q, if_pos q]
      · rw [if_neg q, if_neg q, h a (e - 1) h1 (by omega) (by omega)]
    rw [this, ih e (by omega) (by omega)]
theorem rD_cg {c2 : Nat → Nat → Nat} {i j : Nat} (hij : i < j) (h : ∀ a b, i ≤ a → a < b → b ≤ j → b - a < j - i → c a b = c2 a b) : rD P C s c i j s i = rD P C s c2 i j s i := by
  refine eq_of_le (fun y => ?_)
  rw [le_rD hij s (Nat.le_refl _), le_rD hij s (Nat.le_refl _)]
  have key : ∀ u e, i + 1 ≤ e → e < i + 1 + (j - i) → P u * Wt C i e + c1 c i e + dD P C s c j (s - (u + 1)) e = P u * Wt C i e + c1 c2 i e + dD P C s c2 j (s - (u + 1)) e := by
    intro u e g1 g2
    have q1 : c1 c i e = c1 c2 i e := by
      unfold c1
      by_cases q : e - i < 2
      · rw [if_pos q, if_pos q]
      · rw [if_neg q, if_neg q, h i (e - 1) (Nat.le_refl _) (by omega) (by omega) (by omega)]
    rw [q1, dD_cg (i0 := i + 1) (fun a b x y z => h a b (by omega) y z (by omega)) _ e g1 (by omega)]
  constructor
  · rintro ⟨h1, h2⟩; exact ⟨h1, fun u e a b x y => by rw [← key u e x y]; exact h2 u e a b x y⟩
  · rintro ⟨h1, h2⟩; exact ⟨h1, fun u e a b x y => by rw [key u e x y]; exact h2 u e a b x y⟩
end Or
def ndF (P C : Nat → Nat) (s : Nat) : Nat → Nat → Nat → Nat
  | 0, _, _ => 0
  | f + 1, i, j => if i < j then rD P C s (ndF P C s f) i j s i else 0
theorem ndF_eq {P C : Nat → Nat} {s : Nat} : ∀ (f g i j : Nat), j - i ≤ f → j - i ≤ g → ndF P C s f i j = ndF P C s g i j := by
  intro f
  induction f with
  | zero =>
    intro g i j h1 h2
    cases g with
    | zero => rfl
    | succ g => rw [ndF, ndF, if_neg (by omega)]
  | succ f ih =>
    intro g i j h1 h2
    cases g with
    | zero => rw [ndF, ndF, if_neg (by omega)]
    | succ g =>
      rw [ndF, ndF]
      by_cases h : i < j
      · rw [if_pos h, if_pos h]
        exact rD_cg h (fun a b x y z w => ih g a b (by omega) (by omega))
      · rw [if_neg h, if_neg h]
/-- the least cost of the node i to j -/
def nd (P C : Nat → Nat) (s i j : Nat) : Nat := ndF P C s (j - i) i j
theorem nd_self {P C : Nat → Nat} {s i : Nat} : nd P C s i i = 0 := by unfold nd; rw [Nat.sub_self]; rfl
theorem nd_eq {P C : Nat → Nat} {s i j : Nat} (h : i < j) : nd P C s i j = rD P C s (nd P C s) i j s i := by
  unfold nd
  rw [show j - i = (j - i - 1) + 1 by omega, ndF, if_pos h]
  refine rD_cg h (fun a b x y z w => ?_)
  exact ndF_eq _ _ a b (by omega) (Nat.le_refl _)
theorem nd_le {P C : Nat → Nat} {s : Nat} (i j : Nat) : nd P C s i j ≤ EV := by
  by_cases h : i < j
  · rw [nd_eq h]; exact rD_le _ _ _ _
  · unfold nd
    rw [show j - i = 0 by omega]
    exact Nat.zero_le _
