/-! FREE: the cost behind OPEN ROWS, level by level -/
/-- what is added; endless stays endless -/
def adE (x y : Nat) : Nat := min EV (x + y)
section Fr
variable (b1 b2 b3 : Nat) (lc : Nat → Nat)
/-- d levels may follow; a OPEN ROWS are here, b and c at the next two; R THINGS have no WORD -/
def gF : Nat → Nat → Nat → Nat → Nat → Nat
  | 0, a, _, _, R => if R ≤ a then 0 else EV
  | d + 1, a, b, c, R => if R ≤ a then 0 else mnF (fun w => adE (lc (R - w)) (gF d (b + b1 * (a - w)) (c + b2 * (a - w)) (b3 * (a - w)) (R - w))) (a + 1) 0 EV
theorem gF_le : ∀ d a b c R, gF b1 b2 b3 lc d a b c R ≤ EV := by
  intro d a b c R
  cases d with
  | zero => rw [gF]; split <;> omega
  | succ d =>
    rw [gF]
    split
    · omega
    · exact mnF_le _ _ _
theorem gF_0 {d a b c R : Nat} (h : R ≤ a) : gF b1 b2 b3 lc d a b c R = 0 := by
  cases d with
  | zero => rw [gF, if_pos h]
  | succ d => rw [gF, if_pos h]
theorem gF_S {d a b c R : Nat} (h : ¬ R ≤ a) : gF b1 b2 b3 lc (d + 1) a b c R = mnF (fun w => adE (lc (R - w)) (gF b1 b2 b3 lc d (b + b1 * (a - w)) (c + b2 * (a - w)) (b3 * (a - w)) (R - w))) (a + 1) 0 EV := by
  rw [gF, if_neg h]
theorem le_gF {d a b c R y : Nat} (h : ¬ R ≤ a) : y ≤ gF b1 b2 b3 lc (d + 1) a b c R ↔ y ≤ EV ∧ ∀ w, w ≤ a → y ≤ adE (lc (R - w)) (gF b1 b2 b3 lc d (b + b1 * (a - w)) (c + b2 * (a - w)) (b3 * (a - w)) (R - w)) := by
  rw [gF_S b1 b2 b3 lc h, le_mnF]
  constructor
  · rintro ⟨h1, h2⟩; exact ⟨h1, fun w hw => h2 w (Nat.zero_le _) (by omega)⟩
  · rintro ⟨h1, h2⟩; exact ⟨h1, fun w _ hw => h2 w (by omega)⟩
/-- more than the THINGS that are left are no better -/
theorem gF_cap : ∀ d a b c a' b' c' R, min a R = min a' R → min b R = min b' R → min c R = min c' R → gF b1 b2 b3 lc d a b c R = gF b1 b2 b3 lc d a' b' c' R := by
  intro d
  induction d with
  | zero =>
    intro a b c a' b' c' R h1 h2 h3
    rw [gF, gF]
    by_cases h : R ≤ a
    · rw [if_pos h, if_pos (by omega)]
    · rw [if_neg h, if_neg (by omega)]
  | succ d ih =>
    intro a b c a' b' c' R h1 h2 h3
    by_cases h : R ≤ a
    · rw [gF_0 b1 b2 b3 lc h, gF_0 b1 b2 b3 lc (show R ≤ a' by omega)]
    · have ha : a = a' := by omega
      subst ha
      rw [gF_S b1 b2 b3 lc h, gF_S b1 b2 b3 lc h]
      refine mnF_cg _ _ _ (fun w h4 h5 => ?_)
      rw [ih _ _ _ (b' + b1 * (a - w)) (c' + b2 * (a - w)) (b3 * (a - w)) (R - w) (by omega) (by omega) rfl]
/-- more OPEN ROWS cost no more -/
theorem gF_anti : ∀ d a b c a' b' c' R, a ≤ a' → b ≤ b' → c ≤ c' → gF b1 b2 b3 lc d a' b' c' R ≤ gF b1 b2 b3 lc d a b c R := by
  intro d
  induction d with
  | zero =>
    intro a b c a' b' c' R h1 h2 h3
    rw [gF, gF]
    by_cases h : R ≤ a
    · rw [if_pos h, if_pos (by omega)]; exact Nat.le_refl _
    · rw [if_neg h]; split <;> omega
  | succ d ih =>
    intro a b c a' b' c' R h1 h2 h3
    by_cases h : R ≤ a'
    · rw [gF_0 b1 b2 b3 lc h]; exact Nat.zero_le _
    · have h' : ¬ R ≤ a := by omega
      rw [le_gF b1 b2 b3 lc h']
      refine ⟨gF_le b1 b2 b3 lc _ _ _ _ _, fun w hw => ?_⟩
      have hk := ((le_gF b1 b2 b3 lc (y := gF b1 b2 b3 lc (d + 1) a' b' c' R) h).mp (Nat.le_refl _)).2 w (by omega)
      refine Nat.le_trans hk ?_
      have m1 : b1 * (a - w) ≤ b1 * (a' - w) := Nat.mul_le_mul_left _ (by omega)
      have m2 : b2 * (a - w) ≤ b2 * (a' - w) := Nat.mul_le_mul_left _ (by omega)
      have m3 : b3 * (a - w) ≤ b3 * (a' - w) := Nat.mul_le_mul_left _ (by omega)
      have hi := ih (b + b1 * (a - w)) (c + b2 * (a - w)) (b3 * (a - w)) (b' + b1 * (a' - w)) (c' + b2 * (a' - w)) (b3 * (a' - w)) (R - w) (by omega) (by omega) m3
      have hl := gF_le b1 b2 b3 lc d (b' + b1 * (a' - w)) (c' + b2 * (a' - w)) (b3 * (a' - w)) (R - w)
      unfold adE
      omega
/-- fewer THINGS cost no more -/
theorem gF_less (hlc : ∀ x y, x ≤ y → lc x ≤ lc y) : ∀ d a b c R R', R' ≤ R → gF b1 b2 b3 lc d a b c R' ≤ gF b1 b2 b3 lc d a b c R := by
  intro d
  induction d with
  | zero =>
    intro a b c R R' h
    rw [gF, gF]
    by_cases h2 : R ≤ a
    · rw [if_pos h2, if_pos (by omega)]; exact Nat.le_refl _
    · rw [if_neg h2]; split <;> omega
  | succ d ih =>
    intro a b c R R' h
    by_cases h2 : R' ≤ a
    · rw [gF_0 b1 b2 b3 lc h2]; exact Nat.zero_le _
    · have h' : ¬ R ≤ a := by omega
      rw [le_gF b1 b2 b3 lc h']
      refine ⟨gF_le b1 b2 b3 lc _ _ _ _ _, fun w hw => ?_⟩
      have hk := ((le_gF b1 b2 b3 lc (y := gF b1 b2 b3 lc (d + 1) a b c R') h2).mp (Nat.le_refl _)).2 w hw
      refine Nat.le_trans hk ?_
      have hi := ih (b + b1 * (a - w)) (c + b2 * (a - w)) (b3 * (a - w)) (R - w) (R' - w) (by omega)
      have hl := hlc (R' - w) (R - w) (by omega)
      have hl2 := gF_le b1 b2 b3 lc d (b + b1 * (a - w)) (c + b2 * (a - w)) (b3 * (a - w)) (R' - w)
      unfold adE
      omega
/-- nothing left open: endless -/
theorem gF_dead : ∀ d R, 0 < R → gF b1 b2 b3 lc d 0 0 0 R = EV := by
  intro d
  induction d with
  | zero => intro R h; rw [gF, if_neg (by omega)]
  | succ d ih =>
    intro R h
    refine Nat.le_antisymm (gF_le b1 b2 b3 lc _ _ _ _ _) ?_
    rw [le_gF b1 b2 b3 lc (by omega)]
    refine ⟨Nat.le_refl _, fun w hw => ?_⟩
    have hw0 : w = 0 := by omega
    subst hw0
    show EV ≤ adE (lc (R - 0)) (gF b1 b2 b3 lc d (0 + b1 * (0 - 0)) (0 + b2 * (0 - 0)) (b3 * (0 - 0)) (R - 0))
    rw [Nat.sub_zero, Nat.mul_zero, Nat.mul_zero, Nat.mul_zero, Nat.add_zero, ih R h]
    unfold adE
    omega
/-- endless, or small -/
theorem gF_fin (hlc : ∀ x y, x ≤ y → lc x ≤ lc y) : ∀ d a b c R, d * lc R < EV → gF b1 b2 b3 lc d a b c R = EV ∨ gF b1 b2 b3 lc d a b c R ≤ d * lc R := by
  intro d
  induction d with
  | zero =>
    intro a b c R _
    rw [gF]
    split
    · exact Or.inr (Nat.zero_le _)
    · exact Or.inl rfl
  | succ d ih =>
    intro a b c R hb
    by_cases h : R ≤ a
    · rw [gF_0 b1 b2 b3 lc h]; exact Or.inr (Nat.zero_le _)
    · by_cases hE : gF b1 b2 b3 lc (d + 1) a b c R < EV
      · refine Or.inr ?_
        rw [gF_S b1 b2 b3 lc h] at hE ⊢
        obtain ⟨w, h1, h2, h3⟩ := mnF_at _ _ _ hE
        rw [← h3] at hE ⊢
        have hl := hlc (R - w) R (by omega)
        have hdl : d * lc (R - w) ≤ d * lc R := Nat.mul_le_mul_left _ hl
        rw [Nat.add_mul, Nat.one_mul] at hb ⊢
        have hi := ih (b + b1 * (a - w)) (c + b2 * (a - w)) (b3 * (a - w)) (R - w) (by omega)
        unfold adE at hE ⊢
        omega
      · have := gF_le b1 b2 b3 lc (d + 1) a b c R
        exact Or.inl (by omega)
/-- it ends within k levels, whatever is chosen -/
def Ends : Nat → Nat → Nat → Nat → Nat → Prop
  | 0, a, b, c, R => R ≤ a ∨ (a = 0 ∧ b = 0 ∧ c = 0)
  | k + 1, a, b, c, R => R ≤ a ∨ (a = 0 ∧ b = 0 ∧ c = 0) ∨ ∀ w, w ≤ a → Ends k (b + b1 * (a - w)) (c + b2 * (a - w)) (b3 * (a - w)) (R - w)
theorem ends_eq : ∀ k a b c R, Ends b1 b2 b3 k a b c R → ∀ d d', k ≤ d → k ≤ d' → gF b1 b2 b3 lc d a b c R = gF b1 b2 b3 lc d' a b c R := by
  intro k
  induction k with
  | zero =>
    intro a b c R h d d' _ _
    rcases h with h | ⟨rfl, rfl, rfl⟩
    · rw [gF_0 b1 b2 b3 lc h, gF_0 b1 b2 b3 lc h]
    · by_cases hR : R = 0
      · subst hR
        rw [gF_0 b1 b2 b3 lc (Nat.le_refl _), gF_0 b1 b2 b3 lc (Nat.le_refl _)]
      · rw [gF_dead b1 b2 b3 lc _ _ (by omega), gF_dead b1 b2 b3 lc _ _ (by omega)]
  | succ k ih =>
    intro a b c R h d d' hd hd'
    obtain ⟨d, rfl⟩ : ∃ j, d = j + 1 := ⟨d - 1, by omega⟩
    obtain ⟨d', rfl⟩ : ∃ j, d' = j + 1 := ⟨d' - 1, by omega⟩
    rcases h with h | ⟨rfl, rfl, rfl⟩ | h
    · rw [gF_0 b1 b2 b3 lc h, gF_0 b1 b2 b3 lc h]
    · by_cases hR : R = 0
      · subst hR
        rw [gF_0 b1 b2 b3 lc (Nat.le_refl _), gF_0 b1 b2 b3 lc (Nat.le_refl _)]
      · rw [gF_dead b1 b2 b3 lc _ _ (by omega), gF_dead b1 b2 b3 lc _ _ (by omega)]
    · by_cases hR : R ≤ a
      · rw [gF_0 b1 b2 b3 lc hR, gF_0 b1 b2 b3 lc hR]
      · rw [gF_S b1 b2 b3 lc hR, gF_S b1 b2 b3 lc hR]
        refine mnF_cg _ _ _ (fun w h1 h2 => ?_)
        rw [ih _ _ _ _ (h w (by omega)) d d' (by omega) (by omega)]
theorem ends_mono : ∀ k k' a b c R, k ≤ k' → Ends b1 b2 b3 k a b c R → Ends b1 b2 b3 k' a b c R := by
  intro k
  induction k with
  | zero =>
    intro k' a b c R _ h
    cases k' with
    | zero => exact h
    | succ k' => rcases h with h | h; exact Or.inl h; exact Or.inr (Or.inl h)
  | succ k ih =>
    intro k' a b c R hk h
    obtain ⟨k', rfl⟩ : ∃ j, k' = j + 1 := ⟨k' - 1, by omega⟩
    rcases h with h | h | h
    · exact Or.inl h
    · exact Or.inr (Or.inl h)
    · exact Or.inr (Or.inr (fun w hw => ih k' _ _ _ _ (by omega) (h w hw)))
end Fr
/-- like prices: each level ends one at least -/
theorem ends_like {s : Nat} (hs : 2 ≤ s) : ∀ k a R, R ≤ a + k → Ends s 0 0 k a 0 0 R := by
  intro k
  induction k with
  | zero => intro a R h; exact Or.inl (by omega)
  | succ k ih =>
    intro a R h
    by_cases h1 : R ≤ a
    · exact Or.inl h1
    · by_cases h2 : a = 0
      · exact Or.inr (Or.inl ⟨h2, rfl, rfl⟩)
      · refine Or.inr (Or.inr (fun w hw => ?_))
        rw [Nat.zero_mul, Nat.add_zero, Nat.zero_add]
        by_cases h3 : w = a
        · subst h3
          rw [Nat.sub_self, Nat.mul_zero]
          have : ∀ k, Ends s 0 0 k 0 0 0 (R - w) := fun k => by
            cases k with
            | zero => exact Or.inr ⟨rfl, rfl, rfl⟩
            | succ k => exact Or.inr (Or.inl ⟨rfl, rfl, rfl⟩)
          exact this k
        · refine ih (s * (a - w)) (R - w) ?_
          have : 2 * (a - w) ≤ s * (a - w) := Nat.mul_le_mul_right _ hs
          omega
/-- unlike prices: as many OPEN ROWS as THINGS, and it ends within four levels -/
theorem ends_reg {b1 b2 b3 : Nat} (hBB : 1 ≤ b1 ∨ (1 ≤ b2 ∧ 1 ≤ b3)) : ∀ a b c R, R ≤ a + b + c → Ends b1 b2 b3 4 a b c R := by
  intro a b c R h
  by_cases h1 : R ≤ a
  · exact Or.inl h1
  refine Or.inr (Or.inr (fun w1 hw1 => ?_))
  by_cases h2 : R - w1 ≤ b + b1 * (a - w1)
  · exact Or.inl h2
  refine Or.inr (Or.inr (fun w2 hw2 => ?_))
  by_cases h3 : R - w1 - w2 ≤ c + b2 * (a - w1) + b1 * (b + b1 * (a - w1) - w2)
  · exact Or.inl h3
  by_cases hB : 1 ≤ b1
  · exfalso
    have m1 : a - w1 ≤ b1 * (a - w1) := Nat.le_mul_of_pos_left _ hB
    have m2 : b + b1 * (a - w1) - w2 ≤ b1 * (b + b1 * (a - w1) - w2) := Nat.le_mul_of_pos_left _ hB
    omega
  · have h0 : b1 = 0 := by omega
    subst h0
    obtain ⟨hB2, hB3⟩ : 1 ≤ b2 ∧ 1 ≤ b3 := by omega
    simp only [Nat.zero_mul, Nat.add_zero] at hw1 h2 hw2 h3 ⊢
    refine Or.inr (Or.inr (fun w3 hw3 => ?_))
    simp only [Nat.zero_mul, Nat.add_zero]
    by_cases h4 : R - w1 - w2 - w3 ≤ b3 * (a - w1) + b2 * (b - w2)
    · exact Or.inl h4
    refine Or.inr (Or.inr (fun w4 hw4 => Or.inl ?_))
    have m1 : a - w1 ≤ b2 * (a - w1) := Nat.le_mul_of_pos_left _ hB2
    have m2 : b - w2 ≤ b3 * (b - w2) := Nat.le_mul_of_pos_left _ hB3
    have m3 : c + b2 * (a - w1) - w3 ≤ b2 * (c + b2 * (a - w1) - w3) := Nat.le_mul_of_pos_left _ hB2
    simp only [Nat.zero_mul, Nat.add_zero]
    omega
theorem ends_unl {b1 b2 b3 : Nat} (hB : 1 ≤ b1 ∨ (1 ≤ b2 ∧ 1 ≤ b3)) (hs : 2 ≤ b1 + b2 + b3) : ∀ e a b c R, R ≤ a + b + c + e → Ends b1 b2 b3 (3 * e + 4) a b c R := by
  intro e
  induction e with
  | zero => intro a b c R h; exact ends_reg hB a b c R (by omega)
  | succ e i3 =>
    have grow : ∀ m, 2 * m ≤ b1 * m + b2 * m + b3 * m := fun m => by
      have := Nat.mul_le_mul_right m hs
      rw [Nat.add_mul, Nat.add_mul] at this
      exact this
    have q1 : ∀ a R, R ≤ a + (e + 1) → Ends b1 b2 b3 (3 * e + 5) a 0 0 R := by
      intro a R h
      refine Or.inr (Or.inr (fun w hw => ?_))
      by_cases hm : w = a
      · subst hm
        rw [Nat.sub_self, Nat.mul_zero, Nat.mul_zero, Nat.mul_zero]
        exact ends_mono b1 b2 b3 0 _ _ _ _ _ (Nat.zero_le _) (Or.inr ⟨rfl, rfl, rfl⟩)
      · have := grow (a - w)
        exact ends_mono b1 b2 b3 _ _ _ _ _ _ (Nat.le_refl _) (i3 _ _ _ _ (by omega))
    have q2 : ∀ a b R, R ≤ a + b + (e + 1) → Ends b1 b2 b3 (3 * e + 6) a b 0 R := by
      intro a b R h
      refine Or.inr (Or.inr (fun w hw => ?_))
      by_cases hm : w = a
      · subst hm
        rw [Nat.sub_self, Nat.mul_zero, Nat.mul_zero, Nat.mul_zero]
        exact q1 _ _ (by omega)
      · have := grow (a - w)
        exact ends_mono b1 b2 b3 _ _ _ _ _ _ (show 3 * e + 4 ≤ 3 * e + 5 by omega) (i3 _ _ _ _ (by omega))
    intro a b c R h
    refine Or.inr (Or.inr (fun w hw => ?_))
    by_cases hm : w = a
    · subst hm
      rw [Nat.sub_self, Nat.mul_zero, Nat.mul_zero, Nat.mul_zero]
      exact q2 _ _ _ (by omega)
    · have := grow (a - w)
      exact ends_mono b1 b2 b3 _ _ _ _ _ _ (show 3 * e + 4 ≤ 3 * e + 6 by omega) (i3 _ _ _ _ (by omega))
