/-! what insertion gives: each once, in order -/
def RkP (c : Nat → Int32) (r : Nat → Int32) (k : Nat) : Prop := ∃ o : Nat → Nat, (∀ j, j < k → r j = nI (o j) ∧ o j < k) ∧ (∀ j1 j2, j1 < j2 → j2 < k → o j1 ≠ o j2) ∧ ∀ j1 j2, j1 < j2 → j2 < k → c (o j2) ≤ c (o j1)
theorem i_leT {a b c : Int32} (h1 : a ≤ b) (h2 : b ≤ c) : a ≤ c := by
  rw [Int32.le_iff_toInt_le] at *
  omega
theorem i_leN {a b : Int32} (h : ¬ a ≤ b) : b ≤ a := by
  rw [Int32.le_iff_toInt_le] at *
  omega
theorem ins_P {c : Nat → Int32} {r : Nat → Int32} {i : Nat} (hi : i < 2 ^ 30) (h : RkP c r i) : RkP c (ins c i i r) (i + 1) := by
  obtain ⟨o, o1, o2, o3⟩ := h
  obtain ⟨p, hp, e, e1, e2⟩ := ins_sp c i i r
  refine ⟨fun j => if j < p then o j else if j = p then i else o (j - 1), fun j hj => ?_, fun j1 j2 h1 h2 => ?_, fun j1 j2 h1 h2 => ?_⟩
  · rw [e]
    show (if j < p then r j else if j = p then nI i else if j ≤ i then r (j - 1) else r j) = nI (if j < p then o j else if j = p then i else o (j - 1)) ∧ (if j < p then o j else if j = p then i else o (j - 1)) < i + 1
    by_cases q1 : j < p
    · rw [if_pos q1, if_pos q1]
      have := o1 j (by omega)
      exact ⟨this.1, by omega⟩
    · rw [if_neg q1, if_neg q1]
      by_cases q2 : j = p
      · rw [if_pos q2, if_pos q2]
        exact ⟨rfl, by omega⟩
      · rw [if_neg q2, if_neg q2, if_pos (by omega)]
        have := o1 (j - 1) (by omega)
        exact ⟨this.1, by omega⟩
  · show (if j1 < p then o j1 else if j1 = p then i else o (j1 - 1)) ≠ (if j2 < p then o j2 else if j2 = p then i else o (j2 - 1))
    by_cases a1 : j1 < p
    · rw [if_pos a1]
      have b1 := (o1 j1 (by omega)).2
      by_cases q1 : j2 < p
      · rw [if_pos q1]; exact o2 j1 j2 h1 (by omega)
      · rw [if_neg q1]
        by_cases q2 : j2 = p
        · rw [if_pos q2]; omega
        · rw [if_neg q2]; exact o2 j1 (j2 - 1) (by omega) (by omega)
    · rw [if_neg a1, if_neg (show ¬ j2 < p by omega), if_neg (show ¬ j2 = p by omega)]
      by_cases a2 : j1 = p
      · rw [if_pos a2]
        have b1 := (o1 (j2 - 1) (by omega)).2
        omega
      · rw [if_neg a2]; exact o2 (j1 - 1) (j2 - 1) (by omega) (by omega)
  · show c (if j2 < p then o j2 else if j2 = p then i else o (j2 - 1)) ≤ c (if j1 < p then o j1 else if j1 = p then i else o (j1 - 1))
    by_cases a1 : j1 < p
    · rw [if_pos a1]
      by_cases q1 : j2 < p
      · rw [if_pos q1]; exact o3 j1 j2 h1 (by omega)
      · rw [if_neg q1]
        by_cases q2 : j2 = p
        · rw [if_pos q2]
          have q3 : c i ≤ c (o (p - 1)) := by
            rcases e1 with h0 | h0
            · omega
            · have := o1 (p - 1) (by omega)
              rw [this.1, nI_clamp (by omega)] at h0
              exact h0
          by_cases q4 : j1 = p - 1
          · rw [q4]; exact q3
          · exact i_leT q3 (o3 j1 (p - 1) (by omega) (by omega))
        · rw [if_neg q2]; exact o3 j1 (j2 - 1) (by omega) (by omega)
    · rw [if_neg a1, if_neg (show ¬ j2 < p by omega), if_neg (show ¬ j2 = p by omega)]
      by_cases a2 : j1 = p
      · rw [if_pos a2]
        have q5 := e2 (j2 - 1) (by omega) (by omega)
        have := o1 (j2 - 1) (by omega)
        rw [this.1, nI_clamp (by omega)] at q5
        exact i_leN q5
      · rw [if_neg a2]; exact o3 (j1 - 1) (j2 - 1) (by omega) (by omega)
theorem rkG_P {c : Nat → Int32} : ∀ (d i : Nat) (r : Nat → Int32), i + d < 2 ^ 30 → RkP c r i → RkP c (rkG c d i r) (i + d) := by
  intro d
  induction d with
  | zero => intro i r _ h; exact h
  | succ d ih =>
    intro i r hd h
    have := ih (i + 1) (ins c i i r) (by omega) (ins_P (by omega) h)
    rw [show i + 1 + d = i + (d + 1) by omega] at this
    exact this
theorem rkG_P0 {c : Nat → Int32} {r : Nat → Int32} {t : Nat} (ht : t < 2 ^ 30) : RkP c (rkG c t 0 r) t := by
  have := rkG_P (c := c) t 0 r (by omega) ⟨fun j => j, fun j hj => absurd hj (by omega), fun _ _ _ h => absurd h (by omega), fun _ _ _ h => absurd h (by omega)⟩
  rw [Nat.zero_add] at this
  exact this
/-! digits behind a row's end, and of a row that is cut -/
theorem dg_rz {R k j : Nat} (h : rz R k) (h1 : k ≤ j) (h2 : j < 24) : dg R j = 0 := by
  have h := rz_mono h1 h
  unfold rz at h
  unfold dg
  obtain ⟨q, rfl⟩ := Nat.dvd_of_mod_eq_zero h
  have e2 : 4 ^ (24 - j) = 4 ^ (23 - j) * 4 := by rw [show 24 - j = (23 - j) + 1 by omega, Nat.pow_succ]
  rw [e2, Nat.mul_assoc, Nat.mul_div_cancel_left _ (Nat.pow_pos (by decide))]
  omega
theorem dg_ct_lo {R k j : Nat} (h : j < k) (hk : k ≤ 24) : dg (ct R k) j = dg R j := by
  unfold dg ct
  have e3 : 4 ^ (23 - j) = 4 ^ (24 - k) * 4 ^ ((23 - j) - (24 - k)) := by rw [← Nat.pow_add]; congr 1; omega
  rw [e3, ← Nat.div_div_eq_div_mul, ← Nat.div_div_eq_div_mul, Nat.mul_div_cancel _ (Nat.pow_pos (by decide))]
/-- the row behind keeps to the signs and to the length -/
theorem rb_ok {s R : Nat} (hR : R < 4 ^ 24) (hs : s ≤ 4) (hs2 : 0 < s) : ∀ (k q : Nat), k ≤ 24 → (∀ j, j < k → dg R j < s) → rb s R k = some q → q < 4 ^ 24 ∧ rz q k ∧ ∀ j, j < 24 → dg q j < s := by
  intro k
  induction k with
  | zero => intro q _ _ h; cases h
  | succ k ih =>
    intro q hk hd h
    have h : (if dg R k + 1 < s then some (ct R k + (dg R k + 1) * 4 ^ (23 - k)) else rb s R k) = some q := h
    by_cases hlt : dg R k + 1 < s
    · rw [if_pos hlt] at h
      have := Option.some.inj h
      subst this
      have hc : ct R k < 4 ^ 24 := Nat.lt_of_le_of_lt (ct_le _ _) hR
      refine ⟨row_add_lt (by omega) hc (ct_rz R k) (by omega), rz_add (by omega) (ct_rz R k), fun j hj => ?_⟩
      rcases Nat.lt_trichotomy j k with h1 | h1 | h1
      · rw [dg_add_lo (by omega) (ct_rz R k) (by omega) h1, dg_ct_lo h1 (by omega)]
        exact hd j (by omega)
      · subst h1
        rw [dg_add_eq (by omega) (ct_rz R j) (by omega)]
        exact hlt
      · rw [dg_rz (rz_add (v := dg R k + 1) (show k < 24 by omega) (ct_rz R k)) (by omega) hj]
        exact hs2
    · rw [if_neg hlt] at h
      obtain ⟨q1, q2, q3⟩ := ih q (by omega) (fun j hj => hd j (by omega)) h
      exact ⟨q1, rz_mono (by omega) q2, q3⟩
