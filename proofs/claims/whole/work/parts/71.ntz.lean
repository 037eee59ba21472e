/-! the lowest bit of a word -/
def ntF (i : Int32) (M : A_M) : Option (Int32 × A_M) := if 0 < i then (if i ≤ (65536 : Int32) then f_J6_numberOfTrailingZeros_0f7a4_K34 0 i (1 : Int32) M else f_J6_numberOfTrailingZeros_0f7a4_K34 0 ((i.toUInt32 >>> ((16 : Int32).toUInt32 &&& Int32.toUInt32 31)).toInt32) ((1 : Int32) + 16) M) else some (i &&& (32 : Int32), M)
theorem nt62 (N : Nat) (x y : Int32) (M : A_M) : f_J6_numberOfTrailingZeros_0f7a4_K62 N x y M = ((f_J6_numberOfTrailingZeros_0f7a4_K62 0 x y (fun _ => none)).map fun p => (p.1, M)) := by
  unfold f_J6_numberOfTrailingZeros_0f7a4_K62
  split <;> rfl
theorem nt49 (N : Nat) (x y : Int32) (M : A_M) : f_J6_numberOfTrailingZeros_0f7a4_K49 N x y M = ((f_J6_numberOfTrailingZeros_0f7a4_K49 0 x y (fun _ => none)).map fun p => (p.1, M)) := by
  unfold f_J6_numberOfTrailingZeros_0f7a4_K49
  split <;> exact nt62 _ _ _ _
theorem nt34 (N : Nat) (x y : Int32) (M : A_M) : f_J6_numberOfTrailingZeros_0f7a4_K34 N x y M = ((f_J6_numberOfTrailingZeros_0f7a4_K34 0 x y (fun _ => none)).map fun p => (p.1, M)) := by
  unfold f_J6_numberOfTrailingZeros_0f7a4_K34
  split <;> exact nt49 _ _ _ _
theorem ntI (N : Nat) (a : Int32) (M : A_M) : f_J6_numberOfTrailingZeros_0f7a4 N a M = ((ntF ((a ^^^ (-1 : Int32)) &&& (a - (1 : Int32))) (fun _ => none)).map fun p => (p.1, M)) := by
  unfold f_J6_numberOfTrailingZeros_0f7a4 ntF
  split
  · split <;> exact nt34 _ _ _ _
  · rfl
theorem ntV : ∀ c, c < 32 → ((ntF (nI (2 ^ c - 1)) (fun _ => none)).map fun p => p.1) = some (nI c) := by decide +kernel
theorem bt_n {m i : Nat} (hi : i < 32) : bt (nI m) i = m.testBit i := by
  unfold bt
  show (BitVec.ofNat 32 m).getLsbD i = _
  rw [BitVec.getLsbD_ofNat, decide_eq_true hi, Bool.true_and]
theorem lowm {q c : Nat} : 2 ^ (c + 1) * q + 2 ^ c - 1 = 2 ^ (c + 1) * q + (2 ^ c - 1) := by
  have := Nat.two_pow_pos c
  omega
theorem pw_lt (c : Nat) : 2 ^ c < 2 ^ (c + 1) ∧ 2 ^ c - 1 < 2 ^ (c + 1) := by
  have := Nat.two_pow_pos c
  have h : 2 ^ (c + 1) = 2 ^ c * 2 := Nat.pow_succ 2 c
  omega
theorem ntA {c q : Nat} (hc : c < 32) : ((nI (2 ^ (c + 1) * q + 2 ^ c) ^^^ (-1 : Int32)) &&& (nI (2 ^ (c + 1) * q + 2 ^ c) - (1 : Int32))) = nI (2 ^ c - 1) := by
  have hp := Nat.two_pow_pos c
  rw [show (1 : Int32) = nI 1 from rfl, pk_sub (by omega), lowm]
  apply b_ext
  intro i hi
  rw [b_and, b_xor, bt_n hi, bt_n hi, bt_n hi, show bt (-nI 1) i = true from b_m1 i hi, Nat.testBit_two_pow_mul_add _ (pw_lt c).1, Nat.testBit_two_pow_mul_add _ (pw_lt c).2, Nat.testBit_two_pow_sub_one]
  by_cases h : i < c + 1
  · rw [if_pos h, if_pos h, Nat.testBit_two_pow]
    by_cases h2 : i < c
    · rw [decide_eq_false (by omega), decide_eq_true h2]; rfl
    · rw [decide_eq_true (by omega), decide_eq_false h2]; rfl
  · rw [if_neg h, if_neg h, decide_eq_false (by omega)]
    cases q.testBit (i - (c + 1)) <;> rfl
theorem ntN {N c q : Nat} {M : A_M} (hc : c < 32) : f_J6_numberOfTrailingZeros_0f7a4 N (nI (2 ^ (c + 1) * q + 2 ^ c)) M = some (nI c, M) := by
  rw [ntI, ntA hc]
  have := ntV c hc
  cases h : ntF (nI (2 ^ c - 1)) (fun _ => none) with
  | none => rw [h] at this; cases this
  | some p =>
    rw [h] at this
    show some (p.1, M) = _
    have h2 : p.1 = nI c := Option.some.inj this
    rw [h2]
theorem nI_32 {a b : Nat} (ha : a < 2 ^ 32) (hb : b < 2 ^ 32) (h : nI a = nI b) : a = b := by
  have := congrArg (fun x => x.toBitVec.toNat) h
  have h2 : (nI a).toBitVec.toNat = (nI b).toBitVec.toNat := this
  rw [pk_tn ha, pk_tn hb] at h2
  exact h2
/-- of a long -/
theorem nt64 {N c q : Nat} {M : A_M} (hc : c < 64) (hw : 2 ^ (c + 1) * q + 2 ^ c < 2 ^ 64) : f_J13_numberOfTrailingZeros_95d88 N (lN (2 ^ (c + 1) * q + 2 ^ c)) M = some (nI c, M) := by
  unfold f_J13_numberOfTrailingZeros_95d88
  rw [lN_i]
  have hm : ∀ n, nI n = nI (n % 2 ^ 32) := by
    intro n
    apply Int32.toBitVec_inj.mp
    show BitVec.ofNat 32 n = BitVec.ofNat 32 (n % 2 ^ 32)
    apply BitVec.eq_of_toNat_eq
    rw [BitVec.toNat_ofNat, BitVec.toNat_ofNat, Nat.mod_mod]
  by_cases h : c < 32
  · have e : (2 ^ (c + 1) * q + 2 ^ c) % 2 ^ 32 ≠ 0 := by
      intro e
      have h1 : (2 ^ c) ∣ 2 ^ 32 := Nat.pow_dvd_pow 2 (by omega)
      have h2 : 2 ^ (c + 1) ∣ 2 ^ 32 := Nat.pow_dvd_pow 2 (by omega)
      have h3 := Nat.dvd_trans h2 (Nat.dvd_of_mod_eq_zero e)
      have h4 := (Nat.dvd_add_iff_right (Nat.dvd_mul_right (2 ^ (c + 1)) q)).mpr h3
      have h5 := Nat.le_of_dvd (Nat.two_pow_pos c) h4
      have := (pw_lt c).1
      omega
    rw [if_neg (fun e2 => e (by rw [hm] at e2; exact nI_32 (Nat.mod_lt _ (by decide)) (by decide) e2)), ntN h, b2s]
  · obtain ⟨b, rfl⟩ : ∃ b, c = 32 + b := ⟨c - 32, by omega⟩
    have e0 : 2 ^ (32 + b + 1) * q + 2 ^ (32 + b) = 2 ^ 32 * (2 ^ (b + 1) * q + 2 ^ b) := by
      rw [Nat.mul_add, ← Nat.mul_assoc, ← Nat.pow_add, ← Nat.pow_add]
      rfl
    rw [e0] at hw ⊢
    rw [if_pos (by rw [hm, Nat.mul_mod_right]; rfl), show (32 : Int32) = nI 32 from rfl, wb_shr hw (by decide), lN_i, Nat.mul_div_cancel_left _ (by decide), ntN (by omega), b2s, nI_add]
/-- without the bits below c -/
def hiW (w c : Nat) : Nat := w / 2 ^ c * 2 ^ c
theorem hi_0 (w : Nat) : hiW w 0 = w := by unfold hiW; omega
theorem hi_skip {w c : Nat} (h : w.testBit c = false) : hiW w c = hiW w (c + 1) := by
  unfold hiW
  have h1 : w / 2 ^ c % 2 = 0 := by
    have := Nat.testBit_eq_decide_div_mod_eq (x := w) (i := c)
    rw [h] at this
    have := of_decide_eq_false this.symm
    omega
  rw [Nat.pow_succ, ← Nat.div_div_eq_div_mul, Nat.mul_comm (2 ^ c) 2, ← Nat.mul_assoc]
  congr 1
  omega
theorem hi_take {w c : Nat} (h : w.testBit c = true) : ∃ q, hiW w c = 2 ^ (c + 1) * q + 2 ^ c ∧ hiW w (c + 1) = 2 ^ (c + 1) * q := by
  unfold hiW
  have h1 : w / 2 ^ c % 2 = 1 := by
    have := Nat.testBit_eq_decide_div_mod_eq (x := w) (i := c)
    rw [h] at this
    exact of_decide_eq_true this.symm
  refine ⟨w / 2 ^ (c + 1), ?_, Nat.mul_comm _ _⟩
  rw [Nat.pow_succ, ← Nat.div_div_eq_div_mul]
  generalize w / 2 ^ c = v at h1
  have e : v = 2 * (v / 2) + 1 := by omega
  have e2 : v * 2 ^ c = (2 * (v / 2) + 1) * 2 ^ c := by rw [← e]
  rw [e2, Nat.add_mul, Nat.one_mul, Nat.mul_assoc (2 ^ c) 2, Nat.mul_comm (2 ^ c)]
theorem hi_le (w c : Nat) : hiW w c ≤ w := Nat.div_mul_le_self _ _
theorem hi_end {w : Nat} (h : w < 2 ^ 64) : hiW w 64 = 0 := by unfold hiW; rw [Nat.div_eq_of_lt h, Nat.zero_mul]
theorem clr {q c : Nat} : (2 ^ (c + 1) * q + 2 ^ c) &&& (2 ^ (c + 1) * q + 2 ^ c - 1) = 2 ^ (c + 1) * q := by
  rw [lowm]
  apply Nat.eq_of_testBit_eq
  intro i
  have h0 : 2 ^ (c + 1) * q = 2 ^ (c + 1) * q + 0 := rfl
  rw [Nat.testBit_and, Nat.testBit_two_pow_mul_add _ (pw_lt c).1, Nat.testBit_two_pow_mul_add _ (pw_lt c).2, h0, Nat.testBit_two_pow_mul_add _ (Nat.two_pow_pos _), Nat.testBit_two_pow_sub_one]
  by_cases h : i < c + 1
  · rw [if_pos h, if_pos h, if_pos h, Nat.testBit_two_pow, Nat.zero_testBit]
    by_cases h2 : i < c
    · rw [decide_eq_false (by omega)]; rfl
    · rw [decide_eq_false h2, Bool.and_false]
  · rw [if_neg h, if_neg h, if_neg h, Bool.and_self]
theorem s_clr {q c : Nat} (h : 2 ^ (c + 1) * q + 2 ^ c < 2 ^ 64) : lN (2 ^ (c + 1) * q + 2 ^ c) &&& (lN (2 ^ (c + 1) * q + 2 ^ c) - (1 : Int64)) = lN (2 ^ (c + 1) * q) := by
  have hp := Nat.two_pow_pos c
  rw [show (1 : Int64) = lN 1 from rfl, lN_sub (by omega), wb_and h (by omega), clr]
/-- a word of a great number -/
def wd (X p : Nat) : Nat := X / 2 ^ (64 * p) % 2 ^ 64
theorem wd_lt (X p : Nat) : wd X p < 2 ^ 64 := Nat.mod_lt _ (by decide)
theorem wd_bit (X p i : Nat) : (wd X p).testBit i = (decide (i < 64) && X.testBit (64 * p + i)) := by
  unfold wd
  rw [Nat.testBit_mod_two_pow, Nat.testBit_div_two_pow, Nat.add_comm]
theorem wd_or {X j p : Nat} : wd (X ||| 2 ^ j) p = if p = j / 64 then wd X p ||| 2 ^ (j % 64) else wd X p := by
  apply Nat.eq_of_testBit_eq
  intro i
  rw [wd_bit, Nat.testBit_or, Nat.testBit_two_pow]
  split
  · rename_i h
    rw [Nat.testBit_or, wd_bit, Nat.testBit_two_pow]
    by_cases hi : i < 64
    · rw [decide_eq_true hi, Bool.true_and, Bool.true_and]
      congr 1
      exact decide_eq_decide.mpr (by omega)
    · rw [decide_eq_false hi, Bool.false_and, Bool.false_and, Bool.false_or, decide_eq_false (by omega)]
  · rename_i h
    rw [wd_bit]
    by_cases hi : i < 64
    · rw [decide_eq_false (show ¬ j = 64 * p + i by omega), Bool.or_false]
    · rw [decide_eq_false hi, Bool.false_and, Bool.false_and]
theorem wd_zero (p : Nat) : wd 0 p = 0 := by unfold wd; rw [Nat.zero_div]
theorem wd_ext {X Y c : Nat} (hX : X < 2 ^ (64 * c)) (hY : Y < 2 ^ (64 * c)) (h : ∀ p, p < c → wd X p = wd Y p) : X = Y := by
  apply Nat.eq_of_testBit_eq
  intro i
  by_cases hi : i < 64 * c
  · have h1 := congrArg (fun w => w.testBit (i % 64)) (h (i / 64) (by omega))
    have h1 : (wd X (i / 64)).testBit (i % 64) = (wd Y (i / 64)).testBit (i % 64) := h1
    rw [wd_bit, wd_bit, decide_eq_true (Nat.mod_lt _ (by decide)), Bool.true_and, Bool.true_and, Nat.div_add_mod] at h1
    exact h1
  · have e : 2 ^ (64 * c) ≤ 2 ^ i := Nat.pow_le_pow_right (by decide) (by omega)
    rw [Nat.testBit_lt_two_pow (by omega), Nat.testBit_lt_two_pow (by omega)]
