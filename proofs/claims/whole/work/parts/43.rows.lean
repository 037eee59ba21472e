/-! ROWS OF SIGNS AS NUMBERS: a row is a number R below 4^24, its first sign highest; dg R k is the sign at place k -/
def dg (R k : Nat) : Nat := R / 4 ^ (23 - k) % 4
theorem dg_lt (R k : Nat) : dg R k < 4 := Nat.mod_lt _ (by decide)
theorem p42 (j : Nat) : 4 ^ j = 2 ^ (2 * j) := by rw [Nat.pow_mul]
theorem iA3 (n : Nat) : nI n &&& 3 = nI (n % 4) := by
  rw [pk_and (nI n) (m := 3) 2 (by decide)]
  have e : (nI n).toBitVec.toNat = n % 2 ^ 32 := by show (BitVec.ofNat 32 n).toNat = _; rw [BitVec.toNat_ofNat]
  rw [e]
  congr 1
  omega
theorem sh23 {k : Nat} (hk : k < 24) : (2 : Int32) * ((23 : Int32) - nI k) = nI (2 * (23 - k)) := by
  rw [show (23 : Int32) = nI 23 from rfl, pk_sub (show k ≤ 23 by omega), show (2 : Int32) = nI 2 from rfl, pk_mul]
theorem sh46 {k : Nat} (hk : k < 24) : (46 : Int32) - (2 : Int32) * nI k = nI (2 * (23 - k)) := by
  rw [show (2 : Int32) = nI 2 from rfl, pk_mul, show (46 : Int32) = nI 46 from rfl, pk_sub (show 2 * k ≤ 46 by omega)]
  congr 1
  omega
theorem sh48 {k : Nat} (hk : k ≤ 24) : (48 : Int32) - (2 : Int32) * nI k = nI (2 * (24 - k)) := by
  rw [show (2 : Int32) = nI 2 from rfl, pk_mul, show (48 : Int32) = nI 48 from rfl, pk_sub (show 2 * k ≤ 48 by omega)]
  congr 1
  omega
theorem smL {k : Nat} (hk : k < 64) : ((((nI k).toInt64 &&& 63).toBitVec).smod 64).toNat = k := by
  rw [wb_c k hk, wb_tb, wb_sm k hk, BitVec.toNat_ofNat, Nat.mod_eq_of_lt (by omega)]
theorem s_signOfRow {N R k : Nat} {M : A_M} (hR : R < 2 ^ 62) (hk : k < 24) : f_X6_signOfRow N (lN R) (nI k) M = some (nI (dg R k), M) := by
  unfold f_X6_signOfRow
  rw [sh23 hk, wb_shr (by omega) (by omega), lN_i, iA3]
  unfold dg
  rw [p42]
theorem s_signAt {N R k : Nat} {M : A_M} (hR : R < 2 ^ 62) (hk : k < 24) : f_X7_signAt N (lN R) (nI k) M = some (nI (dg R k), M) := by
  unfold f_X7_signAt
  rw [sh46 hk, pf_shr (smL (by omega)) hR, show (3 : Int64) = lN (2 ^ 2 - 1) from rfl, fb_maskL, lN_i]
  unfold dg
  rw [p42]
/-- the row has no sign from place n on -/
def rz (R n : Nat) : Prop := R % 4 ^ (24 - n) = 0
theorem rz_or {R k v : Nat} (hk : k < 24) (hz : rz R k) (hv : v < 4) : lN R ||| lN (v * 4 ^ (23 - k)) = lN (R + v * 4 ^ (23 - k)) := by
  unfold rz at hz
  have e : R = 2 ^ (2 * (24 - k)) * (R / 4 ^ (24 - k)) := by
    rw [← p42]
    have := Nat.div_add_mod R (4 ^ (24 - k))
    omega
  have hlt : v * 4 ^ (23 - k) < 2 ^ (2 * (24 - k)) := by
    rw [← p42, show 24 - k = (23 - k) + 1 by omega, Nat.pow_succ]
    have : 0 < 4 ^ (23 - k) := Nat.pow_pos (by decide)
    rw [Nat.mul_comm (4 ^ (23 - k)) 4]
    exact Nat.mul_lt_mul_of_pos_right hv this
  have h := fb_or_sumL (R / 4 ^ (24 - k)) hlt
  rw [← e] at h
  exact h
theorem s_rowAndSign {N R k v : Nat} {M : A_M} (hk : k < 24) (hz : rz R k) (hv : v < 4) : f_X6_rowAndSign N (lN R) (nI k) (nI v) M = some (lN (R + v * 4 ^ (23 - k)), M) := by
  unfold f_X6_rowAndSign
  rw [if_pos (show nI k < 24 from nI_lt (b := 24) hk (by decide)), sh23 hk, nI_l (show v < 2 ^ 31 by omega), wb_shl v (by omega), ← p42, rz_or hk hz hv]
theorem s_with {N R k v : Nat} {M : A_M} (hk : k < 24) (hz : rz R k) (hv : v < 4) : f_X7_with N (lN R) (nI k) (nI v) M = some (lN (R + v * 4 ^ (23 - k)), M) := by
  unfold f_X7_with
  rw [sh46 hk, nI_l (show v < 2 ^ 31 by omega), wb_shl v (by omega), ← p42, rz_or hk hz hv]
theorem rz_mono {R m n : Nat} (h : m ≤ n) (hz : rz R m) : rz R n := by
  unfold rz at *
  have e : 4 ^ (24 - m) = 4 ^ (24 - n) * 4 ^ ((24 - m) - (24 - n)) := by rw [← Nat.pow_add]; congr 1; omega
  rw [e] at hz
  exact Nat.mod_eq_zero_of_dvd (Nat.dvd_trans (Nat.dvd_mul_right _ _) (Nat.dvd_of_mod_eq_zero hz))
theorem rz_24 (R : Nat) : rz R 24 := by unfold rz; simp [Nat.mod_one]
theorem rz_0 (n : Nat) : rz 0 n := Nat.zero_mod _
theorem rz_add {R k v : Nat} (hk : k < 24) (hz : rz R k) : rz (R + v * 4 ^ (23 - k)) (k + 1) := by
  have h := rz_mono (show k ≤ k + 1 by omega) hz
  unfold rz at *
  rw [show 24 - (k + 1) = 23 - k by omega] at *
  rw [Nat.add_mul_mod_self_right]
  exact h
theorem row_add_lt {R k v : Nat} (hk : k < 24) (hR : R < 4 ^ 24) (hz : rz R k) (hv : v < 4) : R + v * 4 ^ (23 - k) < 4 ^ 24 := by
  unfold rz at hz
  have e1 : 4 ^ 24 = 4 ^ (24 - k) * 4 ^ k := by rw [← Nat.pow_add]; congr 1; omega
  obtain ⟨q, rfl⟩ := Nat.dvd_of_mod_eq_zero hz
  have hp : 0 < 4 ^ (24 - k) := Nat.pow_pos (by decide)
  have hq : q < 4 ^ k := by
    rw [e1] at hR
    exact Nat.lt_of_mul_lt_mul_left hR
  have e2 : 4 ^ (24 - k) = 4 ^ (23 - k) * 4 := by rw [show 24 - k = (23 - k) + 1 by omega, Nat.pow_succ]
  have h1 : v * 4 ^ (23 - k) < 4 ^ (24 - k) := by
    rw [e2, Nat.mul_comm]
    exact Nat.mul_lt_mul_of_pos_left hv (Nat.pow_pos (by decide))
  have h2 : 4 ^ (24 - k) * (q + 1) ≤ 4 ^ (24 - k) * 4 ^ k := Nat.mul_le_mul_left _ hq
  rw [e1]
  rw [Nat.mul_add, Nat.mul_one] at h2
  omega
/-- the digits of a row that is one sign longer -/
theorem dg_add_lo {R k v j : Nat} (hk : k < 24) (hz : rz R k) (hv : v < 4) (hj : j < k) : dg (R + v * 4 ^ (23 - k)) j = dg R j := by
  unfold rz at hz
  unfold dg
  obtain ⟨q, rfl⟩ := Nat.dvd_of_mod_eq_zero hz
  have e2 : 4 ^ (24 - k) = 4 ^ (23 - k) * 4 := by rw [show 24 - k = (23 - k) + 1 by omega, Nat.pow_succ]
  have h1 : v * 4 ^ (23 - k) < 4 ^ (24 - k) := by
    rw [e2, Nat.mul_comm]
    exact Nat.mul_lt_mul_of_pos_left hv (Nat.pow_pos (by decide))
  have e3 : 4 ^ (23 - j) = 4 ^ (24 - k) * 4 ^ ((23 - j) - (24 - k)) := by rw [← Nat.pow_add]; congr 1; omega
  rw [e3, ← Nat.div_div_eq_div_mul, ← Nat.div_div_eq_div_mul]
  congr 2
  rw [Nat.mul_add_div (Nat.pow_pos (by decide)), Nat.div_eq_of_lt h1, Nat.mul_div_cancel_left _ (Nat.pow_pos (by decide)), Nat.add_zero]
theorem dg_add_eq {R k v : Nat} (hk : k < 24) (hz : rz R k) (hv : v < 4) : dg (R + v * 4 ^ (23 - k)) k = v := by
  unfold rz at hz
  unfold dg
  obtain ⟨q, rfl⟩ := Nat.dvd_of_mod_eq_zero hz
  have e2 : 4 ^ (24 - k) = 4 ^ (23 - k) * 4 := by rw [show 24 - k = (23 - k) + 1 by omega, Nat.pow_succ]
  rw [e2, Nat.mul_assoc, Nat.mul_comm v, ← Nat.mul_add, Nat.mul_div_cancel_left _ (Nat.pow_pos (by decide))]
  omega
/-! how far two rows are alike -/
/-- of the difference x of two rows: at how many signs they are alike -/
def al (x : Nat) : Nat := if x = 0 then 24 else 23 - x.log2 / 2
theorem al_le {x c : Nat} (hx : x < 4 ^ 24) (hc : c ≤ 24) : c ≤ al x ↔ x < 4 ^ (24 - c) := by
  unfold al
  by_cases h0 : x = 0
  · rw [if_pos h0, h0]
    exact ⟨fun _ => Nat.pow_pos (by decide), fun _ => hc⟩
  · rw [if_neg h0, p42]
    have h1 : x.log2 < 48 := (Nat.log2_lt h0).mpr (by rw [p42] at hx; exact hx)
    rw [← Nat.log2_lt h0]
    omega
theorem al_24 (x : Nat) : al x ≤ 24 := by unfold al; split <;> omega
theorem xor0 {a b : Nat} (h : a ^^^ b = 0) : a = b := by
  apply Nat.eq_of_testBit_eq
  intro i
  have h2 := congrArg (fun z => z.testBit i) h
  simp only [Nat.testBit_xor, Nat.zero_testBit] at h2
  revert h2
  cases a.testBit i <;> cases b.testBit i <;> simp
theorem xor_lt {a b m : Nat} : a ^^^ b < 2 ^ m ↔ a / 2 ^ m = b / 2 ^ m := by
  constructor
  · intro h
    have h1 : (a ^^^ b) >>> m = 0 := by rw [Nat.shiftRight_eq_div_pow, Nat.div_eq_of_lt h]
    rw [Nat.shiftRight_xor_distrib, Nat.shiftRight_eq_div_pow, Nat.shiftRight_eq_div_pow] at h1
    exact xor0 h1
  · intro h
    have h1 : (a ^^^ b) / 2 ^ m = 0 := by
      rw [← Nat.shiftRight_eq_div_pow, Nat.shiftRight_xor_distrib, Nat.shiftRight_eq_div_pow, Nat.shiftRight_eq_div_pow, h, Nat.xor_self]
    exact (Nat.div_eq_zero_iff.mp h1).resolve_left (Nat.ne_of_gt (Nat.pow_pos (by decide)))
theorem al_iff {a b c : Nat} (ha : a < 4 ^ 24) (hb : b < 4 ^ 24) (hc : c ≤ 24) : c ≤ al (a ^^^ b) ↔ a / 4 ^ (24 - c) = b / 4 ^ (24 - c) := by
  have hx : a ^^^ b < 4 ^ 24 := by rw [p42] at *; exact Nat.xor_lt_two_pow ha hb
  rw [al_le hx hc, p42, xor_lt]

/-! leading zeros -/
theorem log2_div {n k : Nat} (h : 2 ^ k ≤ n) : (n / 2 ^ k).log2 + k = n.log2 := by
  have hp : 0 < 2 ^ k := Nat.pow_pos (by decide)
  have hn : n ≠ 0 := by omega
  have hq : n / 2 ^ k ≠ 0 := by
    have := Nat.div_pos h hp
    omega
  have h1 : 2 ^ k ≤ n → k ≤ n.log2 := fun h => by
    rcases Nat.lt_or_ge n.log2 k with q | q
    · exact absurd ((Nat.log2_lt hn).mp q) (by omega)
    · exact q
  have hk := h1 h
  have e : ∀ m, (n / 2 ^ k).log2 < m ↔ n.log2 < m + k := by
    intro m
    rw [Nat.log2_lt hq, Nat.log2_lt hn, Nat.pow_add, Nat.div_lt_iff_lt_mul hp]
  have e1 := e ((n / 2 ^ k).log2 + 1)
  have e2 := e ((n / 2 ^ k).log2)
  omega
theorem iushr_n {n k : Nat} (hn : n < 2 ^ 32) (hk : k < 32) : ((nI n).toUInt32 >>> ((nI k).toUInt32 &&& Int32.toUInt32 31)).toInt32 = nI (n / 2 ^ k) := pk_ushrN hn (nI k) k (s_u k hk)
theorem lg1 : ∀ n, n < 16 → 0 < n → (if n < 4 then n / 2 else n / 4 / 2 + 2) = n.log2 := by decide +kernel
theorem addm {c k : Nat} (hk : k ≤ c) : nI c + -nI k = nI (c - k) := by
  rw [← pk_sub hk, Int32.sub_eq_add_neg]
theorem nI_big {n : Nat} (h1 : 2 ^ 31 ≤ n) (h2 : n < 2 ^ 32) : (nI n).toInt = (n : Int) - 2 ^ 32 := by
  show (BitVec.ofNat 32 n).toInt = _
  rw [BitVec.toInt_eq_toNat_cond, BitVec.toNat_ofNat, Nat.mod_eq_of_lt h2, if_neg (by omega)]
  simp
theorem nlz61 {N n c : Nat} {M : A_M} (h : n < 16) (h0 : 0 < n) (hc : c < 2 ^ 31) (hlg : n.log2 ≤ c) : f_J6_numberOfLeadingZeros_0f7a4_K61 N (nI n) (nI c) M = some (nI (c - n.log2), M) := by
  have hl := lg1 n h h0
  unfold f_J6_numberOfLeadingZeros_0f7a4_K61
  by_cases h4 : n < 4
  · rw [if_pos (show nI n < 4 from nI_lt (b := 4) h4 (by decide)), show (1 : Int32) = nI 1 from rfl, iushr_n (by omega) (by decide)]
    rw [if_pos h4] at hl
    rw [show n / 2 ^ 1 = n.log2 from hl, pk_sub hlg]
  · rw [if_neg (show ¬ nI n < 4 from nI_nlt (b := 4) (by omega) (by omega)), show (2 : Int32) = nI 2 from rfl, show (1 : Int32) = nI 1 from rfl, iushr_n (n := n) (by omega) (by decide), iushr_n (by omega) (by decide)]
    rw [if_neg h4] at hl
    rw [addm (show 2 ≤ c by omega), show n / 2 ^ 2 / 2 ^ 1 = n.log2 - 2 by omega, pk_sub (by omega)]
    congr 3
    omega
theorem nlz48 {N n c : Nat} {M : A_M} (h : n < 256) (h0 : 0 < n) (hc : c < 2 ^ 31) (hlg : n.log2 ≤ c) : f_J6_numberOfLeadingZeros_0f7a4_K48 N (nI n) (nI c) M = some (nI (c - n.log2), M) := by
  unfold f_J6_numberOfLeadingZeros_0f7a4_K48
  by_cases h4 : n < 16
  · rw [if_pos (show nI n < 16 from nI_lt (b := 16) h4 (by decide)), nlz61 h4 h0 hc hlg]
  · have hd := log2_div (n := n) (k := 4) (by omega)
    rw [if_neg (show ¬ nI n < 16 from nI_nlt (b := 16) (by omega) (by omega)), show (4 : Int32) = nI 4 from rfl, iushr_n (n := n) (by omega) (by decide), addm (by omega), nlz61 (by omega) (by omega) (by omega) (by omega)]
    congr 3
    omega
theorem nlz33 {N n c : Nat} {M : A_M} (h : n < 65536) (h0 : 0 < n) (hc : c < 2 ^ 31) (hlg : n.log2 ≤ c) : f_J6_numberOfLeadingZeros_0f7a4_K33 N (nI n) (nI c) M = some (nI (c - n.log2), M) := by
  unfold f_J6_numberOfLeadingZeros_0f7a4_K33
  by_cases h4 : n < 256
  · rw [if_pos (show nI n < 256 from nI_lt (b := 256) h4 (by decide)), nlz48 h4 h0 hc hlg]
  · have hd := log2_div (n := n) (k := 8) (by omega)
    rw [if_neg (show ¬ nI n < 256 from nI_nlt (b := 256) (by omega) (by omega)), show (8 : Int32) = nI 8 from rfl, iushr_n (n := n) (by omega) (by decide), addm (by omega), nlz48 (by omega) (by omega) (by omega) (by omega)]
    congr 3
    omega
theorem nlz32 {N n : Nat} {M : A_M} (h : n < 2 ^ 31) (h0 : 0 < n) : f_J6_numberOfLeadingZeros_0f7a4 N (nI n) M = some (nI (31 - n.log2), M) := by
  have hlg : n.log2 < 31 := (Nat.log2_lt (by omega)).mpr h
  unfold f_J6_numberOfLeadingZeros_0f7a4
  rw [if_pos (show 0 < nI n from nI_lt (a := 0) h0 h)]
  by_cases h4 : n < 65536
  · rw [if_pos (show nI n < 65536 from nI_lt (b := 65536) h4 (by decide)), show (31 : Int32) = nI 31 from rfl, nlz33 h4 h0 (by decide) (by omega)]
  · have hd := log2_div (n := n) (k := 16) (by omega)
    rw [if_neg (show ¬ nI n < 65536 from nI_nlt (b := 65536) (by omega) (by omega)), show (16 : Int32) = nI 16 from rfl, iushr_n (n := n) (by omega) (by decide), show (31 : Int32) = nI 31 from rfl, addm (by decide), nlz33 (by omega) (by omega) (by omega) (by omega)]
    congr 3
    omega
theorem nlz64 {N n : Nat} {M : A_M} (h : n < 2 ^ 48) : f_J13_numberOfLeadingZeros_95d88 N (lN n) M = some (nI (if n = 0 then 64 else 63 - n.log2), M) := by
  have hz : f_J6_numberOfLeadingZeros_0f7a4 N (nI 0) M = some (nI 32, M) := rfl
  unfold f_J13_numberOfLeadingZeros_95d88
  rw [show (32 : Int32) = nI 32 from rfl, wb_shr (by omega) (by decide), lN_i, lN_i]
  by_cases h0 : n / 2 ^ 32 = 0
  · rw [h0, if_pos (show nI 0 = 0 from rfl)]
    have hlt : n < 2 ^ 32 := by omega
    by_cases hn : n = 0
    · subst hn
      rw [hz, if_pos rfl]
      rfl
    · rw [if_neg hn]
      by_cases h31 : n < 2 ^ 31
      · have hlg : n.log2 < 31 := (Nat.log2_lt hn).mpr h31
        rw [nlz32 h31 (by omega)]
        show some (nI 32 + nI (31 - n.log2), M) = _
        rw [nI_add]
        congr 3
        omega
      · have e := nI_big (n := n) (by omega) (by omega)
        have e1 : ¬ 0 < nI n := by
          rw [Int32.lt_iff_toInt_lt, e]
          show ¬ (0 : Int) < _
          omega
        have e2 : ¬ nI n = 0 := by
          intro q
          rw [q] at e
          have : (0 : Int) = (n : Int) - 2 ^ 32 := e
          omega
        have hl1 : n.log2 < 32 := (Nat.log2_lt hn).mpr (by omega)
        have hl2 : ¬ n.log2 < 31 := fun q => h31 ((Nat.log2_lt hn).mp q)
        unfold f_J6_numberOfLeadingZeros_0f7a4
        rw [if_neg e1, if_neg e2]
        show some (nI 32 + nI 0, M) = _
        rw [nI_add]
        congr 3
        omega
  · rw [if_neg (show ¬ nI (n / 2 ^ 32) = 0 from nI_ne0 (by omega) (by omega)), nlz32 (by omega) (by omega)]
    have hd := log2_div (n := n) (k := 32) (by omega)
    rw [if_neg (show ¬ n = 0 by rintro rfl; exact h0 rfl)]
    show some (nI (31 - (n / 2 ^ 32).log2), M) = _
    congr 3
    omega
