/-! Doubles: normal positive ones, and what halving, doubling, dividing and adding make of them. -/
theorem nz_val {x : UInt64} (h : Jvm.FP.Core.val64 x ≠ .nan) : nz x = some x := by
  exact if_pos (Jvm.Free.Fl.val64_no.mpr h)
/-- a positive normal double -/
def Nm (x : UInt64) (c : Nat) (q : Int) : Prop := Jvm.FP.Core.val64 x = .fin false c q ∧ 4503599627370496 ≤ c ∧ c < 9007199254740992 ∧ -900 ≤ q ∧ q ≤ 900
theorem Nm.nz {x : UInt64} {c : Nat} {q : Int} (h : Nm x c q) : nz x = some x := nz_val (by rw [h.1]; intro e; cases e)
theorem b64p : Jvm.FP.Core.b64.p = 53 := rfl
theorem b64q : Jvm.FP.Core.b64.qmin = -1074 := by decide
theorem b64Q : Jvm.FP.Core.b64.qmax = 971 := by decide
theorem b64t : Jvm.FP.Core.b64.tails = 4503599627370496 := by decide
theorem nm_fits {s : Bool} {c : Nat} {q : Int} (h1 : 4503599627370496 ≤ c) (h2 : c < 9007199254740992) (h3 : -1000 ≤ q) (h4 : q ≤ 950) : Jvm.FP.Core.fits Jvm.FP.Core.b64 (.fin s c q) := by
  refine ⟨?_, ?_, ?_, .inr ?_⟩
  · rw [b64p]; exact h2
  · rw [b64q]; omega
  · rw [b64Q]; omega
  · rw [b64t]; exact h1
/-- rounding a positive magnitude between powers of two -/
theorem rr_norm {A B : Nat} {e lo hi : Int} (hA : 0 < A) (hB : 0 < B) (h1 : ¬ Jvm.FP.Core.Below A B lo) (h2 : Jvm.FP.Core.Below A B hi) (g1 : -900 ≤ lo + e) (g2 : hi + e ≤ 900) :
    ∃ c q, Jvm.FP.Core.roundRatio Jvm.FP.Core.b64 false A B e = .fin false c q ∧ 4503599627370496 ≤ c ∧ c < 9007199254740992 ∧ lo + e - 52 ≤ q ∧ q ≤ hi + e - 52 := by
  have l := Jvm.FP.Core.leading_spec hA hB
  have a1 := Jvm.FP.Core.lt_of_below h1 l.2
  have a2 := Jvm.FP.Core.lt_of_below l.1 h2
  have hq : Jvm.FP.Core.quantum Jvm.FP.Core.b64 A B e = Jvm.FP.Core.leading A B + e - 52 := by
    unfold Jvm.FP.Core.quantum
    rw [b64q, b64p]
    omega
  have n1 : 4503599627370496 ≤ Jvm.FP.Core.nearest (Jvm.FP.Core.unitsNum A e (Jvm.FP.Core.leading A B + e - 52)) (Jvm.FP.Core.unitsDen B e (Jvm.FP.Core.leading A B + e - 52)) := by
    refine Jvm.FP.Core.nearest_ge (Jvm.FP.Core.unitsDen_pos hB _ _) (Nat.le_of_not_lt fun hh => ?_)
    have := (Jvm.FP.Core.units_below A B e (Jvm.FP.Core.leading A B + e - 52) 52).mp hh
    rw [show Jvm.FP.Core.leading A B + e - 52 - e + ((52 : Nat) : Int) = Jvm.FP.Core.leading A B by omega] at this
    exact l.1 this
  have n2 : Jvm.FP.Core.nearest (Jvm.FP.Core.unitsNum A e (Jvm.FP.Core.leading A B + e - 52)) (Jvm.FP.Core.unitsDen B e (Jvm.FP.Core.leading A B + e - 52)) ≤ 9007199254740992 := by
    refine Jvm.FP.Core.nearest_le (Jvm.FP.Core.unitsDen_pos hB _ _) (Nat.le_of_lt ?_)
    refine (Jvm.FP.Core.units_below A B e (Jvm.FP.Core.leading A B + e - 52) 53).mpr ?_
    rw [show Jvm.FP.Core.leading A B + e - 52 - e + ((53 : Nat) : Int) = Jvm.FP.Core.leading A B + 1 by omega]
    exact l.2
  unfold Jvm.FP.Core.roundRatio
  rw [if_neg (by omega), hq]
  unfold Jvm.FP.Core.roundAt Jvm.FP.Core.settle Jvm.FP.Core.bound
  rw [b64p, b64Q, b64t]
  generalize Jvm.FP.Core.nearest (Jvm.FP.Core.unitsNum A e (Jvm.FP.Core.leading A B + e - 52)) (Jvm.FP.Core.unitsDen B e (Jvm.FP.Core.leading A B + e - 52)) = m at n1 n2 ⊢
  by_cases hm : m < 9007199254740992
  · rw [if_pos (show m < 2 ^ 53 from hm), if_pos (by omega)]
    exact ⟨m, _, rfl, n1, hm, by omega, by omega⟩
  · rw [if_neg (show ¬ m < 2 ^ 53 from hm), if_pos (by omega)]
    exact ⟨_, _, rfl, by omega, by omega, by omega, by omega⟩
/-- the quotient of two normal doubles -/
theorem nm_div {x y : UInt64} {c d : Nat} {q r : Int} (hx : Nm x c q) (hy : Nm y d r) (g1 : -800 ≤ q - r) (g2 : q - r ≤ 800) : ∃ c' q', Nm (Jvm.FP.ddiv x y) c' q' ∧ q - r - 53 ≤ q' ∧ q' ≤ q - r - 51 := by
  obtain ⟨x1, x2, x3, -, -⟩ := hx
  obtain ⟨y1, y2, y3, -, -⟩ := hy
  have b1 : ¬ Jvm.FP.Core.Below c d (-1) := by
    unfold Jvm.FP.Core.Below
    show ¬ c * 2 ^ 1 < d * 2 ^ 0
    omega
  have b2 : Jvm.FP.Core.Below c d 1 := by
    unfold Jvm.FP.Core.Below
    show c * 2 ^ 0 < d * 2 ^ 1
    omega
  obtain ⟨c', q', e, e1, e2, e3, e4⟩ := rr_norm (e := q - r) (by omega) (by omega) b1 b2 (by omega) (by omega)
  refine ⟨c', q', ⟨?_, e1, e2, by omega, by omega⟩, by omega, by omega⟩
  rw [Jvm.FP.Core.val64_ddiv, x1, y1]
  show (if d = 0 then _ else _) = _
  rw [if_neg (by omega)]
  exact e
/-- a whole number as a double -/
theorem nm_l2d {v : Int64} {n : Nat} (hv : v.toInt = (n : Int)) (h1 : 1 ≤ n) (h2 : n < 9007199254740992) : ∃ c q, Nm (Jvm.FP.l2d v) c q ∧ -52 ≤ q ∧ q ≤ 1 := by
  obtain ⟨c, q, e, e1, e2, e3, e4⟩ := rr_norm (A := n) (B := 1) (e := 0) (lo := 0) (hi := 53) (by omega) (by omega) (by unfold Jvm.FP.Core.Below; show ¬ n * 2 ^ 0 < 1 * 2 ^ 0; omega) (by unfold Jvm.FP.Core.Below; show n * 2 ^ 0 < 1 * 2 ^ 53; omega) (by omega) (by omega)
  refine ⟨c, q, ⟨?_, e1, e2, by omega, by omega⟩, by omega, by omega⟩
  show Jvm.FP.Core.val64 (Jvm.FP.Core.l2d v) = _
  rw [Jvm.FP.Core.val64_l2d, hv]
  show Jvm.FP.Core.roundRatio Jvm.FP.Core.b64 (decide ((n : Int) < 0)) (n : Int).natAbs 1 0 = _
  rw [show decide ((n : Int) < 0) = false from decide_eq_false (by omega), Int.natAbs_natCast]
  exact e
theorem nm_i2d {v : Int32} {n : Nat} (hv : v.toInt = (n : Int)) (h1 : 1 ≤ n) (h2 : n ≤ 4) : ∃ c q, Nm (Jvm.FP.i2d v) c q ∧ -52 ≤ q ∧ q ≤ -49 := by
  obtain ⟨c, q, e, e1, e2, e3, e4⟩ := rr_norm (A := n) (B := 1) (e := 0) (lo := 0) (hi := 3) (by omega) (by omega) (by unfold Jvm.FP.Core.Below; show ¬ n * 2 ^ 0 < 1 * 2 ^ 0; omega) (by unfold Jvm.FP.Core.Below; show n * 2 ^ 0 < 1 * 2 ^ 3; omega) (by omega) (by omega)
  refine ⟨c, q, ⟨?_, e1, e2, by omega, by omega⟩, by omega, by omega⟩
  show Jvm.FP.Core.val64 (Jvm.FP.Core.i2d v) = _
  rw [Jvm.FP.Core.val64_i2d, hv]
  show Jvm.FP.Core.roundRatio Jvm.FP.Core.b64 (decide ((n : Int) < 0)) (n : Int).natAbs 1 0 = _
  rw [show decide ((n : Int) < 0) = false from decide_eq_false (by omega), Int.natAbs_natCast]
  exact e
/-- the sum of two normal doubles -/
theorem nm_add {x y : UInt64} {c d : Nat} {q r : Int} (hx : Nm x c q) (hy : Nm y d r) (g1 : -600 ≤ q) (g2 : q ≤ 600) (g3 : -600 ≤ r) (g4 : r ≤ 600) : ∃ c' q', Nm (Jvm.FP.dadd x y) c' q' ∧ min q r ≤ q' ∧ q' ≤ max q r + 2 := by
  obtain ⟨x1, x2, x3, -, -⟩ := hx
  obtain ⟨y1, y2, y3, -, -⟩ := hy
  have key : ∀ (a b : Nat) (k : Nat) (e : Int), 4503599627370496 ≤ a → a < 9007199254740992 → 4503599627370496 ≤ b → b < 9007199254740992 → -600 ≤ e → e + k ≤ 600 → ∃ c' q', Jvm.FP.Core.roundRatio Jvm.FP.Core.b64 false (a + b * 2 ^ k) 1 e = .fin false c' q' ∧ 4503599627370496 ≤ c' ∧ c' < 9007199254740992 ∧ e + k ≤ q' ∧ q' ≤ e + k + 2 := by
    intro a b k e a1 a2 b1 b2 e1 e2
    have hk : 1 ≤ 2 ^ k := Nat.one_le_two_pow
    have w1 : 4503599627370496 * 2 ^ k ≤ b * 2 ^ k := Nat.mul_le_mul_right _ b1
    have w2 : b * 2 ^ k ≤ 9007199254740992 * 2 ^ k := Nat.mul_le_mul_right _ (by omega)
    obtain ⟨c', q', h1, h2, h3, h4, h5⟩ := rr_norm (A := a + b * 2 ^ k) (B := 1) (e := e) (lo := 52 + (k : Int)) (hi := 54 + (k : Int)) (by omega) (by omega)
      (by
        unfold Jvm.FP.Core.Below
        rw [show (-(52 + (k : Int))).toNat = 0 by omega, show (52 + (k : Int)).toNat = 52 + k by omega, Nat.pow_add]
        omega)
      (by
        unfold Jvm.FP.Core.Below
        rw [show (-(54 + (k : Int))).toNat = 0 by omega, show (54 + (k : Int)).toNat = 54 + k by omega, Nat.pow_add]
        omega) (by omega) (by omega)
    exact ⟨c', q', h1, h2, h3, by omega, by omega⟩
  have sg : ∀ a b : Nat, Jvm.FP.Core.sumSign false false ((a : Int) + (b : Int)) = false := by
    intro a b
    unfold Jvm.FP.Core.sumSign
    split
    · rfl
    · exact decide_eq_false (by omega)
  have na : ∀ a b : Nat, ((a : Int) + (b : Int)).natAbs = a + b := by intro a b; omega
  by_cases hqr : q ≤ r
  · obtain ⟨c', q', e, e1, e2, e3, e4⟩ := key c d (r - q).toNat q x2 x3 y2 y3 g1 (by omega)
    refine ⟨c', q', ⟨?_, e1, e2, by omega, by omega⟩, by omega, by omega⟩
    rw [Jvm.FP.Core.val64_dadd, x1, y1]
    show Jvm.FP.Core.roundRatio Jvm.FP.Core.b64 (Jvm.FP.Core.sumSign false false (Jvm.FP.Core.sumUnits false c q false d r (min q r))) (Jvm.FP.Core.sumUnits false c q false d r (min q r)).natAbs 1 (min q r) = _
    rw [show min q r = q by omega]
    unfold Jvm.FP.Core.sumUnits Jvm.FP.Core.signed Jvm.FP.Core.inUnits
    rw [if_neg (by decide), if_neg (by decide), sg, na, Int.sub_self]
    rw [show c * 2 ^ (0 : Int).toNat = c from Nat.mul_one c]
    exact e
  · obtain ⟨c', q', e, e1, e2, e3, e4⟩ := key d c (q - r).toNat r y2 y3 x2 x3 g3 (by omega)
    refine ⟨c', q', ⟨?_, e1, e2, by omega, by omega⟩, by omega, by omega⟩
    rw [Jvm.FP.Core.val64_dadd, x1, y1]
    show Jvm.FP.Core.roundRatio Jvm.FP.Core.b64 (Jvm.FP.Core.sumSign false false (Jvm.FP.Core.sumUnits false c q false d r (min q r))) (Jvm.FP.Core.sumUnits false c q false d r (min q r)).natAbs 1 (min q r) = _
    rw [show min q r = r by omega]
    unfold Jvm.FP.Core.sumUnits Jvm.FP.Core.signed Jvm.FP.Core.inUnits
    rw [if_neg (by decide), if_neg (by decide), sg, na, Int.sub_self]
    rw [show d * 2 ^ (0 : Int).toNat = d from Nat.mul_one d, Nat.add_comm]
    exact e
theorem nm_add0 {y : UInt64} {d : Nat} {r : Int} (hy : Nm y d r) : Jvm.FP.dadd Jvm.FP.dconst0 y = y := by
  show Jvm.FP.Core.dadd Jvm.FP.Core.dconst0 y = y
  rw [Jvm.FP.Core.dadd_comm]
  refine Jvm.FP.Core.dadd_zero (by rw [hy.1]; intro e; cases e) (fun e => ?_)
  have := hy.1
  rw [e, Jvm.FP.Core.val64_dzeroNeg] at this
  cases this
theorem v_two : Jvm.FP.Core.val64 4611686018427387904 = .fin false 4503599627370496 (-51) := by decide +kernel
theorem v_one : Jvm.FP.Core.val64 Jvm.FP.dconst1 = .fin false 4503599627370496 (-52) := by decide +kernel
theorem v_zero : Jvm.FP.Core.val64 Jvm.FP.dconst0 = .fin false 0 (-1074) := by decide +kernel
theorem v_big : Jvm.FP.Core.val64 4841369599423283200 = .fin false 4503599627370496 0 := by decide +kernel
theorem nm_one : Nm Jvm.FP.dconst1 4503599627370496 (-52) := ⟨v_one, by decide, by decide, by decide, by decide⟩
/-- halving -/
theorem nm_half {x : UInt64} {c : Nat} {q : Int} (h : Nm x c q) (g : -800 ≤ q) : Nm (Jvm.FP.ddiv x 4611686018427387904) c (q - 1) := by
  obtain ⟨x1, x2, x3, x4, x5⟩ := h
  refine ⟨?_, x2, x3, by omega, by omega⟩
  rw [Jvm.FP.Core.val64_ddiv, x1, v_two]
  show (if (4503599627370496 : Nat) = 0 then (if c = 0 then Jvm.FP.Core.Datum.nan else .inf false) else Jvm.FP.Core.roundRatio Jvm.FP.Core.b64 false c 4503599627370496 (q - -51)) = _
  rw [if_neg (by decide)]
  refine Jvm.FP.Core.roundRatio_exact Jvm.FP.Core.good_b64 (by decide) (nm_fits x2 x3 (by omega) (by omega)) ?_
  rw [show (q - -51 - (q - 1)).toNat = 52 by omega, show (q - 1 - (q - -51)).toNat = 0 by omega]
  omega
/-- doubling -/
theorem nm_twice {x : UInt64} {c : Nat} {q : Int} (h : Nm x c q) (g : q ≤ 800) : Nm (Jvm.FP.dmul x 4611686018427387904) c (q + 1) := by
  obtain ⟨x1, x2, x3, x4, x5⟩ := h
  refine ⟨?_, x2, x3, by omega, by omega⟩
  rw [Jvm.FP.Core.val64_dmul, x1, v_two]
  show Jvm.FP.Core.roundRatio Jvm.FP.Core.b64 false (c * 4503599627370496) 1 (q + -51) = _
  refine Jvm.FP.Core.roundRatio_exact Jvm.FP.Core.good_b64 (by decide) (nm_fits x2 x3 (by omega) (by omega)) ?_
  rw [show (q + -51 - (q + 1)).toNat = 0 by omega, show (q + 1 - (q + -51)).toNat = 52 by omega]
  omega
/-- the order of two normal doubles with c at least as great -/
theorem nm_cmp {x y : UInt64} {c : Nat} {q r : Int} (hx : Nm x c q) (hy : Nm y 4503599627370496 r) (op : CmpOp) : (r ≤ q → 0 ≤ Op.cmpValue (Jvm.FP.dcmp x y) op) ∧ (q < r → Op.cmpValue (Jvm.FP.dcmp x y) op < 0) := by
  obtain ⟨x1, x2, x3, x4, x5⟩ := hx
  obtain ⟨y1, y2, y3, y4, y5⟩ := hy
  have e : Jvm.FP.dcmp x y = some (compare ((c * 2 ^ (q - min q r).toNat : Nat) : Int) ((4503599627370496 * 2 ^ (r - min q r).toNat : Nat) : Int)) := by
    show Jvm.FP.Core.order (Jvm.FP.Core.val64 x) (Jvm.FP.Core.val64 y) = _
    rw [x1, y1]
    rfl
  rw [e]
  constructor
  · intro h
    have hk : 1 ≤ 2 ^ (q - r).toNat := Nat.one_le_two_pow
    have : ¬ ((c * 2 ^ (q - min q r).toNat : Nat) : Int) < ((4503599627370496 * 2 ^ (r - min q r).toNat : Nat) : Int) := by
      rw [show min q r = r by omega, Int.sub_self]
      have w : 4503599627370496 * 2 ^ (q - r).toNat ≤ c * 2 ^ (q - r).toNat := Nat.mul_le_mul_right _ x2
      have : 4503599627370496 * 2 ^ (0 : Int).toNat = 4503599627370496 := rfl
      omega
    cases hc : compare ((c * 2 ^ (q - min q r).toNat : Nat) : Int) ((4503599627370496 * 2 ^ (r - min q r).toNat : Nat) : Int) with
    | lt => exact absurd (Int.compare_eq_lt.mp hc) this
    | eq => cases op <;> decide
    | gt => cases op <;> decide
  · intro h
    have : ((c * 2 ^ (q - min q r).toNat : Nat) : Int) < ((4503599627370496 * 2 ^ (r - min q r).toNat : Nat) : Int) := by
      rw [show min q r = q by omega, Int.sub_self]
      have w : 2 ^ 1 ≤ 2 ^ (r - q).toNat := Nat.pow_le_pow_right (by decide) (by omega)
      have : c * 2 ^ (0 : Int).toNat = c := Nat.mul_one c
      omega
    rw [Int.compare_eq_lt.mpr this]
    cases op <;> decide
/-- the fraction of a normal double between 1 and 2 -/
theorem nm_frac {x : UInt64} {c : Nat} (h : Nm x c (-52)) : nz (Jvm.FP.dsub x Jvm.FP.dconst1) = some (Jvm.FP.dsub x Jvm.FP.dconst1) ∧ nz (Jvm.FP.dmul (Jvm.FP.dsub x Jvm.FP.dconst1) 4841369599423283200) = some (Jvm.FP.dmul (Jvm.FP.dsub x Jvm.FP.dconst1) 4841369599423283200) ∧ Jvm.FP.d2l (Jvm.FP.dmul (Jvm.FP.dsub x Jvm.FP.dconst1) 4841369599423283200) = Int64.ofInt ((c : Int) - 4503599627370496) := by
  obtain ⟨x1, x2, x3, x4, x5⟩ := h
  obtain ⟨f, rfl⟩ : ∃ f, c = f + 4503599627370496 := ⟨c - 4503599627370496, by omega⟩
  -- the difference is exact
  have d1 : ∃ c' q', Jvm.FP.Core.val64 (Jvm.FP.dsub x Jvm.FP.dconst1) = .fin false c' q' ∧ f * 2 ^ (-52 - q').toNat = c' * 2 ^ (q' - -52).toNat ∧ -1074 ≤ q' ∧ q' ≤ 971 := by
    have e : Jvm.FP.Core.val64 (Jvm.FP.dsub x Jvm.FP.dconst1) = Jvm.FP.Core.roundRatio Jvm.FP.Core.b64 false f 1 (-52) := by
      rw [Jvm.FP.Core.val64_dsub, x1, v_one]
      show Jvm.FP.Core.roundRatio Jvm.FP.Core.b64 (Jvm.FP.Core.sumSign false true (Jvm.FP.Core.sumUnits false (f + 4503599627370496) (-52) true 4503599627370496 (-52) (-52))) (Jvm.FP.Core.sumUnits false (f + 4503599627370496) (-52) true 4503599627370496 (-52) (-52)).natAbs 1 (-52) = _
      have : Jvm.FP.Core.sumUnits false (f + 4503599627370496) (-52) true 4503599627370496 (-52) (-52) = (f : Int) := by
        show (((f + 4503599627370496) * 2 ^ 0 : Nat) : Int) + -((4503599627370496 * 2 ^ 0 : Nat) : Int) = _
        omega
      rw [this, Int.natAbs_natCast]
      have : Jvm.FP.Core.sumSign false true (f : Int) = false := by
        unfold Jvm.FP.Core.sumSign
        split
        · rfl
        · exact decide_eq_false (by omega)
      rw [this]
    by_cases h0 : f = 0
    · subst h0
      refine ⟨0, -1074, ?_, by omega, by omega, by omega⟩
      rw [e]
      unfold Jvm.FP.Core.roundRatio
      rw [if_pos rfl, b64q]
    · obtain ⟨c', q', hf, hv⟩ := Jvm.FP.Core.natFit Jvm.FP.Core.good_b64 Jvm.FP.Core.wide_b64 false (n := f) (by rw [b64p]; show _ ≤ 9007199254740992; omega)
      have hc0 : c' ≠ 0 := by
        intro hc
        rw [hc, Nat.zero_mul] at hv
        have := Nat.two_pow_pos (0 - q').toNat
        have h1 := Nat.mul_pos (Nat.pos_of_ne_zero h0) this
        omega
      have hq : -60 ≤ q' ∧ q' ≤ 0 := by
        have hf2 := hf
        obtain ⟨g1, g2, g3, g4⟩ := hf2
        rw [b64p] at g1
        rw [b64q] at g2 g4
        rw [b64Q] at g3
        rw [b64t] at g4
        constructor
        · refine Int.not_lt.mp fun hlt => ?_
          have w : 2 ^ 60 ≤ 2 ^ (0 - q').toNat := Nat.pow_le_pow_right (by decide) (by omega)
          rw [show (q' - 0).toNat = 0 by omega] at hv
          have w2 := Nat.mul_le_mul (show 1 ≤ f by omega) w
          have : (2 : Nat) ^ 60 = 1152921504606846976 := by decide
          have : (2 : Nat) ^ 53 = 9007199254740992 := by decide
          omega
        · refine Int.not_lt.mp fun hlt => ?_
          have hc : 4503599627370496 ≤ c' := by omega
          have w : 2 ^ 1 ≤ 2 ^ (q' - 0).toNat := Nat.pow_le_pow_right (by decide) (by omega)
          rw [show (0 - q').toNat = 0 by omega, Nat.mul_one c'] at hv
          have w2 := Nat.mul_le_mul hc w
          omega
      have hf2 := hf
      obtain ⟨g1, g2, g3, g4⟩ := hf2
      rw [b64q] at g4
      rw [b64t] at g4
      rw [b64p] at g1
      have hc : 4503599627370496 ≤ c' := by omega
      refine ⟨c', q' - 52, ?_, ?_, by omega, by omega⟩
      · rw [e]
        refine Jvm.FP.Core.roundRatio_exact Jvm.FP.Core.good_b64 (by decide) (nm_fits hc g1 (by omega) (by omega)) ?_
        rw [show (-52 - (q' - 52)).toNat = (0 - q').toNat by omega, show (q' - 52 - -52).toNat = (q' - 0).toNat by omega]
        exact hv
      · rw [show (-52 - (q' - 52)).toNat = (0 - q').toNat by omega, show (q' - 52 - -52).toNat = (q' - 0).toNat by omega, hv, Nat.mul_one]
  obtain ⟨c', q', e, hv, b1, b2⟩ := d1
  have dw : Jvm.FP.Core.DInt ((f : Nat) : Int) (Jvm.FP.dmul (Jvm.FP.dsub x Jvm.FP.dconst1) 4841369599423283200) := by
    unfold Jvm.FP.Core.DInt
    rw [Jvm.FP.Core.val64_dmul, e, v_big]
    refine Jvm.FP.Core.whole_round Jvm.FP.Core.good_b64 Jvm.FP.Core.wide_b64 (by rw [b64p, Int.natAbs_natCast]; show _ ≤ 9007199254740992; omega) ?_
    show (((c' * 4503599627370496) * 2 ^ (q' + 0).toNat : Nat) : Int) = (f : Int) * ((2 ^ (-(q' + 0)).toNat : Nat) : Int)
    rw [← Int.natCast_mul, Int.add_zero]
    refine congrArg Nat.cast ?_
    rw [show (4503599627370496 : Nat) = 2 ^ 52 from by decide]
    by_cases k1 : q' ≤ -52
    · rw [show (q' - -52).toNat = 0 by omega] at hv
      rw [show q'.toNat = 0 by omega, show (-q').toNat = (-52 - q').toNat + 52 by omega, Nat.pow_add, ← Nat.mul_assoc, hv]
      omega
    · rw [show (-52 - q').toNat = 0 by omega, Nat.pow_zero, Nat.mul_one] at hv
      rw [hv, Nat.mul_assoc, Nat.mul_assoc, ← Nat.pow_add, ← Nat.pow_add]
      congr 2
      omega
  refine ⟨nz_val (by rw [e]; intro h; cases h), nz_val ?_, ?_⟩
  · intro h
    unfold Jvm.FP.Core.DInt at dw
    rw [h] at dw
    exact dw
  · rw [show (((f + 4503599627370496 : Nat) : Int) - 4503599627370496) = (f : Int) by omega]
    refine Jvm.FP.Core.d2l_int ?_
    rw [show (Int64.ofInt (f : Int)).toInt = (f : Int) from Int64.toInt_ofInt_of_le (by omega) (by omega)]
    exact dw
section Bi
variable {N : Nat} {M : A_M}
/-- the bits of a positive normal double, put together -/
theorem bits_nm {x : UInt64} {c : Nat} {q : Int} (h : Nm x c q) : ((((Int32.ofInt (q + 52)).toInt64 + (1023 : Int64)) <<< ((52 : Int32).toInt64 &&& 63)) ||| Int64.ofInt ((c : Int) - 4503599627370496)) = x.toInt64 := by
  obtain ⟨x1, x2, x3, x4, x5⟩ := h
  obtain ⟨f, rfl⟩ : ∃ f, c = f + 4503599627370496 := ⟨c - 4503599627370496, by omega⟩
  obtain ⟨k, hk⟩ : ∃ k : Nat, q + 1075 = (k : Int) := ⟨(q + 1075).toNat, by omega⟩
  have hx : x = UInt64.ofNat (k * 4503599627370496 + f) := by
    have := Jvm.FP.Core.of64_val64 (a := x) (by rw [x1]; intro e; cases e)
    rw [x1] at this
    rw [← this]
    unfold Jvm.FP.Core.of64 Jvm.FP.Core.encode
    dsimp only
    rw [b64t, b64q, if_neg (by omega)]
    unfold Jvm.FP.Core.assemble
    rw [b64t, show (q - -1074).toNat + 1 = k by omega, show f + 4503599627370496 - 4503599627370496 = f by omega]
    simp
  have e1 : (Int32.ofInt (q + 52)).toInt64 + (1023 : Int64) = Int64.ofInt (k : Int) := by
    apply Int64.toInt_inj.mp
    rw [Int64.toInt_add, Int32.toInt_toInt64, Int32.toInt_ofInt_of_le (by omega) (by omega), Int64.toInt_ofInt_of_le (by omega) (by omega)]
    rw [show (1023 : Int64).toInt = 1023 from rfl, show q + 52 + 1023 = (k : Int) by omega]
    exact Int.bmod_eq_of_le (by omega) (by omega)
  rw [e1, show ((52 : Int32).toInt64 &&& 63) = 52 by decide, show (((f + 4503599627370496 : Nat) : Int) - 4503599627370496) = (f : Int) by omega, hx]
  apply Int64.toBitVec_inj.mp
  apply BitVec.eq_of_toNat_eq
  rw [Int64.toBitVec_or, Int64.toBitVec_shiftLeft]
  have t1 : (Int64.ofInt (k : Int)).toBitVec = BitVec.ofNat 64 k := by
    show BitVec.ofInt 64 (k : Int) = _
    exact BitVec.ofInt_natCast _ _
  have t2 : (Int64.ofInt (f : Int)).toBitVec = BitVec.ofNat 64 f := by
    show BitVec.ofInt 64 (f : Int) = _
    exact BitVec.ofInt_natCast _ _
  rw [t1, t2]
  show (BitVec.ofNat 64 k <<< (52 : Nat) ||| BitVec.ofNat 64 f).toNat = (UInt64.ofNat (k * 4503599627370496 + f)).toNat
  rw [BitVec.toNat_or, BitVec.toNat_shiftLeft, BitVec.toNat_ofNat, BitVec.toNat_ofNat, UInt64.toNat_ofNat', Nat.mod_eq_of_lt (a := k) (by omega), Nat.mod_eq_of_lt (a := f) (by omega), Nat.shiftLeft_eq, Nat.mod_eq_of_lt (a := k * 2 ^ 52) (by omega), Nat.mod_eq_of_lt (by omega), ← Nat.shiftLeft_eq, ← Nat.shiftLeft_add_eq_or_of_lt (show f < 2 ^ 52 by omega), Nat.shiftLeft_eq]
/-- the second loop and what follows it -/
theorem s_bits2 : ∀ (d m j : Nat) (q : Int) (x : UInt64) (c : Nat), q ≤ -52 → -52 - q = (d : Int) → d < m → j + d ≤ 900 → Nm x c q → ∀ p : Int, f_X6_bitsOfDouble_L50 N m x (Int32.ofInt p) (nI j) M = some (((((Int32.ofInt (p + q + 52)).toInt64 + (1023 : Int64)) <<< ((52 : Int32).toInt64 &&& 63)) ||| Int64.ofInt ((c : Int) - 4503599627370496)), M) := by
  intro d
  induction d with
  | zero =>
    intro m j q x c h1 h2 hm hj hx p
    obtain ⟨m, rfl⟩ : ∃ i, m = i + 1 := ⟨m - 1, by omega⟩
    have hq : q = -52 := by omega
    subst hq
    obtain ⟨f1, f2, f3⟩ := nm_frac hx
    rw [f_X6_bitsOfDouble_L50, show (1000 : Int32) = nI 1000 from rfl, if_neg (nI_ge (by omega) (by omega)), if_pos ((nm_cmp hx nm_one .g).1 (by omega)), f_X6_bitsOfDouble_K79, f1, sb, f2, sb, f3, show p + -52 + 52 = p by omega]
  | succ d ih =>
    intro m j q x c h1 h2 hm hj hx p
    obtain ⟨m, rfl⟩ : ∃ i, m = i + 1 := ⟨m - 1, by omega⟩
    have hx2 := nm_twice hx (by omega)
    rw [f_X6_bitsOfDouble_L50, show (1000 : Int32) = nI 1000 from rfl, if_neg (nI_ge (by omega) (by omega)), if_neg (Int32.not_le.mpr ((nm_cmp hx nm_one .g).2 (by omega))), hx2.nz, sb, show Int32.ofInt p + (-1) = Int32.ofInt (p + -1) by rw [Int32.ofInt_add, show Int32.ofInt (-1) = -1 by decide], nI_1, ih m (j + 1) (q + 1) _ c (by omega) (by omega) (by omega) (by omega) hx2 (p + -1), show p + -1 + (q + 1) + 52 = p + q + 52 by omega]
/-- the first loop and what follows it -/
theorem s_bits1 (hN : 1000 < N) : ∀ (d m j : Nat) (q : Int) (x : UInt64) (c : Nat), -800 ≤ q → q ≤ 800 → q + 52 ≤ (d : Int) → d < m → j + d ≤ 900 → Nm x c q → ∀ p : Int, 0 ≤ p → p + q ≤ 800 → p ≤ 900 → f_X6_bitsOfDouble_L16 N m x (Int32.ofInt p) (nI j) M = some (((((Int32.ofInt (p + q + 52)).toInt64 + (1023 : Int64)) <<< ((52 : Int32).toInt64 &&& 63)) ||| Int64.ofInt ((c : Int) - 4503599627370496)), M) := by
  have fin : ∀ (m j : Nat) (q : Int) (x : UInt64) (c : Nat) (p : Int), j ≤ 900 → -800 ≤ q → q ≤ -52 → Nm x c q → -900 ≤ p → p ≤ 900 → f_X6_bitsOfDouble_L16 N (m + 1) x (Int32.ofInt p) (nI j) M = some (((((Int32.ofInt (p + q + 52)).toInt64 + (1023 : Int64)) <<< ((52 : Int32).toInt64 &&& 63)) ||| Int64.ofInt ((c : Int) - 4503599627370496)), M) := by
    intro m j q x c p hj h1 h2 hx p1 p2
    have two : Nm 4611686018427387904 4503599627370496 (-51) := ⟨v_two, by decide, by decide, by decide, by decide⟩
    rw [f_X6_bitsOfDouble_L16, show (1000 : Int32) = nI 1000 from rfl, if_neg (nI_ge (by omega) (by omega)), if_pos ((nm_cmp hx two .l).2 (by omega)), f_X6_bitsOfDouble_K47, show (0 : Int32) = nI 0 from rfl]
    exact s_bits2 (-52 - q).toNat N 0 q x c h2 (by omega) (by omega) (by omega) hx p
  intro d
  induction d with
  | zero =>
    intro m j q x c q1 q2 h2 hm hj hx p p1 p2 p3
    obtain ⟨m, rfl⟩ : ∃ i, m = i + 1 := ⟨m - 1, by omega⟩
    exact fin m j q x c p (by omega) q1 (by omega) hx (by omega) p3
  | succ d ih =>
    intro m j q x c q1 q2 h2 hm hj hx p p1 p2 p3
    obtain ⟨m, rfl⟩ : ∃ i, m = i + 1 := ⟨m - 1, by omega⟩
    by_cases hq : q ≤ -52
    · exact fin m j q x c p (by omega) q1 (by omega) hx (by omega) p3
    · have two : Nm 4611686018427387904 4503599627370496 (-51) := ⟨v_two, by decide, by decide, by decide, by decide⟩
      have hx2 := nm_half hx (by omega)
      rw [f_X6_bitsOfDouble_L16, show (1000 : Int32) = nI 1000 from rfl, if_neg (nI_ge (by omega) (by omega)), if_neg (Int32.not_lt.mpr ((nm_cmp hx two .l).1 (by omega))), hx2.nz, sb, show Int32.ofInt p + 1 = Int32.ofInt (p + 1) by rw [Int32.ofInt_add, show Int32.ofInt 1 = 1 by decide], nI_1, ih m (j + 1) (q - 1) _ c (by omega) (by omega) (by omega) (by omega) (by omega) hx2 (p + 1) (by omega) (by omega) (by omega), show p + 1 + (q - 1) + 52 = p + q + 52 by omega]
/-- the class's bits of a positive normal double -/
theorem s_bits {x : UInt64} {c : Nat} {q : Int} (hN : 1000 < N) (h : Nm x c q) (h1 : -700 ≤ q) (h2 : q ≤ 700) : f_X6_bitsOfDouble N x M = some (x.toInt64, M) := by
  unfold f_X6_bitsOfDouble
  have e : Jvm.FP.dcmp x Jvm.FP.dconst0 = some .gt := by
    show Jvm.FP.Core.order (Jvm.FP.Core.val64 x) (Jvm.FP.Core.val64 Jvm.FP.dconst0) = _
    rw [h.1, v_zero]
    show some (compare ((c * 2 ^ (q - min q (-1074)).toNat : Nat) : Int) ((0 * 2 ^ (-1074 - min q (-1074)).toNat : Nat) : Int)) = _
    rw [Nat.zero_mul, Int.compare_eq_gt.mpr]
    have := Nat.mul_pos (show 0 < c by have := h.2.1; omega) (Nat.two_pow_pos (q - min q (-1074)).toNat)
    omega
  rw [e, if_pos (by decide), show (0 : Int32) = Int32.ofInt 0 from rfl, show Int32.ofInt 0 = nI 0 from rfl]
  have := s_bits1 (M := M) hN (q + 52).toNat N 0 q x c (by omega) (by omega) (by omega) (by omega) (by omega) h 0 (by omega) (by omega) (by omega)
  rw [show Int32.ofInt 0 = nI 0 from rfl] at this
  rw [this, show (0 : Int) + q + 52 = q + 52 by omega, bits_nm h]
/-- the reference's -/
theorem s_bitsM {x : UInt64} {c : Nat} {q : Int} (h : Nm x c q) : f_Jxe99ae_doubleToLongBits_ccdee N x M = some (x.toInt64, M) := by
  unfold f_Jxe99ae_doubleToLongBits_ccdee f_Jxe99ae_isNaN_b9ae7
  have e : Jvm.FP.dcmp x x = some .eq := by
    show Jvm.FP.Core.order (Jvm.FP.Core.val64 x) (Jvm.FP.Core.val64 x) = _
    rw [h.1]
    show some (compare _ _) = _
    rw [Int.compare_eq_eq.mpr rfl]
  rw [e, if_pos (by decide), b2s, if_pos rfl]
end Bi
