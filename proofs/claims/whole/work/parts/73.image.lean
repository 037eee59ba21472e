/-! what a sign makes of a set of places: a set is a number, its bits the places -/
def mkF (X : Nat) (o : Nat → Option Nat) : Nat → Nat → Nat → Option Nat
  | 0, _, Y => some Y
  | d + 1, k, Y => if X.testBit k = true then (match o k with
      | none => none
      | some j => mkF X o d (k + 1) (Y ||| 2 ^ j)) else mkF X o d (k + 1) Y
def Im (b : Nat → Int64) (Y : Nat) : Prop := ∀ p, p < 9 → b p = lN (wd Y p)
theorem Im.or {b : Nat → Int64} {Y j : Nat} (h : Im b Y) : Im (vp_updL b (j / 64) (lN (wd Y (j / 64) ||| 2 ^ (j % 64)))) (Y ||| 2 ^ j) := by
  intro p hp
  by_cases e : p = j / 64
  · subst e
    rw [vpL_eq, wd_or, if_pos rfl]
  · rw [vpL_ne _ _ _ e, wd_or, if_neg e, h p hp]
theorem lN_64 {a b : Nat} (ha : a < 2 ^ 64) (hb : b < 2 ^ 64) (h : lN a = lN b) : a = b := by
  have h2 : (lN a).toBitVec.toNat = (lN b).toBitVec.toNat := by rw [h]
  rw [wb_tn ha, wb_tn hb] at h2
  exact h2
theorem pw_64 {c : Nat} (h : c < 64) : 2 ^ c < 2 ^ 64 := Nat.pow_lt_pow_right (by decide) h
/-- the bit that goes in -/
theorem s_bit {w c : Nat} (hw : w < 2 ^ 64) (hc : c < 64) : lN w ||| ((1 : Int64) <<< ((nI c).toInt64 &&& 63)) = lN (w ||| 2 ^ c) := by
  rw [show (1 : Int64) = lN 1 from rfl, wb_shl 1 hc, Nat.one_mul, wb_or hw (pw_64 hc)]
theorem s_s64 : ∀ c, c < 64 → (((nI c).toInt64 &&& 63).toBitVec.smod 64).toNat = c := by decide +kernel
/-- a bit that is asked for -/
theorem s_test {w c : Nat} (hw : w < 2 ^ 64) (hc : c < 64) : lg_cmp ((lN w >>> ((nI c).toInt64 &&& 63)) &&& (1 : Int64)) (1 : Int64) = 0 ↔ w.testBit c = true := by
  rw [lgE]
  have e : ((lN w >>> ((nI c).toInt64 &&& 63)) &&& (1 : Int64)).toBitVec = (if w.testBit c = true then 1#64 else 0#64) := by
    rw [Int64.toBitVec_and, Int64.toBitVec_shiftRight]
    show (BitVec.ofNat 64 w).sshiftRight (((nI c).toInt64 &&& 63).toBitVec.smod 64).toNat &&& 1#64 = _
    rw [s_s64 c hc]
    apply BitVec.eq_of_getLsbD_eq
    intro i hi
    rw [BitVec.getLsbD_and, BitVec.getLsbD_one]
    by_cases h0 : i = 0
    · subst h0
      rw [BitVec.getLsbD_sshiftRight, Nat.add_zero, BitVec.getLsbD_ofNat]
      cases h : w.testBit c <;> simp [hc]
    · cases h : w.testBit c <;> simp [h0]
  constructor
  · intro h
    rw [h] at e
    cases q : w.testBit c with
    | true => rfl
    | false => rw [q] at e; exact absurd e (by decide)
  · intro h
    rw [h, if_pos rfl] at e
    exact Int64.toBitVec_inj.mp (by rw [e]; rfl)
section Mk
variable {A : Nat → Nat → Int32} {G : Nat → Nat → Int32} {fl : Nat → Bool} {N P n v X : Nat} {o : Nat → Option Nat}
theorem s_zeroM : ∀ (d k m : Nat) (B : Nat → Nat → Int64) (y z : Int32), k + d = 9 → d < m → ∃ B', f_X7_makes_L2 N m 44 y z (nI k) (mem A B G fl) = f_X7_makes_K21 N 44 y z (mem A B' G fl) ∧ (∀ i, i ≠ 77 → B' i = B i) ∧ (∀ p, k ≤ p → p < 9 → B' 77 p = 0) ∧ (∀ p, p < k → B' 77 p = B 77 p) := by
  intro d
  induction d with
  | zero =>
    intro k m B y z h hm
    obtain ⟨m, rfl⟩ : ∃ j, m = j + 1 := ⟨m - 1, by omega⟩
    exact ⟨B, by rw [f_X7_makes_L2, if_pos (show (9 : Int32) ≤ nI k from nI_le (a := 9) (by omega) (by omega))], fun _ _ => rfl, fun p h1 h2 => absurd h1 (by omega), fun _ _ => rfl⟩
  | succ d ih =>
    intro k m B y z h hm
    obtain ⟨m, rfl⟩ : ∃ j, m = j + 1 := ⟨m - 1, by omega⟩
    obtain ⟨B', e1, e2, e3, e4⟩ := ih (k + 1) m (upA B 77 (vp_updL (B 77) k 0)) y z (by omega) (by omega)
    refine ⟨B', ?_, fun i hi => by rw [e2 i hi, upA_ne _ _ _ hi], fun p h1 h2 => ?_, fun p hp => by rw [e4 p (by omega), upA_same, vpL_ne _ _ _ (by omega)]⟩
    · rw [f_X7_makes_L2, if_neg (show ¬ (9 : Int32) ≤ nI k from nI_ge (b := 9) (by omega) (by omega)), gx_44_51, sb, stJ_n (ly77 fl) (by omega) (by decide), sb, nI_1, e1]
    · by_cases e : p = k
      · subst e; rw [e4 p (by omega), upA_same, vpL_eq]
      · exact e3 p (by omega) h2
theorem s_makesM (hp : P ≤ 553) (hP : G 44 40 = nI P) (hn : n < 2000) (hv : v < 4) (ho : ∀ k, k < P → A 70 (4 * k + v) = pI (o k) ∧ ∀ j, o k = some j → j < 553) : ∀ (d k m : Nat) (B : Nat → Nat → Int64) (Y : Nat), k + d = P → d < m → Im (B 77) Y → (∀ p, p < 9 → B 74 (9 * n + p) = lN (wd X p)) →
    ∃ B', f_X7_makes_L23 N m 44 (nI n) (nI v) (nI k) (mem A B G fl) = some (bz (mkF X o d k Y ≠ none), mem A B' G fl) ∧ (∀ i, i ≠ 77 → B' i = B i) ∧ ∀ Z, mkF X o d k Y = some Z → Im (B' 77) Z := by
  intro d
  induction d with
  | zero =>
    intro k m B Y h hm hI hS
    obtain ⟨m, rfl⟩ : ∃ j, m = j + 1 := ⟨m - 1, by omega⟩
    refine ⟨B, ?_, fun _ _ => rfl, fun Z hZ => by obtain rfl := Option.some.inj hZ; exact hI⟩
    rw [f_X7_makes_L23, gx_44_40, sb, hP, if_pos (nI_le (by omega) (by omega))]
    rfl
  | succ d ih =>
    intro k m B Y h hm hI hS
    obtain ⟨m, rfl⟩ : ∃ j, m = j + 1 := ⟨m - 1, by omega⟩
    have hst : f_X7_makes_L23 N (m + 1) 44 (nI n) (nI v) (nI k) (mem A B G fl) = if (X.testBit k = true) then (if 0 ≤ pI (o k) then ((stJ (mem A B G fl) 77 (pI (o k) / (64 : Int32)) ((B 77 ((o k).getD 0 / 64)) ||| ((1 : Int64) <<< ((pI (o k) - pI (o k) / (64 : Int32) * (64 : Int32)).toInt64 &&& 63)))).bind fun M103 => f_X7_makes_K104 N (f_X7_makes_L23 N m) 44 (nI n) (nI v) (nI k) M103) else some (0, mem A B G fl)) else f_X7_makes_L23 N m 44 (nI n) (nI v) (nI (k + 1)) (mem A B G fl) := by
      rw [f_X7_makes_L23, gx_44_40, sb, hP, if_neg (nI_ge (by omega) (by omega)), gx_44_47, sb, show (9 : Int32) = nI 9 from rfl, show (64 : Int32) = nI 64 from rfl, pk_mul, pk_div (by omega) (by decide) (by decide), nI_add, ldJ_n (ly74 fl) (by omega) (by decide), sb, hS _ (by omega), show nI k - nI (k / 64) * nI 64 = nI (k % 64) by rw [← pk_div (by omega) (by decide) (by decide)]; exact pk_rem (by omega) (by decide) (by decide)]
      have hb : X.testBit k = (wd X (k / 64)).testBit (k % 64) := by rw [wd_bit, decide_eq_true (Nat.mod_lt _ (by decide)), Bool.true_and, Nat.div_add_mod]
      rw [hb]
      by_cases hx : (wd X (k / 64)).testBit (k % 64) = true
      · rw [if_pos ((s_test (wd_lt X _) (Nat.mod_lt _ (by decide))).mpr hx), if_pos hx, gx_44_41, sb, show ((4 : Int32) * nI k + nI v) = nI (4 * k + v) by rw [show (4 : Int32) = nI 4 from rfl, pk_mul, nI_add], ldI_n (ly70 fl) (by omega) (by decide), sb, (ho k (by omega)).1]
        cases hok : o k with
        | none => rw [if_neg (by decide), if_neg (by decide)]
        | some j =>
          have hj := (ho k (by omega)).2 j hok
          have h0 : (0 : Int32) ≤ pI (some j) := nI_le (a := 0) (Nat.zero_le _) (by omega)
          rw [if_pos h0, if_pos h0, gx_44_51, sb, sb]
          show ((ldJ (mem A B G fl) 77 (nI j / nI 64)).bind _) = _
          rw [pk_div (by omega) (by decide) (by decide), ldJ_n (ly77 fl) (by omega) (by decide), sb]
          rfl
      · rw [if_neg (fun e => hx ((s_test (wd_lt X _) (Nat.mod_lt _ (by decide))).mp e)), if_neg hx, f_X7_makes_K104, nI_1]
    rw [hst]
    show ∃ B', _ = some (bz ((if X.testBit k = true then (match o k with
      | none => none
      | some j => mkF X o d (k + 1) (Y ||| 2 ^ j)) else mkF X o d (k + 1) Y) ≠ none), _) ∧ _ ∧ ∀ Z, (if X.testBit k = true then (match o k with
      | none => none
      | some j => mkF X o d (k + 1) (Y ||| 2 ^ j)) else mkF X o d (k + 1) Y) = some Z → _
    by_cases hx : X.testBit k = true
    · simp only [if_pos hx]
      cases hok : o k with
      | none =>
        refine ⟨B, ?_, fun _ _ => rfl, fun Z hZ => (by cases hZ)⟩
        rw [if_neg (by decide)]
        rfl
      | some j =>
        have hj := (ho k (by omega)).2 j hok
        have h0 : (0 : Int32) ≤ pI (some j) := nI_le (a := 0) (Nat.zero_le _) (by omega)
        have hI2 : Im (upA B 77 (vp_updL (B 77) (j / 64) (lN (wd Y (j / 64) ||| 2 ^ (j % 64)))) 77) (Y ||| 2 ^ j) := by rw [upA_same]; exact hI.or
        obtain ⟨B', e1, e2, e3⟩ := ih (k + 1) m (upA B 77 (vp_updL (B 77) (j / 64) (lN (wd Y (j / 64) ||| 2 ^ (j % 64))))) (Y ||| 2 ^ j) (by omega) (by omega) hI2 (fun p hp => by rw [upA_ne _ _ _ (by omega)]; exact hS p hp)
        refine ⟨B', ?_, fun i hi => by rw [e2 i hi, upA_ne _ _ _ hi], e3⟩
        rw [if_pos h0]
        show ((stJ (mem A B G fl) 77 (nI j / nI 64) (B 77 (j / 64) ||| ((1 : Int64) <<< ((nI j - nI j / nI 64 * nI 64).toInt64 &&& 63)))).bind _) = _
        rw [pk_rem (by omega) (by decide) (by decide), pk_div (by omega) (by decide) (by decide), hI _ (by omega), s_bit (wd_lt _ _) (Nat.mod_lt _ (by decide)), stJ_n (ly77 fl) (by omega) (by decide), sb, f_X7_makes_K104, nI_1, e1]
    · simp only [if_neg hx]
      exact ih (k + 1) m B Y (by omega) (by omega) hI hS
theorem mkF_add {X : Nat} {o : Nat → Option Nat} (b : Nat) : ∀ (a k Y : Nat), mkF X o (a + b) k Y = (mkF X o a k Y).bind (mkF X o b (k + a)) := by
  intro a
  induction a with
  | zero => intro k Y; rw [Nat.zero_add]; rfl
  | succ a ih =>
    intro k Y
    rw [show a + 1 + b = (a + b) + 1 by omega, mkF, mkF]
    by_cases h : X.testBit k = true
    · rw [if_pos h, if_pos h]
      cases o k with
      | none => rfl
      | some j =>
        dsimp only
        rw [ih, show k + 1 + a = k + (a + 1) by omega]
    · rw [if_neg h, if_neg h, ih, show k + 1 + a = k + (a + 1) by omega]
theorem mkF_no {X : Nat} {o : Nat → Option Nat} : ∀ (d k Y : Nat), (∀ j, k ≤ j → j < k + d → X.testBit j = false) → mkF X o d k Y = some Y := by
  intro d
  induction d with
  | zero => intro k Y _; rfl
  | succ d ih =>
    intro k Y h
    rw [mkF, if_neg (by rw [h k (Nat.le_refl _) (by omega)]; decide), ih (k + 1) Y (fun j h1 h2 => h j (by omega) (by omega))]
theorem mkF_P {X P : Nat} {o : Nat → Option Nat} (hX : ∀ k, X.testBit k = true → k < P) {c Y : Nat} (hc : P ≤ c) : mkF X o c 0 Y = mkF X o P 0 Y := by
  obtain ⟨e, rfl⟩ : ∃ e, c = P + e := ⟨c - P, by omega⟩
  rw [mkF_add, Nat.zero_add]
  cases mkF X o P 0 Y with
  | none => rfl
  | some Z =>
    show mkF X o e P Z = _
    exact mkF_no e P Z (fun j h1 h2 => by
      cases h : X.testBit j with
      | false => rfl
      | true => have := hX j h; omega)
/-- what the class's table of leads says of it -/
def cl : Option Nat → Int32
  | none => 0
  | some 0 => -1
  | some (j + 1) => nI (j + 1)
theorem cl_mx {j : Nat} (hj : j < 553) : mxI (cl (some j)) 0 = nI j ∧ cl (some j) ≠ 0 := by
  cases j with
  | zero => exact ⟨by decide, by decide⟩
  | succ j =>
    refine ⟨?_, fun e => ?_⟩
    · show mxI (nI (j + 1)) (nI 0) = _
      rw [mxI_n (by omega) (by omega)]
      congr 1
    · have : nI (j + 1) = nI 0 := e
      have := (nI_eq (by omega) (by omega)).mp this
      omega
theorem s_mkX34 (f1 : fl 3 = true) (hp : P ≤ 553) (hv : v < 4) (hX : ∀ k, X.testBit k = true → k < P) (ho : ∀ k, k < P → A 99 (k * 4 + v) = cl (o k) ∧ ∀ j, o k = some j → j < 553) (k10 : Nat → Int32 → Int32 → Int32 → A_M → Option (Int32 × A_M)) {pp : Nat} (hpp : pp < 9) : ∀ (d c m u : Nat) (B : Nat → Nat → Int64) (Y : Nat), c + d = 64 → d < m → u ≤ c → Im (B 104) Y →
    ∃ B', f_X5_makeImage_L34 N k10 m 98 (nI n) (nI v) (nI pp) (lN (hiW (wd X pp) c)) (nI u) (mem A B G fl) = (match mkF X o d (64 * pp + c) Y with
      | none => some (0, mem A B' G fl)
      | some _ => k10 98 (nI n) (nI v) (nI (pp + 1)) (mem A B' G fl)) ∧ (∀ i, i ≠ 104 → B' i = B i) ∧ ∀ Z, mkF X o d (64 * pp + c) Y = some Z → Im (B' 104) Z := by
  intro d
  induction d with
  | zero =>
    intro c m u B Y h hm hu hI
    obtain ⟨m, rfl⟩ : ∃ j, m = j + 1 := ⟨m - 1, by omega⟩
    have hc : c = 64 := by omega
    subst hc
    refine ⟨B, ?_, fun _ _ => rfl, fun Z hZ => by obtain rfl := Option.some.inj hZ; exact hI⟩
    rw [f_X5_makeImage_L34, hi_end (wd_lt _ _)]
    show _ = k10 98 (nI n) (nI v) (nI (pp + 1)) (mem A B G fl)
    split
    · rw [f_X5_makeImage_K123, nI_1]
    · rw [if_pos (show lg_cmp (lN 0) 0 = 0 from (lgE _ _).mpr rfl), f_X5_makeImage_K123, nI_1]
  | succ d ih =>
    intro c m u B Y h hm hu hI
    have hb : X.testBit (64 * pp + c) = (wd X pp).testBit c := by rw [wd_bit, decide_eq_true (by omega), Bool.true_and]
    rw [mkF, hb]
    by_cases hx : (wd X pp).testBit c = true
    · simp only [if_pos hx]
      obtain ⟨m, rfl⟩ : ∃ j, m = j + 1 := ⟨m - 1, by omega⟩
      obtain ⟨q, q1, q2⟩ := hi_take hx
      have hlt : 2 ^ (c + 1) * q + 2 ^ c < 2 ^ 64 := by rw [← q1]; exact Nat.lt_of_le_of_lt (hi_le _ _) (wd_lt _ _)
      have hpos := Nat.two_pow_pos c
      have hk : 64 * pp + c < P := hX _ (by rw [hb]; exact hx)
      obtain ⟨o1, o2⟩ := ho _ hk
      have hst : f_X5_makeImage_L34 N k10 (m + 1) 98 (nI n) (nI v) (nI pp) (lN (hiW (wd X pp) c)) (nI u) (mem A B G fl) = (if cl (o (64 * pp + c)) = 0 then some ((0 : Int32), mem A B G fl) else ((ldJ (mem A B G fl) 104 ((mxI (cl (o (64 * pp + c))) (0 : Int32)) >>> ((6 : Int32) &&& 31))).bind fun v107 => (stJ (mem A B G fl) 104 ((mxI (cl (o (64 * pp + c))) (0 : Int32)) >>> ((6 : Int32) &&& 31)) (v107 ||| ((1 : Int64) <<< (((mxI (cl (o (64 * pp + c))) (0 : Int32)) &&& (63 : Int32)).toInt64 &&& 63)))).bind fun M116 => f_X5_makeImage_L34 N k10 m 98 (nI n) (nI v) (nI pp) (lN (hiW (wd X pp) (c + 1))) (nI (u + 1)) M116)) := by
        rw [f_X5_makeImage_L34, if_neg (show ¬ (64 : Int32) ≤ nI u from nI_ge (b := 64) (by omega) (by omega)), q1, if_neg (fun e => by
          have := (lgE _ _).mp e
          have := lN_64 hlt (show 0 < 2 ^ 64 by decide) this
          omega), nt64 (by omega) hlt, b2s, gx_98_0 f1, sb, pk_shlN ((6 : Int32) &&& 31) 6 (by decide) (by omega), nI_add, show (4 : Int32) = nI 4 from rfl, pk_mul, nI_add, show (pp * 2 ^ 6 + c) * 4 + v = (64 * pp + c) * 4 + v by omega, ldI_n (ly99 f1) (by omega) (by decide), sb, o1, s_clr hlt, ← q2, nI_1]
        by_cases e : cl (o (64 * pp + c)) = 0
        · rw [if_pos e, if_pos e]
        · rw [if_neg e, if_neg e, gx_98_5 f1, sb]
      rw [hst]
      cases hok : o (64 * pp + c) with
      | none =>
        refine ⟨B, ?_, fun _ _ => rfl, fun Z hZ => (by cases hZ)⟩
        rw [if_pos (show cl none = 0 from rfl)]
      | some j =>
        have hj := o2 j hok
        obtain ⟨c1, c2⟩ := cl_mx hj
        have hI2 : Im (upA B 104 (vp_updL (B 104) (j / 64) (lN (wd Y (j / 64) ||| 2 ^ (j % 64)))) 104) (Y ||| 2 ^ j) := by rw [upA_same]; exact hI.or
        obtain ⟨B', e1, e2, e3⟩ := ih (c + 1) m (u + 1) (upA B 104 (vp_updL (B 104) (j / 64) (lN (wd Y (j / 64) ||| 2 ^ (j % 64))))) (Y ||| 2 ^ j) (by omega) (by omega) (by omega) hI2
        refine ⟨B', ?_, fun i hi => by rw [e2 i hi, upA_ne _ _ _ hi], e3⟩
        rw [if_neg c2, c1, pk_shrN (by omega) ((6 : Int32) &&& 31) 6 (by decide), show j / 2 ^ 6 = j / 64 from rfl, ldJ_n (ly104 f1) (by omega) (by decide), sb, hI _ (by omega), pk_andN (by omega) 6 (by decide), show j % 2 ^ 6 = j % 64 from rfl, s_bit (wd_lt _ _) (Nat.mod_lt _ (by decide)), stJ_n (ly104 f1) (by omega) (by decide), sb, e1]
        rfl
    · simp only [if_neg hx]
      rw [hi_skip (by cases q : (wd X pp).testBit c with | false => rfl | true => exact absurd q hx)]
      exact ih (c + 1) m u B Y (by omega) (by omega) (by omega) hI
theorem s_mkX10 (f1 : fl 3 = true) (hp : P ≤ 553) (hN : 100 < N) (hv : v < 4) (hn : n < 2000) {C : Nat} (hC : C ≤ 9) (hG : G 98 7 = nI C) (hX : ∀ k, X.testBit k = true → k < P) (ho : ∀ k, k < P → A 99 (k * 4 + v) = cl (o k) ∧ ∀ j, o k = some j → j < 553) : ∀ (d pp m : Nat) (B : Nat → Nat → Int64) (Y : Nat), pp + d = C → d < m → Im (B 104) Y → (∀ p, p < C → B 100 (n * 9 + p) = lN (wd X p)) →
    ∃ B', f_X5_makeImage_L10 N m 98 (nI n) (nI v) (nI pp) (mem A B G fl) = some (bz (mkF X o (64 * d) (64 * pp) Y ≠ none), mem A B' G fl) ∧ (∀ i, i ≠ 104 → B' i = B i) ∧ ∀ Z, mkF X o (64 * d) (64 * pp) Y = some Z → Im (B' 104) Z := by
  intro d
  induction d with
  | zero =>
    intro pp m B Y h hm hI hS
    obtain ⟨m, rfl⟩ : ∃ j, m = j + 1 := ⟨m - 1, by omega⟩
    refine ⟨B, ?_, fun _ _ => rfl, fun Z hZ => by obtain rfl := Option.some.inj hZ; exact hI⟩
    rw [f_X5_makeImage_L10, gx_98_7 f1, sb, hG, if_pos (nI_le (by omega) (by omega))]
    rfl
  | succ d ih =>
    intro pp m B Y h hm hI hS
    obtain ⟨m, rfl⟩ : ∃ j, m = j + 1 := ⟨m - 1, by omega⟩
    obtain ⟨B1, e1, e2, e3⟩ := s_mkX34 (n := n) (G := G) (N := N) f1 hp hv hX ho (f_X5_makeImage_L10 N m) (show pp < 9 by omega) 64 0 N 0 B Y (by omega) (by omega) (Nat.le_refl _) hI
    rw [hi_0, Nat.add_zero] at e1
    rw [Nat.add_zero] at e3
    rw [show 64 * (d + 1) = 64 + 64 * d by omega, mkF_add, f_X5_makeImage_L10, gx_98_7 f1, sb, hG, if_neg (nI_ge (by omega) (by omega)), gx_98_1 f1, sb, show (9 : Int32) = nI 9 from rfl, pk_mul, nI_add, ldJ_n (ly100 f1) (by omega) (by decide), sb, hS pp (by omega), show (0 : Int32) = nI 0 from rfl, e1]
    cases hmk : mkF X o 64 (64 * pp) Y with
    | none => exact ⟨B1, rfl, e2, fun Z hZ => (by cases hZ)⟩
    | some Z =>
      obtain ⟨B2, g1, g2, g3⟩ := ih (pp + 1) m B1 Z (by omega) (by omega) (e3 Z hmk) (fun p hp => by rw [e2 100 (by omega)]; exact hS p hp)
      rw [show 64 * (pp + 1) = 64 * pp + 64 by omega] at g1 g3
      exact ⟨B2, g1, fun i hi => (g2 i hi).trans (e2 i hi), g3⟩
theorem s_makeImage (f1 : fl 3 = true) (hp : P ≤ 553) (hN : 100 < N) (hv : v < 4) (hn : n < 2000) {C : Nat} (hC : C ≤ 9) (hPC : P ≤ 64 * C) (hG : G 98 7 = nI C) (hX : ∀ k, X.testBit k = true → k < P) (ho : ∀ k, k < P → A 99 (k * 4 + v) = cl (o k) ∧ ∀ j, o k = some j → j < 553) (B : Nat → Nat → Int64) (hS : ∀ p, p < C → B 100 (n * 9 + p) = lN (wd X p)) :
    ∃ B', f_X5_makeImage N 98 (nI n) (nI v) (mem A B G fl) = some (bz (mkF X o P 0 0 ≠ none), mem A B' G fl) ∧ (∀ i, i ≠ 104 → B' i = B i) ∧ ∀ Z, mkF X o P 0 0 = some Z → Im (B' 104) Z := by
  obtain ⟨B', e1, e2, e3⟩ := s_mkX10 (A := A) (N := N) f1 hp hN hv hn hC hG hX ho C 0 N (upA B 104 (fun j => if 0 ≤ j ∧ j < 9 then 0 else B 104 j)) 0 (by omega) (by omega) (fun p hp => by
    rw [upA_same, if_pos ⟨Nat.zero_le _, hp⟩, wd_zero]
    rfl) (fun p hp => by rw [upA_ne _ _ _ (by omega)]; exact hS p hp)
  rw [show 64 * 0 = 0 from rfl, mkF_P hX hPC] at e1 e3
  refine ⟨B', ?_, fun i hi => by rw [e2 i hi, upA_ne _ _ _ hi], e3⟩
  unfold f_X5_makeImage f_J7_fill_d0a16
  rw [gx_98_5 f1, sb, lenJ_mem (ly104 f1), sb, show (0 : Int32) = nI 0 from rfl]
  show ((f_J7_fill_d0a16_L6 N N 104 0 (nI 0) (nI 9) (mem A B G fl)).bind _) = _
  rw [s_fillJ (ly104 f1) (by decide) 0 9 0 N B (by decide) (by omega), sb]
  exact e1
theorem s_makes (hp : P ≤ 553) (hN : 600 < N) (hP : G 44 40 = nI P) (hn : n < 2000) (hv : v < 4) (ho : ∀ k, k < P → A 70 (4 * k + v) = pI (o k) ∧ ∀ j, o k = some j → j < 553) (B : Nat → Nat → Int64) (hS : ∀ p, p < 9 → B 74 (9 * n + p) = lN (wd X p)) :
    ∃ B', f_X7_makes N 44 (nI n) (nI v) (mem A B G fl) = some (bz (mkF X o P 0 0 ≠ none), mem A B' G fl) ∧ (∀ i, i ≠ 77 → B' i = B i) ∧ ∀ Z, mkF X o P 0 0 = some Z → Im (B' 77) Z := by
  obtain ⟨B1, e1, e2, e3, -⟩ := s_zeroM (A := A) (G := G) (fl := fl) (N := N) 9 0 N B (nI n) (nI v) (by omega) (by omega)
  obtain ⟨B2, g1, g2, g3⟩ := s_makesM (A := A) (G := G) (fl := fl) (N := N) (X := X) hp hP hn hv ho P 0 N B1 0 (by omega) (by omega) (fun p hp => by rw [e3 p (Nat.zero_le _) hp, wd_zero]; rfl) (fun p hp => by rw [e2 74 (by omega)]; exact hS p hp)
  refine ⟨B2, ?_, fun i hi => (g2 i hi).trans (e2 i hi), g3⟩
  unfold f_X7_makes
  rw [show (0 : Int32) = nI 0 from rfl, e1, f_X7_makes_K21, show (0 : Int32) = nI 0 from rfl, g1]
end Mk
