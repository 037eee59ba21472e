/-! ROWS, on: how far alike, beginnings, order, cutting, the row behind -/
theorem lg_lt {a b : Nat} (ha : a < 2 ^ 63) (hb : b < 2 ^ 63) : lg_cmp (lN a) (lN b) < 0 ↔ a < b := by
  unfold lg_cmp
  have h1 : lN a > lN b ↔ b < a := pk_lLT hb ha
  have h2 := pk_lEQ ha hb
  by_cases e1 : lN a > lN b
  · rw [if_pos e1]
    exact ⟨fun h => absurd h (by decide), fun h => absurd (h1.mp e1) (by omega)⟩
  · rw [if_neg e1]
    by_cases e2 : lN a = lN b
    · rw [if_pos e2]
      exact ⟨fun h => absurd h (by decide), fun h => absurd (h2.mp e2) (by omega)⟩
    · rw [if_neg e2]
      refine ⟨fun _ => ?_, fun _ => by decide⟩
      have q1 : ¬ b < a := fun h => e1 (h1.mpr h)
      have q2 : ¬ a = b := fun h => e2 (h2.mpr h)
      omega
theorem lg_eq {a b : Nat} (ha : a < 2 ^ 63) (hb : b < 2 ^ 63) : lg_cmp (lN a) (lN b) = 0 ↔ a = b := by
  unfold lg_cmp
  have h1 : lN a > lN b ↔ b < a := pk_lLT hb ha
  have h2 := pk_lEQ ha hb
  by_cases e1 : lN a > lN b
  · rw [if_pos e1]
    exact ⟨fun h => absurd h (by decide), fun h => absurd (h1.mp e1) (by omega)⟩
  · rw [if_neg e1]
    by_cases e2 : lN a = lN b
    · rw [if_pos e2]
      exact ⟨fun _ => h2.mp e2, fun _ => rfl⟩
    · rw [if_neg e2]
      exact ⟨fun h => absurd h (by decide), fun h => absurd (h2.mpr h) e2⟩
/-- a truth as an int -/
def bz (p : Prop) [Decidable p] : Int32 := if p then 1 else 0
theorem bz_t {p : Prop} [Decidable p] (h : p) : bz p = 1 := if_pos h
theorem bz_f {p : Prop} [Decidable p] (h : ¬ p) : bz p = 0 := if_neg h
theorem bz_01 (p : Prop) [Decidable p] : bz p = 0 ∨ bz p = 1 := by unfold bz; split <;> simp
theorem bz_zb (p : Prop) [Decidable p] : zb (bz p) = some () := if_pos (bz_01 p)
theorem bz_eq0 (p : Prop) [Decidable p] : bz p = 0 ↔ ¬ p := by
  by_cases h : p
  · rw [bz_t h]; exact ⟨fun q => absurd q (by decide), fun q => absurd h q⟩
  · rw [bz_f h]; exact ⟨fun _ => h, fun _ => rfl⟩
theorem bz_congr {p q : Prop} [Decidable p] [Decidable q] (h : p ↔ q) : bz p = bz q := by
  by_cases hp : p
  · rw [bz_t hp, bz_t (h.mp hp)]
  · rw [bz_f hp, bz_f (fun e => hp (h.mpr e))]
theorem r48 {a : Nat} (h : a < 4 ^ 24) : a < 2 ^ 48 := by rw [p42] at h; exact h
theorem s_alike {N a b : Nat} {M : A_M} (ha : a < 4 ^ 24) (hb : b < 4 ^ 24) : f_X6_alikeSigns N (lN a) (lN b) M = some (nI (al (a ^^^ b)), M) := by
  have hx : a ^^^ b < 2 ^ 48 := Nat.xor_lt_two_pow (r48 ha) (r48 hb)
  unfold f_X6_alikeSigns
  rw [fb_xorL, nlz64 hx]
  show some ((nI _ - 16) >>> ((1 : Int32) &&& 31), M) = _
  rw [show (16 : Int32) = nI 16 from rfl]
  unfold al
  by_cases h0 : a ^^^ b = 0
  · rw [if_pos h0, if_pos h0, pk_sub (by decide), pk_shrN (by decide) ((1 : Int32) &&& 31) 1 (by decide)]
  · have hl : (a ^^^ b).log2 < 48 := (Nat.log2_lt h0).mpr hx
    rw [if_neg h0, if_neg h0, pk_sub (by omega), pk_shrN (by omega) ((1 : Int32) &&& 31) 1 (by decide)]
    congr 3
    omega
theorem s_isAhead {N a b n m : Nat} {M : A_M} (ha : a < 4 ^ 24) (hb : b < 4 ^ 24) (hn : n < 2 ^ 31) (hm : m < 2 ^ 31) : f_X7_isAhead N (lN a) (nI n) (lN b) (nI m) M = some (bz (a < b ∨ a = b ∧ n < m), M) := by
  have ha := r48 ha
  have hb := r48 hb
  unfold f_X7_isAhead
  by_cases h1 : a < b
  · rw [if_pos ((lg_lt (by omega) (by omega)).mpr h1), bz_t (Or.inl h1)]
  · rw [if_neg (fun h => h1 ((lg_lt (by omega) (by omega)).mp h))]
    by_cases h2 : a = b
    · rw [if_pos ((lg_eq (by omega) (by omega)).mpr h2)]
      by_cases h3 : n < m
      · rw [if_neg (nI_ge h3 hm), bz_t (Or.inr ⟨h2, h3⟩)]
      · rw [if_pos (nI_le (by omega) hn), bz_f (by omega)]
    · rw [if_neg (fun h => h2 ((lg_eq (by omega) (by omega)).mp h)), bz_f (by omega)]
theorem s_begins {N a b n m : Nat} {M : A_M} (ha : a < 4 ^ 24) (hb : b < 4 ^ 24) (hn : n ≤ 24) (hm : m < 2 ^ 31) : f_X7_begins N (lN a) (nI n) (lN b) (nI m) M = some (bz (n ≤ m ∧ n ≤ al (a ^^^ b)), M) := by
  have hx : a ^^^ b < 2 ^ 48 := Nat.xor_lt_two_pow (r48 ha) (r48 hb)
  unfold f_X7_begins
  by_cases h1 : m < n
  · rw [if_pos (nI_lt h1 (by omega)), bz_f (by omega)]
  · rw [if_neg (nI_nlt (by omega) hm), fb_xorL, sh48 hn, pf_shr (smL (by omega)) (by omega), show (0 : Int64) = lN 0 from rfl]
    have hd : (a ^^^ b) / 2 ^ (2 * (24 - n)) ≤ a ^^^ b := Nat.div_le_self _ _
    have e : (a ^^^ b) / 2 ^ (2 * (24 - n)) = 0 ↔ n ≤ al (a ^^^ b) := by
      rw [al_le (by rw [p42]; exact hx) hn, p42, Nat.div_eq_zero_iff]
      constructor
      · intro h; exact h.resolve_left (Nat.ne_of_gt (Nat.pow_pos (by decide)))
      · intro h; exact Or.inr h
    by_cases h2 : n ≤ al (a ^^^ b)
    · rw [if_pos ((lg_eq (by omega) (by omega)).mpr (e.mpr h2)), bz_t ⟨by omega, h2⟩]
    · rw [if_neg (fun h => h2 (e.mp ((lg_eq (by omega) (by omega)).mp h))), bz_f (by omega)]
/-- the first n signs of a row alone -/
def ct (R n : Nat) : Nat := R / 4 ^ (24 - n) * 4 ^ (24 - n)
theorem ct_le (R n : Nat) : ct R n ≤ R := Nat.div_mul_le_self _ _
theorem ct_rz (R n : Nat) : rz (ct R n) n := by unfold rz ct; exact Nat.mul_mod_left _ _
theorem ct_all {R n : Nat} (h : rz R n) : ct R n = R := Nat.div_mul_cancel (Nat.dvd_of_mod_eq_zero h)
theorem s_cut {N R n : Nat} {M : A_M} (hR : R < 4 ^ 24) (hn : n ≤ 24) : f_X7_cut N (lN R) (nI n) M = some (lN (ct R n), M) := by
  have hR2 := r48 hR
  unfold f_X7_cut
  by_cases h : n = 0
  · subst h
    rw [if_pos (show nI 0 = 0 from rfl)]
    have : ct R 0 = 0 := by unfold ct; rw [Nat.div_eq_of_lt hR, Nat.zero_mul]
    rw [this]
    rfl
  · rw [if_neg (nI_ne0 (by omega) (by omega)), sh48 hn, pf_shr (smL (by omega)) (by omega), wb_shl _ (by omega), ← p42]
    rfl
/-- the first row behind the one of k signs that doesn't begin with it -/
def rb (s R : Nat) : Nat → Option Nat
  | 0 => none
  | k + 1 => if dg R k + 1 < s then some (ct R k + (dg R k + 1) * 4 ^ (23 - k)) else rb s R k
theorem ct_succ {R k : Nat} (hk : k < 24) : ct R (k + 1) = ct R k + dg R k * 4 ^ (23 - k) := by
  unfold ct dg
  have e : 4 ^ (24 - k) = 4 ^ (23 - k) * 4 := by rw [show 24 - k = (23 - k) + 1 by omega, Nat.pow_succ]
  rw [show 24 - (k + 1) = 23 - k by omega, e, ← Nat.div_div_eq_div_mul]
  generalize R / 4 ^ (23 - k) = q
  have h := Nat.div_add_mod q 4
  rw [Nat.mul_comm (4 ^ (23 - k)) 4, ← Nat.mul_assoc, ← Nat.add_mul]
  congr 1
  omega
theorem dg_ct {R k : Nat} (hk : k < 24) : dg (ct R (k + 1)) k = dg R k := by
  rw [ct_succ hk]
  exact dg_add_eq hk (ct_rz R k) (dg_lt R k)
theorem s_rowBehind {N s : Nat} {M : A_M} {R : Nat} (hR : R < 4 ^ 24) (hs : 0 < s) (hs4 : s ≤ 4) : ∀ (k n : Nat), k ≤ 24 → k < n → f_X6_rowBehind_L8 N n (nI s) (lN (ct R k)) (nI k - 1) M = some ((match rb s R k with | some q => lN q | none => -1), M) := by
  intro k
  induction k with
  | zero =>
    intro n _ hn
    obtain ⟨n, rfl⟩ : ∃ j, n = j + 1 := ⟨n - 1, by omega⟩
    rw [f_X6_rowBehind_L8, if_pos (show nI 0 - 1 < 0 by decide)]
    rfl
  | succ k ih =>
    intro n hk hn
    obtain ⟨n, rfl⟩ : ∃ j, n = j + 1 := ⟨n - 1, by omega⟩
    have hc : ct R (k + 1) < 4 ^ 24 := Nat.lt_of_le_of_lt (ct_le _ _) hR
    have hc2 := r48 hc
    rw [f_X6_rowBehind_L8, nI_pred, if_neg (nI_pos (by omega)), s_signOfRow (by omega) (by omega), dg_ct (by omega)]
    show (if nI s - 1 ≤ nI (dg R k) then _ else _) = _
    have hd := dg_lt R k
    rw [show (1 : Int32) = nI 1 from rfl, pk_sub (show 1 ≤ s by omega), sh23 (show k < 24 by omega), show (1 : Int64) = lN 1 from rfl, wb_shl 1 (by omega), ← p42, Nat.one_mul, nI_l (show dg R k < 2 ^ 31 by omega), lN_mul]
    have hcs := ct_succ (R := R) (show k < 24 by omega)
    by_cases h : dg R k + 1 < s
    · rw [if_neg (nI_ge (by omega) (by omega)), lN_add]
      show _ = some ((match (if dg R k + 1 < s then some _ else _) with | some q => lN q | none => -1), M)
      rw [if_pos h]
      show _ = some (lN _, M)
      congr 3
      rw [hcs, Nat.add_mul]
      omega
    · rw [if_pos (nI_le (by omega) (by omega)), lN_sub (by rw [hcs]; omega)]
      have e1 : ct R (k + 1) - dg R k * 4 ^ (23 - k) = ct R k := by rw [hcs]; omega
      have e2 : nI k + -nI 1 = nI k - 1 := by rw [Int32.sub_eq_add_neg]; rfl
      rw [e1, e2]
      show _ = some ((match (if dg R k + 1 < s then some _ else _) with | some q => lN q | none => -1), M)
      rw [if_neg h]
      exact ih n (by omega) (by omega)

/-- the reference's own next row: its signs are below s -/
theorem s_next {N s : Nat} {A : Nat → Nat → Int32} {B : Nat → Nat → Int64} {G : Nat → Nat → Int32} {fl : Nat → Bool} {R : Nat} (hR : R < 4 ^ 24) (hs : 0 < s) (hs4 : s ≤ 4) (hG : G 44 1 = nI s) : ∀ (k n : Nat), k ≤ 24 → k < n → (∀ j, j < k → dg R j < s) → f_X7_next_L5 N n 44 (lN R) (nI k - 1) (mem A B G fl) = some ((match rb s R k with | some q => lN q | none => -1), mem A B G fl) := by
  have hR2 := r48 hR
  intro k
  induction k with
  | zero =>
    intro n _ hn _
    obtain ⟨n, rfl⟩ : ∃ j, n = j + 1 := ⟨n - 1, by omega⟩
    rw [f_X7_next_L5, if_pos (show nI 0 - 1 < 0 by decide)]
    unfold f_X7_next_K31
    rw [if_neg (show ¬ 0 ≤ nI 0 - 1 by decide)]
    rfl
  | succ k ih =>
    intro n hk hn hd
    obtain ⟨n, rfl⟩ : ∃ j, n = j + 1 := ⟨n - 1, by omega⟩
    have hdk := hd k (by omega)
    rw [f_X7_next_L5, nI_pred, if_neg (nI_pos (by omega)), s_signAt (by omega) (by omega)]
    simp only [b2s, gx_44_1, sb, hG]
    rw [show (1 : Int32) = nI 1 from rfl, pk_sub (show 1 ≤ s by omega)]
    show _ = some ((match (if dg R k + 1 < s then some _ else _) with | some q => lN q | none => -1), _)
    by_cases h : dg R k + 1 < s
    · rw [if_neg (fun e => by have := (nI_eq (by omega) (by omega)).mp e; omega), if_pos h]
      unfold f_X7_next_K31
      have hc : ct R k < 4 ^ 24 := Nat.lt_of_le_of_lt (ct_le _ _) hR
      rw [if_pos (show 0 ≤ nI k from nI_pos' (by omega)), s_cut hR (by omega)]
      rw [b2s, s_signAt (by omega) (by omega), b2s]
      rw [nI_1, s_with (by omega) (ct_rz R k) (by omega)]
      rfl
    · rw [if_pos (by congr 1; omega), if_neg h]
      have e2 : nI k + -nI 1 = nI k - 1 := by rw [Int32.sub_eq_add_neg]; rfl
      show f_X7_next_L5 N n 44 (lN R) (nI k + -nI 1) (mem A B G fl) = _
      rw [e2]
      exact ih n (by omega) (by omega) (fun j hj => hd j (by omega))
