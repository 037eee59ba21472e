/-! what breaks a KIND: isFree, holds -/
def fo (P : Nat → Bool) : Nat → Nat → Option Nat
  | 0, _ => none
  | d + 1, i => if P i = true then some i else fo P d (i + 1)
def oI : Option Nat → Int32
  | none => -6
  | some j => nI j
/-- a sign that isn't the end where it should be, or is where it shouldn't -/
def endB (x : Int32) (R n : Nat) : Nat → Nat → Bool
  | 0, _ => false
  | d + 1, k => (decide (nI (dg R k) = x) != decide (k + 1 = n)) || endB x R n d (k + 1)
def brB (R n : Nat → Nat) (kind : Int32) (i j : Nat) : Bool := decide (min (n i) (n j) ≤ al (R i ^^^ R j)) || (decide (kind = 2) && decide (R j < R i))
def aloneB (R n : Nat → Nat) (kind x : Int32) (i : Nat) : Bool := decide (n i = 0) || (decide (kind = 1) && decide (x < nI (n i))) || (decide (kind = 3) && endB x (R i) (n i) (n i) 0)
def withO (R n : Nat → Nat) (kind : Int32) (t i : Nat) : Option Nat := fo (brB R n kind i) (t - (i + 1)) (i + 1)
def badB (R n : Nat → Nat) (kind x : Int32) (t i : Nat) : Bool := aloneB R n kind x i || (withO R n kind t i).isSome
def isK (R n : Nat → Nat) (kind x : Int32) (t : Nat) : Option Nat := fo (badB R n kind x t) t 0
theorem mnI_n {a b : Nat} (ha : a < 2 ^ 31) (hb : b < 2 ^ 31) : mnI (nI a) (nI b) = nI (min a b) := by
  unfold mnI
  by_cases h : b < a
  · rw [if_pos (nI_lt h ha), Nat.min_eq_right (by omega)]
  · rw [if_neg (nI_nlt (by omega) hb), Nat.min_eq_left (by omega)]
theorem mxI_n {a b : Nat} (ha : a < 2 ^ 31) (hb : b < 2 ^ 31) : mxI (nI a) (nI b) = nI (max a b) := by
  unfold mxI
  by_cases h : a < b
  · rw [if_pos (nI_lt h hb), Nat.max_eq_right (by omega)]
  · rw [if_neg (nI_nlt (by omega) ha), Nat.max_eq_left (by omega)]
section Fr
variable {A : Nat → Nat → Int32} {B : Nat → Nat → Int64} {G : Nat → Nat → Int32} {fl : Nat → Bool} {N s t : Nat} {R n : Nat → Nat}
theorem s_clash (ht : t ≤ 24) (hW : Ws s t (B 14) (A 15) R n) {i j : Nat} (hi : i < t) (hj : j < t) : f_X0_clash N 13 (nI i) (nI j) (mem A B G fl) = some (bz (min (n i) (n j) ≤ al (R i ^^^ R j)), mem A B G fl) := by
  obtain ⟨u1, u2, u3, u4, -⟩ := hW i hi
  obtain ⟨v1, v2, v3, v4, -⟩ := hW j hj
  have h24 := al_24 (R i ^^^ R j)
  unfold f_X0_clash
  rw [gx_13_0, sb, ldJ_n (ly14 fl) (by omega) (by decide), sb, sb, ldJ_n (ly14 fl) (by omega) (by decide), sb, u1, v1, s_alike u3 v3, b2s, gx_13_1, sb, ldI_n (ly15 fl) (by omega) (by decide), sb, sb, ldI_n (ly15 fl) (by omega) (by decide), sb, u2, v2, mnI_n (by omega) (by omega)]
  by_cases h : min (n i) (n j) ≤ al (R i ^^^ R j)
  · rw [if_neg (nI_nlt h (by omega)), bz_t h]
  · rw [if_pos (nI_lt (by omega) (by omega)), bz_f h]
theorem s_breakBoth (ht : t ≤ 24) (hW : Ws s t (B 47) (A 48) R n) {i j : Nat} (hi : i < t) (hj : j < t) (kind : Int32) : f_X7_breakBoth N 44 (nI i) (nI j) kind (mem A B G fl) = some (bz (brB R n kind i j = true), mem A B G fl) := by
  obtain ⟨u1, u2, u3, u4, -⟩ := hW i hi
  obtain ⟨v1, v2, v3, v4, -⟩ := hW j hj
  have l1 : ldJ (mem A B G fl) 47 (nI i) = some (lN (R i)) := by rw [ldJ_n (ly47 fl) (by omega) (by decide), u1]
  have l2 : ldJ (mem A B G fl) 47 (nI j) = some (lN (R j)) := by rw [ldJ_n (ly47 fl) (by omega) (by decide), v1]
  have l3 : ldI (mem A B G fl) 48 (nI i) = some (nI (n i)) := by rw [ldI_n (ly48 fl) (by omega) (by decide), u2]
  have l4 : ldI (mem A B G fl) 48 (nI j) = some (nI (n j)) := by rw [ldI_n (ly48 fl) (by omega) (by decide), v2]
  have h24 := al_24 (R i ^^^ R j)
  have hx : R j ^^^ R i = R i ^^^ R j := Nat.xor_comm _ _
  have h65 : ∀ (q : Prop) [Decidable q], (q ↔ min (n i) (n j) ≤ al (R i ^^^ R j)) → f_X7_breakBoth_K65 N 44 (nI i) (nI j) kind (bz q) (mem A B G fl) = some (bz (brB R n kind i j = true), mem A B G fl) := by
    intro q _ hq
    unfold f_X7_breakBoth_K65
    by_cases h : q
    · rw [if_neg (bz1 h), bz_t (by unfold brB; rw [decide_eq_true (hq.mp h)]; rfl)]
    · have h' : ¬ min (n i) (n j) ≤ al (R i ^^^ R j) := fun e => h (hq.mpr e)
      rw [if_pos (bz0 h)]
      by_cases hk : kind = 2
      · rw [if_pos hk]
        simp only [gx_44_7, gx_44_8, sb, l1, l2, l3, l4, s_isAhead u3 v3 (show n i < 2 ^ 31 by omega) (show n j < 2 ^ 31 by omega), b2s]
        have hne : R i ≠ R j := by
          intro e
          apply h'
          rw [e, Nat.xor_self]
          show _ ≤ 24
          omega
        by_cases hlt : R j < R i
        · rw [if_pos (bz0 (by omega)), bz_t (by unfold brB; rw [decide_eq_true hk, decide_eq_true hlt]; simp)]
        · rw [if_neg (bz1 (by omega)), bz_f (by unfold brB; rw [decide_eq_false h', decide_eq_false hlt]; simp)]
      · rw [if_neg hk, bz_f (by unfold brB; rw [decide_eq_false h', decide_eq_false hk]; simp)]
  unfold f_X7_breakBoth f_X7_breakBoth_K60
  simp only [gx_44_7, gx_44_8, sb, l1, l2, l3, l4, s_begins u3 v3 u4 (show n j < 2 ^ 31 by omega), s_begins v3 u3 v4 (show n i < 2 ^ 31 by omega), b2s, hx]
  by_cases h1 : n i ≤ n j ∧ n i ≤ al (R i ^^^ R j)
  · rw [if_neg (bz1 h1)]
    exact h65 True (by constructor <;> (intro; first | trivial | omega))
  · rw [if_pos (bz0 h1)]
    by_cases h2 : n j ≤ n i ∧ n j ≤ al (R i ^^^ R j)
    · rw [if_neg (bz1 h2)]
      exact h65 True (by constructor <;> (intro; first | trivial | omega))
    · rw [if_pos (bz0 h2)]
      exact h65 False (by constructor <;> (intro; first | contradiction | omega))

theorem s_isFree1 (ht : t ≤ 24) (hW : Ws s t (B 14) (A 15) R n) (hG : G 13 2 = nI t) {i : Nat} (hi : i < t) (k2 : Nat → Int32 → A_M → Option (Int32 × A_M)) : ∀ (d j m : Nat), j + d = t → d < m → f_X0_isFree_L25 N k2 m 13 (nI i) (nI j) (mem A B G fl) = if (fo (brB R n 0 i) d j).isSome = true then some (0, mem A B G fl) else k2 13 (nI (i + 1)) (mem A B G fl) := by
  intro d
  induction d with
  | zero =>
    intro j m h1 hm
    obtain ⟨m, rfl⟩ : ∃ j, m = j + 1 := ⟨m - 1, by omega⟩
    rw [f_X0_isFree_L25, gx_13_2, sb, hG, if_pos (nI_le (by omega) (by omega))]
    unfold f_X0_isFree_K50
    rw [nI_1]
    rfl
  | succ d ih =>
    intro j m h1 hm
    obtain ⟨m, rfl⟩ : ∃ j, m = j + 1 := ⟨m - 1, by omega⟩
    have hb : brB R n 0 i j = decide (min (n i) (n j) ≤ al (R i ^^^ R j)) := by unfold brB; rw [decide_eq_false (show ¬ (0 : Int32) = 2 by decide)]; simp
    rw [f_X0_isFree_L25, gx_13_2, sb, hG, if_neg (nI_ge (by omega) (by omega)), ck_13, sb, s_clash ht hW hi (by omega), b2s]
    show _ = if (if brB R n 0 i j = true then some j else fo (brB R n 0 i) d (j + 1)).isSome = true then _ else _
    by_cases h : min (n i) (n j) ≤ al (R i ^^^ R j)
    · rw [if_neg (bz1 h), hb, decide_eq_true h]
      rfl
    · rw [if_pos (bz0 h), hb, decide_eq_false h, nI_1, ih (j + 1) m (by omega) (by omega)]
      rfl
theorem alone0 (i : Nat) : aloneB R n 0 0 i = decide (n i = 0) := by
  unfold aloneB
  rw [decide_eq_false (show ¬ (0 : Int32) = 1 by decide), decide_eq_false (show ¬ (0 : Int32) = 3 by decide)]
  simp
theorem s_isFree (ht : t ≤ 24) (hW : Ws s t (B 14) (A 15) R n) (hG : G 13 2 = nI t) (hN : 24 < N) : ∀ (d i m : Nat), i + d = t → d < m → f_X0_isFree_L2 N m 13 (nI i) (mem A B G fl) = some (bz (fo (badB R n 0 0 t) d i = none), mem A B G fl) := by
  intro d
  induction d with
  | zero =>
    intro i m h1 hm
    obtain ⟨m, rfl⟩ : ∃ j, m = j + 1 := ⟨m - 1, by omega⟩
    rw [f_X0_isFree_L2, gx_13_2, sb, hG, if_pos (nI_le (by omega) (by omega))]
    rfl
  | succ d ih =>
    intro i m h1 hm
    obtain ⟨m, rfl⟩ : ∃ j, m = j + 1 := ⟨m - 1, by omega⟩
    obtain ⟨u1, u2, u3, u4, -⟩ := hW i (by omega)
    have hu : fo (badB R n 0 0 t) (d + 1) i = if badB R n 0 0 t i = true then some i else fo (badB R n 0 0 t) d (i + 1) := rfl
    rw [f_X0_isFree_L2, gx_13_2, sb, hG, if_neg (nI_ge (by omega) (by omega)), gx_13_1, sb, ldI_n (ly15 fl) (by omega) (by decide), sb, u2, hu]
    by_cases h0 : n i = 0
    · have hb : badB R n 0 0 t i = true := by unfold badB; rw [alone0, decide_eq_true h0]; rfl
      rw [if_pos (show nI (n i) = 0 by rw [h0]; rfl), if_pos hb]
      rfl
    · have hb : badB R n 0 0 t i = (fo (brB R n 0 i) d (i + 1)).isSome := by
        unfold badB withO
        rw [alone0, decide_eq_false h0, show t - (i + 1) = d by omega]
        rfl
      rw [if_neg (nI_ne0 (by omega) (by omega)), nI_1, s_isFree1 ht hW hG (by omega) _ d (i + 1) N (by omega) (by omega), hb]
      by_cases h2 : (fo (brB R n 0 i) d (i + 1)).isSome = true
      · rw [if_pos h2, if_pos h2]
        rfl
      · rw [if_neg h2, if_neg h2, ih (i + 1) m (by omega) (by omega)]
theorem s_endX (ht : t ≤ 24) (hW : Ws s t (B 14) (A 15) R n) {i : Nat} (hi : i < t) (x : Int32) : ∀ (d k m : Nat), k + d = n i → d < m → f_X6_breaksAlone_L43 N m 0 (nI i) x (nI (n i)) (nI k) (mem A B G fl) = some (bz (endB x (R i) (n i) d k = true), mem A B G fl) := by
  obtain ⟨u1, u2, u3, u4, -⟩ := hW i hi
  have u3' := r48 u3
  intro d
  induction d with
  | zero =>
    intro k m h1 hm
    obtain ⟨m, rfl⟩ : ∃ j, m = j + 1 := ⟨m - 1, by omega⟩
    rw [f_X6_breaksAlone_L43, if_pos (nI_le (by omega) (by omega))]
    rfl
  | succ d ih =>
    intro k m h1 hm
    obtain ⟨m, rfl⟩ : ∃ j, m = j + 1 := ⟨m - 1, by omega⟩
    have hu : endB x (R i) (n i) (d + 1) k = ((decide (nI (dg (R i) k) = x) != decide (k + 1 = n i)) || endB x (R i) (n i) d (k + 1)) := rfl
    have h89 : ∀ (p q : Bool), f_X6_breaksAlone_K89 N (f_X6_breaksAlone_L43 N m) 0 (nI i) x (nI (n i)) (nI k) (bz (p = true)) (bz (q = true)) (mem A B G fl) = some (bz (((p != q) || endB x (R i) (n i) d (k + 1)) = true), mem A B G fl) := by
      intro p q
      unfold f_X6_breaksAlone_K89
      rw [nI_1, ih (k + 1) m (by omega) (by omega)]
      cases p <;> cases q
      · rw [if_pos rfl]; rfl
      · rw [if_neg (by decide)]; rfl
      · rw [if_neg (by decide)]; rfl
      · rw [if_pos rfl]; rfl
    have h64 : ∀ (q : Bool), f_X6_breaksAlone_K64 N (f_X6_breaksAlone_L43 N m) 0 (nI i) x (nI (n i)) (nI k) (bz (q = true)) (mem A B G fl) = some (bz (((q != decide (nI (dg (R i) k) = x)) || endB x (R i) (n i) d (k + 1)) = true), mem A B G fl) := by
      intro q
      unfold f_X6_breaksAlone_K64
      rw [gx_0_7, sb, gx_13_0, sb, ldJ_n (ly14 fl) (by omega) (by decide), sb, u1, s_signOfRow (by omega) (by omega), b2s]
      by_cases h : nI (dg (R i) k) = x
      · rw [if_pos h, decide_eq_true h]; exact h89 q true
      · rw [if_neg h, decide_eq_false h]; exact h89 q false
    have hcm : ∀ p q : Bool, (p != q) = (q != p) := by decide
    rw [f_X6_breaksAlone_L43, if_neg (nI_ge (by omega) (by omega)), hu, hcm]
    by_cases h : k + 1 = n i
    · rw [if_pos (by rw [← h, nI_pred]), decide_eq_true h]; exact h64 true
    · rw [if_neg (show ¬ nI k = nI (n i) - 1 from fun e => by
        rw [show (1 : Int32) = nI 1 from rfl, pk_sub (by omega)] at e
        have := (nI_eq (by omega) (by omega)).mp e
        omega), decide_eq_false h]
      exact h64 false
theorem s_aloneX (ht : t ≤ 24) (hW : Ws s t (B 14) (A 15) R n) (hN : 24 < N) {i : Nat} (hi : i < t) (kind x : Int32) : f_X6_breaksAlone N 0 (nI i) kind x (mem A B G fl) = some (bz (aloneB R n kind x i = true), mem A B G fl) := by
  obtain ⟨u1, u2, u3, u4, -⟩ := hW i hi
  unfold f_X6_breaksAlone aloneB
  rw [gx_0_7, sb, gx_13_1, sb, ldI_n (ly15 fl) (by omega) (by decide), sb, u2]
  by_cases h0 : n i = 0
  · rw [if_pos (show nI (n i) = 0 by rw [h0]; rfl), decide_eq_true h0]
    rfl
  · rw [if_neg (nI_ne0 (by omega) (by omega)), decide_eq_false h0]
    by_cases k1 : kind = 1
    · rw [if_pos k1, decide_eq_true k1, decide_eq_false (show ¬ kind = 3 by rw [k1]; decide)]
      by_cases hx : nI (n i) ≤ x
      · rw [if_pos hx, decide_eq_false (show ¬ x < nI (n i) from fun q => by have h1 := Int32.lt_iff_toInt_lt.mp q; have h2 := Int32.le_iff_toInt_le.mp hx; omega)]
        rfl
      · rw [if_neg hx, decide_eq_true (show x < nI (n i) from Int32.lt_iff_toInt_lt.mpr (by have h2 : ¬ (nI (n i)).toInt ≤ x.toInt := fun q => hx (Int32.le_iff_toInt_le.mpr q); omega))]
        rfl
    · rw [if_neg k1, decide_eq_false k1]
      by_cases k3 : kind = 3
      · rw [if_pos k3, decide_eq_true k3, show (0 : Int32) = nI 0 from rfl, s_endX ht hW hi x (n i) 0 N (by omega) (by omega)]
        simp
      · rw [if_neg k3, decide_eq_false k3]
        rfl
theorem s_endM (ht : t ≤ 24) (hW : Ws s t (B 47) (A 48) R n) {i : Nat} (hi : i < t) (x : Int32) : ∀ (d k m : Nat) (b : Bool), k + d = n i → d < m → f_X7_breaksAlone_L34 N m 44 (nI i) 3 x (bz (b = true)) (nI k) (mem A B G fl) = some (bz ((b || endB x (R i) (n i) d k) = true), mem A B G fl) := by
  obtain ⟨u1, u2, u3, u4, -⟩ := hW i hi
  have u3' := r48 u3
  intro d
  induction d with
  | zero =>
    intro k m b h1 hm
    obtain ⟨m, rfl⟩ : ∃ j, m = j + 1 := ⟨m - 1, by omega⟩
    rw [f_X7_breaksAlone_L34, gx_44_8, sb, ldI_n (ly48 fl) (by omega) (by decide), sb, u2, if_pos (nI_le (by omega) (by omega)), bz_zb, sb]
    show _ = some (bz ((b || false) = true), _)
    rw [Bool.or_false]
  | succ d ih =>
    intro k m b h1 hm
    obtain ⟨m, rfl⟩ : ∃ j, m = j + 1 := ⟨m - 1, by omega⟩
    have hu : endB x (R i) (n i) (d + 1) k = ((decide (nI (dg (R i) k) = x) != decide (k + 1 = n i)) || endB x (R i) (n i) d (k + 1)) := rfl
    have h101 : ∀ b : Bool, f_X7_breaksAlone_K101 N (f_X7_breaksAlone_L34 N m) 44 (nI i) 3 x (nI k) (bz (b = true)) (mem A B G fl) = some (bz ((b || endB x (R i) (n i) d (k + 1)) = true), mem A B G fl) := by
      intro b
      unfold f_X7_breaksAlone_K101
      rw [nI_1, ih (k + 1) m b (by omega) (by omega)]
    have h93 : ∀ (p q : Bool), f_X7_breaksAlone_K93 N (f_X7_breaksAlone_L34 N m) 44 (nI i) 3 x (nI k) (bz (q = true)) (bz (p = true)) (mem A B G fl) = some (bz (((p != q) || endB x (R i) (n i) d (k + 1)) = true), mem A B G fl) := by
      intro p q
      unfold f_X7_breaksAlone_K93 f_X7_breaksAlone_K96
      cases p <;> cases q
      · rw [if_pos rfl]; exact h101 false
      · rw [if_neg (by decide)]; exact h101 true
      · rw [if_neg (by decide)]; exact h101 true
      · rw [if_pos rfl]; exact h101 false
    have h75 : ∀ (p : Bool), f_X7_breaksAlone_K75 N (f_X7_breaksAlone_L34 N m) 44 (nI i) 3 x (nI k) (bz (p = true)) (mem A B G fl) = some (bz (((p != decide (k + 1 = n i)) || endB x (R i) (n i) d (k + 1)) = true), mem A B G fl) := by
      intro p
      unfold f_X7_breaksAlone_K75
      rw [gx_44_8, sb, ldI_n (ly48 fl) (by omega) (by decide), sb, u2]
      by_cases h : k + 1 = n i
      · rw [if_pos (by rw [← h, nI_pred]), decide_eq_true h]; exact h93 p true
      · rw [if_neg (show ¬ nI k = nI (n i) - 1 from fun e => by
          rw [show (1 : Int32) = nI 1 from rfl, pk_sub (by omega)] at e
          have := (nI_eq (by omega) (by omega)).mp e
          omega), decide_eq_false h]
        exact h93 p false
    rw [f_X7_breaksAlone_L34, gx_44_8, sb, ldI_n (ly48 fl) (by omega) (by decide), sb, u2, if_neg (nI_ge (by omega) (by omega)), if_pos rfl, hu]
    cases b
    · rw [if_pos (show bz (false = true) = 0 from rfl), gx_44_7, sb, ldJ_n (ly47 fl) (by omega) (by decide), sb, u1, s_signAt (by omega) (by omega), b2s]
      by_cases h : nI (dg (R i) k) = x
      · rw [if_pos h, decide_eq_true h]; exact h75 true
      · rw [if_neg h, decide_eq_false h]; exact h75 false
    · rw [if_neg (by decide)]
      unfold f_X7_breaksAlone_K96
      exact h101 true
theorem s_endM0 (ht : t ≤ 24) (hW : Ws s t (B 47) (A 48) R n) {i : Nat} (hi : i < t) {kind : Int32} (hk : ¬ kind = 3) (x : Int32) (m : Nat) (b : Bool) : f_X7_breaksAlone_L34 N (m + 1) 44 (nI i) kind x (bz (b = true)) 0 (mem A B G fl) = some (bz (b = true), mem A B G fl) := by
  obtain ⟨u1, u2, u3, u4, -⟩ := hW i hi
  rw [f_X7_breaksAlone_L34, gx_44_8, sb, ldI_n (ly48 fl) (by omega) (by decide), sb, if_neg hk, bz_zb, sb, ite_self]
theorem s_aloneM (ht : t ≤ 24) (hW : Ws s t (B 47) (A 48) R n) (hN : 24 < N) {i : Nat} (hi : i < t) (kind x : Int32) : f_X7_breaksAlone N 44 (nI i) kind x (mem A B G fl) = some (bz (aloneB R n kind x i = true), mem A B G fl) := by
  obtain ⟨u1, u2, u3, u4, -⟩ := hW i hi
  have h29 : ∀ b : Bool, f_X7_breaksAlone_K29 N 44 (nI i) kind x (bz (b = true)) (mem A B G fl) = some (bz ((b || (decide (kind = 3) && endB x (R i) (n i) (n i) 0)) = true), mem A B G fl) := by
    intro b
    unfold f_X7_breaksAlone_K29
    by_cases k3 : kind = 3
    · subst k3
      rw [show (0 : Int32) = nI 0 from rfl, s_endM ht hW hi x (n i) 0 N b (by omega) (by omega)]
      simp
    · obtain ⟨N', rfl⟩ : ∃ j, N = j + 1 := ⟨N - 1, by omega⟩
      rw [s_endM0 ht hW hi k3, decide_eq_false k3]
      simp
  unfold f_X7_breaksAlone aloneB f_X7_breaksAlone_K24 f_X7_breaksAlone_K28
  rw [gx_44_8, sb, ldI_n (ly48 fl) (by omega) (by decide), sb, u2]
  by_cases h0 : n i = 0
  · rw [if_pos (show nI (n i) = 0 by rw [h0]; rfl), decide_eq_true h0]
    refine Eq.trans (h29 true) ?_
    simp
  · rw [if_neg (nI_ne0 (by omega) (by omega)), decide_eq_false h0]
    by_cases k1 : kind = 1
    · rw [if_pos k1, decide_eq_true k1, sb, ldI_n (ly48 fl) (by omega) (by decide), sb, u2]
      by_cases hx : nI (n i) ≤ x
      · rw [if_pos hx, decide_eq_false (show ¬ x < nI (n i) from fun q => by have h1 := Int32.lt_iff_toInt_lt.mp q; have h2 := Int32.le_iff_toInt_le.mp hx; omega)]
        refine Eq.trans (h29 false) ?_
        simp
      · rw [if_neg hx, decide_eq_true (show x < nI (n i) from Int32.lt_iff_toInt_lt.mpr (by have h2 : ¬ (nI (n i)).toInt ≤ x.toInt := fun q => hx (Int32.le_iff_toInt_le.mpr q); omega))]
        refine Eq.trans (h29 true) ?_
        simp
    · rw [if_neg k1, decide_eq_false k1]
      refine Eq.trans (h29 false) ?_
      simp
end Fr

theorem i_nle0 {a : Int32} : ¬ a ≤ 0 ↔ 0 < a := by
  rw [Int32.lt_iff_toInt_lt, Int32.le_iff_toInt_le]
  omega
theorem upd_self (f : Nat → Int32) (k : Nat) : upd f k (f k) = f := by
  funext j
  by_cases e : j = k
  · subst e; rw [upd_eq]
  · rw [upd_ne _ _ _ e]
/-- the answer to which one breaks it with -/
def brV (R n : Nat → Nat) (kind x : Int32) (t j : Nat) : Int32 := if aloneB R n kind x j = true then -6 else oI (withO R n kind t j)
section Ho
variable {A : Nat → Nat → Int32} {B : Nat → Nat → Int64} {G : Nat → Nat → Int32} {fl : Nat → Bool} {N s t : Nat} {R n : Nat → Nat}
theorem s_withX (ht : t ≤ 24) (hW : Ws s t (B 14) (A 15) R n) (hG : G 13 2 = nI t) {i : Nat} (hi : i < t) (kind : Int32) : ∀ (d j m : Nat), j + d = t → d < m → f_X6_breaksWith_L4 N m 0 (nI i) kind (nI j) (mem A B G fl) = some (oI (fo (brB R n kind i) d j), mem A B G fl) := by
  obtain ⟨u1, u2, u3, u4, -⟩ := hW i hi
  have u3' := r48 u3
  intro d
  induction d with
  | zero =>
    intro j m h1 hm
    obtain ⟨m, rfl⟩ : ∃ j, m = j + 1 := ⟨m - 1, by omega⟩
    rw [f_X6_breaksWith_L4, gx_0_7, sb, gx_13_2, sb, hG, if_pos (nI_le (by omega) (by omega))]
    rfl
  | succ d ih =>
    intro j m h1 hm
    obtain ⟨m, rfl⟩ : ∃ j, m = j + 1 := ⟨m - 1, by omega⟩
    obtain ⟨v1, v2, v3, v4, -⟩ := hW j (by omega)
    have v3' := r48 v3
    have hu : fo (brB R n kind i) (d + 1) j = if brB R n kind i j = true then some j else fo (brB R n kind i) d (j + 1) := rfl
    have h58 : f_X6_breaksWith_K58 N (f_X6_breaksWith_L4 N m) 0 (nI i) kind (nI j) (mem A B G fl) = some (oI (fo (brB R n kind i) d (j + 1)), mem A B G fl) := by
      unfold f_X6_breaksWith_K58
      rw [nI_1, ih (j + 1) m (by omega) (by omega)]
    rw [f_X6_breaksWith_L4, gx_0_7, sb, gx_13_2, sb, hG, if_neg (nI_ge (by omega) (by omega)), sb, ck_13, sb, s_clash ht hW hi (by omega), b2s, hu]
    by_cases h : min (n i) (n j) ≤ al (R i ^^^ R j)
    · rw [if_neg (bz1 h), if_pos (show brB R n kind i j = true by unfold brB; rw [decide_eq_true h]; rfl)]
      rfl
    · rw [if_pos (bz0 h)]
      by_cases hk : kind = 2
      · have hb : brB R n kind i j = decide (R j < R i) := by unfold brB; rw [decide_eq_false h, decide_eq_true hk]; rfl
        have l1 : ldJ (mem A B G fl) 14 (nI i) = some (lN (R i)) := by rw [ldJ_n (ly14 fl) (by omega) (by decide), u1]
        have l2 : ldJ (mem A B G fl) 14 (nI j) = some (lN (R j)) := by rw [ldJ_n (ly14 fl) (by omega) (by decide), v1]
        rw [if_pos hk]
        simp only [gx_0_7, gx_13_0, sb, l1, l2]
        rw [hb, h58]
        by_cases hlt : R j < R i
        · rw [if_neg (by rw [i_nle0, lgG, pk_lT (by omega), pk_lT (by omega)]; omega), decide_eq_true hlt, if_pos rfl]
          rfl
        · rw [if_pos (show lg_cmp (lN (R i)) (lN (R j)) ≤ 0 from Classical.byContradiction fun q => by rw [i_nle0, lgG, pk_lT (by omega), pk_lT (by omega)] at q; omega), decide_eq_false hlt, if_neg (by decide)]
      · have hb : brB R n kind i j = false := by unfold brB; rw [decide_eq_false h, decide_eq_false hk]; rfl
        rw [if_neg hk, h58, hb, if_neg (by decide)]
theorem s_holdsX (ht : t ≤ 24) (hW : Ws s t (B 14) (A 15) R n) (hG : G 13 2 = nI t) (hN : 24 < N) (kind x : Int32) : ∀ (d i m : Nat), i + d = t → d < m → f_X6_holds_L24 N m 0 kind x (nI i) (mem A B G fl) = match fo (badB R n kind x t) d i with
    | none => some (1, mem A B G fl)
    | some j => some (0, mem A B (upA G 0 (upd (upd (G 0) 13 (nI j)) 14 (brV R n kind x t j))) fl) := by
  intro d
  induction d with
  | zero =>
    intro i m h1 hm
    obtain ⟨m, rfl⟩ : ∃ j, m = j + 1 := ⟨m - 1, by omega⟩
    rw [f_X6_holds_L24, gx_0_7, sb, gx_13_2, sb, hG, if_pos (nI_le (by omega) (by omega))]
    rfl
  | succ d ih =>
    intro i m h1 hm
    obtain ⟨m, rfl⟩ : ∃ j, m = j + 1 := ⟨m - 1, by omega⟩
    have hu : fo (badB R n kind x t) (d + 1) i = if badB R n kind x t i = true then some i else fo (badB R n kind x t) d (i + 1) := rfl
    have hput : ∀ v, ((pV (mem A B G fl) 0 6 13 (.int (nI i))).bind fun M76 => (pV M76 0 6 14 (.int v)).bind fun M82 => some ((0 : Int32), M82)) = some (0, mem A B (upA G 0 (upd (upd (G 0) 13 (nI i)) 14 v)) fl) := by
      intro v
      rw [px_0_13, sb, px_0_14, sb, upA_same, upA_twice]
    rw [f_X6_holds_L24, gx_0_7, sb, gx_13_2, sb, hG, if_neg (nI_ge (by omega) (by omega)), ck_0, sb, s_aloneX ht hW hN (by omega), b2s, hu]
    by_cases ha : aloneB R n kind x i = true
    · rw [if_neg (bz1 ha), if_pos (show badB R n kind x t i = true by unfold badB; rw [ha]; rfl)]
      unfold f_X6_holds_K60
      rw [if_neg (bz1 ha), hput]
      show _ = some (0, mem A B (upA G 0 (upd (upd (G 0) 13 (nI i)) 14 (if aloneB R n kind x i = true then -6 else _))) fl)
      rw [if_pos ha]
    · rw [if_pos (bz0 ha), ck_0, sb]
      unfold f_X6_breaksWith
      have hw : fo (brB R n kind i) d (i + 1) = withO R n kind t i := by unfold withO; rw [show t - (i + 1) = d by omega]
      rw [nI_1, s_withX ht hW hG (by omega) kind d (i + 1) N (by omega) (by omega), b2s, hw]
      unfold f_X6_holds_K60
      rw [if_pos (bz0 ha)]
      cases hq : withO R n kind t i with
      | none =>
        rw [if_pos (show oI none = -6 from rfl), if_neg (show ¬ badB R n kind x t i = true by unfold badB; rw [hq]; simpa using ha), nI_1]
        exact ih (i + 1) m (by omega) (by omega)
      | some j =>
        have hj : j < 2 ^ 31 := by
          have : ∀ (P : Nat → Bool) (d i j : Nat), fo P d i = some j → j < i + d := by
            intro P d
            induction d with
            | zero => intro i j h; exact absurd h (by simp [fo])
            | succ d ih2 =>
              intro i j h
              have h : (if P i = true then some i else fo P d (i + 1)) = some j := h
              by_cases hp : P i = true
              · rw [if_pos hp] at h; have := Option.some.inj h; omega
              · rw [if_neg hp] at h; have := ih2 (i + 1) j h; omega
          have := this _ _ _ _ (hw ▸ hq)
          omega
        rw [if_neg (show ¬ oI (some j) = -6 from fun e => by
          have e2 : (nI j).toInt = -6 := by rw [show nI j = -6 from e]; rfl
          rw [nI_toInt hj] at e2
          omega), if_pos (show badB R n kind x t i = true by unfold badB; rw [hq]; simp), hput]
        show _ = some (0, mem A B (upA G 0 (upd (upd (G 0) 13 (nI i)) 14 (if aloneB R n kind x i = true then -6 else oI (withO R n kind t i)))) fl)
        rw [if_neg ha, hq]

theorem fo_lt (P : Nat → Bool) : ∀ (d i j : Nat), fo P d i = some j → i ≤ j ∧ j < i + d ∧ P j = true := by
  intro d
  induction d with
  | zero => intro i j h; exact absurd h (by simp [fo])
  | succ d ih2 =>
    intro i j h
    have h : (if P i = true then some i else fo P d (i + 1)) = some j := h
    by_cases hp : P i = true
    · rw [if_pos hp] at h
      have := Option.some.inj h
      subst this
      exact ⟨by omega, by omega, hp⟩
    · rw [if_neg hp] at h
      have := ih2 (i + 1) j h
      exact ⟨by omega, by omega, this.2.2⟩
theorem oI_neg (P : Nat → Bool) {d i : Nat} (h : i + d < 2 ^ 31) : oI (fo P d i) < 0 ↔ fo P d i = none := by
  cases hq : fo P d i with
  | none => exact ⟨fun _ => rfl, fun _ => by decide⟩
  | some j =>
    have := fo_lt P d i j hq
    exact ⟨fun e => absurd e (nI_pos (by omega)), fun e => by cases e⟩
/-- what the reference keeps of it -/
def nG (G : Nat → Nat → Int32) (notes : Bool) (j : Nat) (v : Int32) : Nat → Nat → Int32 := if notes = true then upA G 44 (upd (upd (G 44) 36 (nI j)) 37 v) else G
theorem s_ofKind1 (ht : t ≤ 24) (hW : Ws s t (B 47) (A 48) R n) (hG : G 44 3 = nI t) {i : Nat} (hi : i < t) (kind x : Int32) (notes : Bool) (k3 : Nat → Int32 → Int32 → Int32 → Int32 → A_M → Option (Int32 × A_M)) : ∀ (d j m : Nat), j + d = t → d + 1 < m → f_X7_isOfKind_L32 N k3 m 44 kind x (bz (notes = true)) (nI i) (bz (aloneB R n kind x i = true)) (-6) (nI j) (mem A B G fl) = if aloneB R n kind x i = true ∨ (fo (brB R n kind i) d j).isSome = true then some (0, mem A B (nG G notes i (if aloneB R n kind x i = true then -6 else oI (fo (brB R n kind i) d j))) fl) else k3 44 kind x (bz (notes = true)) (nI (i + 1)) (mem A B G fl) := by
  have h83 : ∀ x6, f_X7_isOfKind_K83 N 44 (bz (notes = true)) (nI i) (bz (aloneB R n kind x i = true)) x6 (mem A B G fl) = some (0, mem A B (nG G notes i (if aloneB R n kind x i = true then -6 else x6)) fl) := by
    intro x6
    unfold f_X7_isOfKind_K83 f_X7_isOfKind_K97
    cases notes
    · rw [if_pos (show bz (false = true) = 0 from rfl), gx_44_36, sb, px_44_36, sb, if_pos (show bz (false = true) = 0 from rfl), gx_44_37, sb, px_44_37, sb, upd_self, upA_self, upd_self, upA_self]
      rfl
    · rw [if_neg (show ¬ bz (true = true) = 0 by decide), px_44_36, sb, if_neg (show ¬ bz (true = true) = 0 by decide)]
      by_cases ha : aloneB R n kind x i = true
      · rw [if_neg (bz1 ha), px_44_37, sb, upA_same, upA_twice, if_pos ha]
        rfl
      · rw [if_pos (bz0 ha), px_44_37, sb, upA_same, upA_twice, if_neg ha]
        rfl
  have h73 : ∀ o : Option Nat, (oI o < 0 ↔ o = none) → f_X7_isOfKind_K73 N k3 44 kind x (bz (notes = true)) (nI i) (bz (aloneB R n kind x i = true)) (oI o) (mem A B G fl) = if aloneB R n kind x i = true ∨ o.isSome = true then some (0, mem A B (nG G notes i (if aloneB R n kind x i = true then -6 else oI o)) fl) else k3 44 kind x (bz (notes = true)) (nI (i + 1)) (mem A B G fl) := by
    intro o ho
    unfold f_X7_isOfKind_K73
    rw [h83, nI_1]
    by_cases ha : aloneB R n kind x i = true
    · rw [if_neg (bz1 ha), if_pos (Or.inl ha)]
    · rw [if_pos (bz0 ha)]
      by_cases hq : o = none
      · rw [if_pos (ho.mpr hq), if_neg (by rw [hq]; simpa using ha)]
      · rw [if_neg (fun e => hq (ho.mp e)), if_pos (Or.inr (by cases o with | none => exact absurd rfl hq | some _ => rfl))]
  intro d
  induction d with
  | zero =>
    intro j m h1 hm
    obtain ⟨m, rfl⟩ : ∃ j, m = j + 1 := ⟨m - 1, by omega⟩
    rw [f_X7_isOfKind_L32, gx_44_3, sb, hG, if_pos (nI_le (by omega) (by omega))]
    exact h73 none ⟨fun _ => rfl, fun _ => by decide⟩
  | succ d ih =>
    intro j m h1 hm
    obtain ⟨m, rfl⟩ : ∃ j, m = j + 1 := ⟨m - 1, by omega⟩
    have hu : fo (brB R n kind i) (d + 1) j = if brB R n kind i j = true then some j else fo (brB R n kind i) d (j + 1) := rfl
    rw [f_X7_isOfKind_L32, gx_44_3, sb, hG, if_neg (nI_ge (by omega) (by omega)), if_neg (show ¬ (0 : Int32) ≤ -6 by decide), ck_44, sb, s_breakBoth ht hW hi (by omega), b2s, hu]
    unfold f_X7_isOfKind_K65
    by_cases hb : brB R n kind i j = true
    · rw [if_neg (bz1 hb), if_pos hb, nI_1]
      obtain ⟨m, rfl⟩ : ∃ j, m = j + 1 := ⟨m - 1, by omega⟩
      rw [f_X7_isOfKind_L32, gx_44_3, sb, if_pos (show 0 ≤ nI j from nI_pos' (by omega)), ite_self]
      exact h73 (some j) ⟨fun e => absurd e (nI_pos (by omega)), fun e => by cases e⟩
    · rw [if_pos (bz0 hb), if_neg hb, nI_1]
      exact ih (j + 1) m (by omega) (by omega)
theorem s_ofKind (ht : t ≤ 24) (hW : Ws s t (B 47) (A 48) R n) (hG : G 44 3 = nI t) (hN : 25 < N) (kind x : Int32) (notes : Bool) : ∀ (d i m : Nat), i + d = t → d < m → f_X7_isOfKind_L3 N m 44 kind x (bz (notes = true)) (nI i) (mem A B G fl) = match fo (badB R n kind x t) d i with
    | none => some (1, mem A B G fl)
    | some j => some (0, mem A B (nG G notes j (brV R n kind x t j)) fl) := by
  intro d
  induction d with
  | zero =>
    intro i m h1 hm
    obtain ⟨m, rfl⟩ : ∃ j, m = j + 1 := ⟨m - 1, by omega⟩
    rw [f_X7_isOfKind_L3, gx_44_3, sb, hG, if_pos (nI_le (by omega) (by omega))]
    rfl
  | succ d ih =>
    intro i m h1 hm
    obtain ⟨m, rfl⟩ : ∃ j, m = j + 1 := ⟨m - 1, by omega⟩
    have hu : fo (badB R n kind x t) (d + 1) i = if badB R n kind x t i = true then some i else fo (badB R n kind x t) d (i + 1) := rfl
    have hw : fo (brB R n kind i) d (i + 1) = withO R n kind t i := by unfold withO; rw [show t - (i + 1) = d by omega]
    rw [f_X7_isOfKind_L3, gx_44_3, sb, hG, if_neg (nI_ge (by omega) (by omega)), ck_44, sb, s_aloneM ht hW (by omega) (by omega), b2s, nI_1, s_ofKind1 ht hW hG (by omega) kind x notes _ d (i + 1) N (by omega) (by omega), hw, hu]
    by_cases hb : badB R n kind x t i = true
    · rw [if_pos hb, if_pos (by unfold badB at hb; simpa using hb)]
      rfl
    · rw [if_neg hb, if_neg (by unfold badB at hb; simpa using hb)]
      exact ih (i + 1) m (by omega) (by omega)
end Ho
