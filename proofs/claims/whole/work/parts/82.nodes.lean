/-! the reference's nodes -/
section No
variable {A : Nat → Nat → Int32} {G : Nat → Nat → Int32} {fl : Nat → Bool} {N s t : Nat} {P C : Nat → Nat}
def NdC (A : Nat → Nat → Int32) (G : Nat → Nat → Int32) (P C : Nat → Nat) (s t : Nat) : Prop := G 44 1 = nI s ∧ G 44 3 = nI t ∧ (∀ u, u < s → A 45 u = nI (P u)) ∧ ∀ i, i < t → A 46 i = nI (C i)
theorem s_ctM2 {B : Nat → Nat → Int64} (ht : t ≤ 24) (hC : ∀ i, i < t → A 46 i = nI (C i) ∧ C i ≤ 1000000) {e : Nat} (he : e ≤ t) : ∀ (d i m x : Nat), i + d = e → d < m → f_X7_countsOf_L5 N m 44 (nI e) (lN x) (nI i) (mem A B G fl) = some (lN (x + ctS C d i), mem A B G fl) := by
  intro d
  induction d with
  | zero =>
    intro i m x h hm
    obtain ⟨m, rfl⟩ : ∃ j, m = j + 1 := ⟨m - 1, by omega⟩
    rw [f_X7_countsOf_L5, if_pos (nI_le (by omega) (by omega))]
    rfl
  | succ d ih =>
    intro i m x h hm
    obtain ⟨m, rfl⟩ : ∃ j, m = j + 1 := ⟨m - 1, by omega⟩
    obtain ⟨c1, c2⟩ := hC i (by omega)
    rw [f_X7_countsOf_L5, if_neg (nI_ge (by omega) (by omega)), gx_44_2, sb, ldI_n (ly46 fl) (by omega) (by decide), sb, c1, nI_l (by omega), lN_add, nI_1, ih (i + 1) m _ (by omega) (by omega), Nat.add_assoc]
    rfl
/-- the value of a deal -/
def dv (P C : Nat → Nat) (s i j u a e r : Nat) : Nat := if e - a = j - i + 1 then EV else vv (P u) (Wt C a e) (c1 (nd P C s) a e) r
theorem dv_le (hS : Sml P C s t) {i j u a e r : Nat} (he : e ≤ t) (hu : u < s) : dv P C s i j u a e r < 2 ^ 63 := by
  have b1 := nd_le (P := P) (C := C) (s := s) a (e - 1)
  have b3 := hS.pw (a := a) (e := e) (u := u) he hu
  have b2 : c1 (nd P C s) a e ≤ EV := by
    unfold c1
    split
    · exact Nat.zero_le _
    · exact b1
  unfold dv vv
  unfold EV at *
  split
  · decide
  · split <;> omega
theorem s_dealt {B : Nat → Nat → Int64} (hN : 100 < N) (hS : Sml P C s t) (hC : NdC A G P C s t) {i j u a e r : Nat} (hij : i ≤ j) (hj : j < t) (hu : u < s) (ha : i ≤ a) (hae : a ≤ e) (he : e ≤ j + 1) (hr : B 61 (30 * (u + 1) + e) = lN r) (hr2 : r ≤ EV) (hn : 2 ≤ e - a → e - a < j - i + 1 → B 60 (24 * a + (e - 1)) = lN (nd P C s a (e - 1))) : f_X7_dealt N 44 (nI i) (nI j) (nI u) (nI a) (nI e) (mem A B G fl) = some (lN (dv P C s i j u a e r), mem A B G fl) := by
  have h24 := hS.2.1
  have h4 := hS.1
  unfold f_X7_dealt dv
  rw [gx_44_28, sb, show (30 : Int32) = nI 30 from rfl, show (1 : Int32) = nI 1 from rfl, nI_add, pk_mul, nI_add, ldJ_n (ly61 fl) (by omega) (by decide), sb, hr, pk_sub hae, pk_sub hij, nI_add]
  by_cases h1 : e - a = j - i + 1
  · rw [if_pos (by rw [h1]), if_pos h1]
    rfl
  · rw [if_neg (fun q => h1 ((nI_eq (by omega) (by omega)).mp q)), if_neg h1]
    unfold vv
    unfold EV at hr2
    rw [show (1152921504606846976 : Int64) = lN 1152921504606846976 from rfl]
    by_cases h2 : EV ≤ r
    · rw [if_pos h2, if_neg (fun q => by have := (lg_lt (by omega) (by omega)).mp q; unfold EV at h2; omega)]
      rfl
    · rw [if_neg h2, if_pos ((lg_lt (by omega) (by omega)).mpr (by unfold EV at h2; omega)), gx_44_0, sb, ldI_n (ly45 fl) (by omega) (by decide), sb, hC.2.2.1 u hu, ck_44, sb]
      unfold f_X7_countsOf
      rw [show (0 : Int64) = lN 0 from rfl, s_ctM2 h24 (fun x hx => ⟨hC.2.2.2 x hx, hS.2.2.2 x hx⟩) (show e ≤ t by omega) (e - a) a N 0 (by omega) (by omega), Nat.zero_add, b2s, ck_44, sb]
      unfold f_X7_costOfNode c1
      by_cases h3 : e - a < 2
      · rw [pk_sub hae, if_neg (show ¬ (2 : Int32) ≤ nI (e - a) from nI_ge (b := 2) h3 (by omega)), b2s, if_pos h3, nI_l (by have := hS.2.2.1 u hu; omega), lN_mul, show (0 : Int64) = lN 0 from rfl, lN_add, lN_add]
        rfl
      · rw [pk_sub hae, if_pos (show (2 : Int32) ≤ nI (e - a) from nI_le (a := 2) (by omega) (by omega)), gx_44_27, sb, show (24 : Int32) = nI 24 from rfl, pk_mul, nI_add, pk_sub (by omega), show 24 * a + e - 1 = 24 * a + (e - 1) by omega, ldJ_n (ly60 fl) (by omega) (by decide), sb, hn (by omega) (by omega), b2s, if_neg h3, nI_l (by have := hS.2.2.1 u hu; omega), lN_mul, lN_add, lN_add]
        rfl
end No
