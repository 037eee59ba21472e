/-! where the signs lead from the PLACES: the reference's table -/
def chd (x : Nat × Nat) (v : Nat) : Nat × Nat := (x.1 + v * 4 ^ (23 - x.2), x.2 + 1)
def wdB (R n : Nat → Nat) (y : Nat × Nat) : Nat → Nat → Bool
  | 0, _ => false
  | d + 1, k => (decide (n k = y.2) && decide (R k = y.1)) || wdB R n y d (k + 1)
theorem wdB_iff {R n : Nat → Nat} {y : Nat × Nat} : ∀ (d k : Nat), wdB R n y d k = true ↔ ∃ j, k ≤ j ∧ j < k + d ∧ n j = y.2 ∧ R j = y.1 := by
  intro d
  induction d with
  | zero => intro k; exact ⟨fun h => (by cases h), fun ⟨j, h1, h2, _⟩ => by omega⟩
  | succ d ih =>
    intro k
    show ((decide (n k = y.2) && decide (R k = y.1)) || wdB R n y d (k + 1)) = true ↔ _
    rw [Bool.or_eq_true, Bool.and_eq_true, decide_eq_true_iff, decide_eq_true_iff, ih]
    constructor
    · rintro (⟨h1, h2⟩ | ⟨j, h1, h2, h3⟩)
      · exact ⟨k, Nat.le_refl _, by omega, h1, h2⟩
      · exact ⟨j, by omega, by omega, h3⟩
    · rintro ⟨j, h1, h2, h3⟩
      by_cases e : j = k
      · exact Or.inl (e ▸ h3)
      · exact Or.inr ⟨j, by omega, by omega, h3⟩
def ldO (L : List (Nat × Nat)) (R n : Nat → Nat) (t : Nat) (y : Nat × Nat) : Option Nat := if wdB R n y t 0 = true then some 0 else ix y L 0
theorem chd_ok {x : Nat × Nat} {v : Nat} (h1 : x.1 < 4 ^ 24) (h2 : x.2 ≤ 23) (h3 : rz x.1 x.2) (hv : v < 4) : (chd x v).1 < 4 ^ 24 ∧ (chd x v).2 ≤ 24 ∧ rz (chd x v).1 (chd x v).2 := by
  obtain ⟨a, b⟩ := x
  dsimp only at h1 h2 h3
  unfold rz at h3 ⊢
  unfold chd
  dsimp only
  have e : 4 ^ (24 - b) = 4 * 4 ^ (23 - b) := by rw [show 24 - b = (23 - b) + 1 by omega, Nat.pow_succ, Nat.mul_comm]
  have e2 : (4 : Nat) ^ 24 = 4 ^ b * 4 ^ (24 - b) := by rw [← Nat.pow_add]; congr 1; omega
  have hp : 0 < 4 ^ (23 - b) := Nat.pow_pos (by decide)
  obtain ⟨c, hc⟩ := Nat.dvd_of_mod_eq_zero h3
  refine ⟨?_, by omega, ?_⟩
  · have hcl : c < 4 ^ b := by
      rw [hc, e2, Nat.mul_comm] at h1
      exact Nat.lt_of_mul_lt_mul_right h1
    have : (c + 1) * 4 ^ (24 - b) ≤ 4 ^ b * 4 ^ (24 - b) := Nat.mul_le_mul_right _ hcl
    have hv2 : v * 4 ^ (23 - b) < 4 * 4 ^ (23 - b) := Nat.mul_lt_mul_of_pos_right hv hp
    rw [Nat.add_mul, Nat.one_mul, Nat.mul_comm c, ← hc] at this
    omega
  · rw [show 24 - (b + 1) = 23 - b by omega, hc, e, show 4 * 4 ^ (23 - b) * c + v * 4 ^ (23 - b) = (4 * c + v) * 4 ^ (23 - b) by rw [Nat.add_mul]; congr 1; ac_rfl]
    exact Nat.mul_mod_left _ _
section Ld
variable {fl : Nat → Bool} {N s t : Nat} {R n : Nat → Nat} {L : List (Nat × Nat)} {B : Nat → Nat → Int64} {G : Nat → Nat → Int32}
theorem s_leadsTo {A : Nat → Nat → Int32} (ht : t ≤ 24) (hN : 600 < N) (hM : PlM A B G L) (hL : L.length ≤ 600) (hb : GdL L) (hW : Ws s t (B 47) (A 48) R n) (hT : G 44 3 = nI t) {y : Nat × Nat} (hy : y.1 < 4 ^ 24 ∧ y.2 ≤ 24) : ∀ (d k m : Nat), k + d = t → d < m → f_X7_leadsTo_L3 N m 44 (lN y.1) (nI y.2) (nI k) (mem A B G fl) = some (if wdB R n y d k = true then 0 else pI (ix y L 0), mem A B G fl) := by
  have r1 := r48 hy.1
  intro d
  induction d with
  | zero =>
    intro k m h hm
    obtain ⟨m, rfl⟩ : ∃ j, m = j + 1 := ⟨m - 1, by omega⟩
    rw [f_X7_leadsTo_L3, gx_44_3, sb, hT, if_pos (nI_le (by omega) (by omega)), ck_44, sb, s_placeOf0 hM hL hN (fun x hx => ⟨(hb x hx).1, by have := (hb x hx).2.1; omega⟩) hy.1 hy.2, b2s]
    rfl
  | succ d ih =>
    intro k m h hm
    obtain ⟨m, rfl⟩ : ∃ j, m = j + 1 := ⟨m - 1, by omega⟩
    obtain ⟨w1, w2, w3, w4, -, -⟩ := hW k (by omega)
    have r2 := r48 w3
    have go : f_X7_leadsTo_K37 N (f_X7_leadsTo_L3 N m) 44 (lN y.1) (nI y.2) (nI k) (mem A B G fl) = some (if wdB R n y d (k + 1) = true then 0 else pI (ix y L 0), mem A B G fl) := by
      unfold f_X7_leadsTo_K37
      rw [nI_1, ih (k + 1) m (by omega) (by omega)]
    rw [f_X7_leadsTo_L3, gx_44_3, sb, hT, if_neg (nI_ge (by omega) (by omega)), gx_44_8, sb, ldI_n (ly48 fl) (by omega) (by decide), sb, w2]
    show _ = some (if ((decide (n k = y.2) && decide (R k = y.1)) || wdB R n y d (k + 1)) = true then 0 else pI (ix y L 0), mem A B G fl)
    by_cases e1 : n k = y.2
    · rw [if_pos (by rw [e1]), gx_44_7, sb, ldJ_n (ly47 fl) (by omega) (by decide), sb, w1]
      by_cases e2 : R k = y.1
      · rw [if_pos ((lg_eq (by omega) (by omega)).mpr e2), if_pos (by rw [decide_eq_true e1, decide_eq_true e2]; rfl)]
      · rw [if_neg (fun e => e2 ((lg_eq (by omega) (by omega)).mp e)), go, decide_eq_false e2, Bool.and_false, Bool.false_or]
    · rw [if_neg (fun e => e1 ((nI_eq (by omega) (by omega)).mp e)), go, decide_eq_false e1, Bool.false_and, Bool.false_or]
theorem ldO_pI (y : Nat × Nat) : pI (ldO L R n t y) = if wdB R n y t 0 = true then 0 else pI (ix y L 0) := by
  unfold ldO
  split <;> rfl
/-- the leads of one place -/
theorem s_fpLead (hN : 600 < N) (ht : t ≤ 24) (hs : s ≤ 4) (hb : GdL L) (hL : L.length ≤ 600) (k91 : Nat → Int32 → A_M → Option A_M) {k : Nat} {x : Nat × Nat} (hx : L[k]? = some x) : ∀ (d v m : Nat) (A : Nat → Nat → Int32), v + d = s → d < m → G 44 1 = nI s → G 44 3 = nI t → Ws s t (B 47) (A 48) R n → PlM A B G L →
    ∃ A', f_X7_findPlaces_L101 N k91 m 44 (nI k) (nI v) (mem A B G fl) = k91 44 (nI (k + 1)) (mem A' B G fl) ∧ (∀ i, i ≠ 70 → A' i = A i) ∧ (∀ j, v ≤ j → j < s → A' 70 (4 * k + j) = pI (ldO L R n t (chd x j))) ∧ (∀ j, (∀ u, v ≤ u → u < s → j ≠ 4 * k + u) → A' 70 j = A 70 j) := by
  have hkl : k < L.length := (List.getElem?_eq_some_iff.mp hx).1
  have hxm : x ∈ L := List.mem_of_getElem? hx
  obtain ⟨b1, b2, b3⟩ := hb x hxm
  intro d
  induction d with
  | zero =>
    intro v m A h hm hS hT hW hM
    obtain ⟨m, rfl⟩ : ∃ j, m = j + 1 := ⟨m - 1, by omega⟩
    refine ⟨A, ?_, fun _ _ => rfl, fun j h1 h2 => absurd h1 (by omega), fun _ _ => rfl⟩
    rw [f_X7_findPlaces_L101, gx_44_1, sb, hS, if_pos (nI_le (by omega) (by omega)), f_X7_findPlaces_K153, nI_1]
  | succ d ih =>
    intro v m A h hm hS hT hW hM
    obtain ⟨m, rfl⟩ : ∃ j, m = j + 1 := ⟨m - 1, by omega⟩
    obtain ⟨m1, m2⟩ := hM.2 k x hx
    have hc := chd_ok b1 b2 b3 (show v < 4 by omega)
    have e1 := s_leadsTo (fl := fl) ht hN hM hL hb hW hT (y := chd x v) ⟨hc.1, hc.2.1⟩ t 0 N (by omega) (by omega)
    rw [← ldO_pI] at e1
    generalize hA1 : upA A 70 (upd (A 70) (4 * k + v) (pI (ldO L R n t (chd x v)))) = A1
    have q1 : ∀ i, i ≠ 70 → A1 i = A i := by subst hA1; exact fun i hi => upA_ne _ _ _ hi
    have q2 : A1 70 = upd (A 70) (4 * k + v) (pI (ldO L R n t (chd x v))) := by subst hA1; exact upA_same _ _ _
    obtain ⟨A', g1, g2, g3, g4⟩ := ih (v + 1) m A1 (by omega) (by omega) hS hT (by rw [q1 48 (by omega)]; exact hW) ⟨hM.1, fun j y hy => by rw [q1 69 (by omega)]; exact hM.2 j y hy⟩
    refine ⟨A', ?_, fun i hi => (g2 i hi).trans (q1 i hi), fun j h1 h2 => ?_, fun j hj => ?_⟩
    · rw [f_X7_findPlaces_L101, gx_44_1, sb, hS, if_neg (nI_ge (by omega) (by omega)), gx_44_41, sb, gx_44_38, sb, ldJ_n (ly68 fl) (by omega) (by decide), sb, m1, gx_44_39, sb, ldI_n (ly69 fl) (by omega) (by decide), sb, m2, s_with (by omega) b3 (by omega), b2s, gx_44_39, sb, ldI_n (ly69 fl) (by omega) (by decide), sb, m2, ck_44, sb]
      unfold f_X7_leadsTo
      rw [nI_1, show (0 : Int32) = nI 0 from rfl]
      show bnd2 (f_X7_leadsTo_L3 N N 44 (lN (chd x v).1) (nI (chd x v).2) (nI 0) (mem A B G fl)) _ = _
      rw [e1, b2s, show ((4 : Int32) * nI k + nI v) = nI (4 * k + v) by rw [show (4 : Int32) = nI 4 from rfl, pk_mul, nI_add], stI_n (ly70 fl) (by omega) (by decide), sb, hA1, nI_1, g1]
    · by_cases e : j = v
      · subst e
        rw [g4 _ (fun u h1 h2 => by omega), q2, upd_eq]
      · exact g3 j (by omega) h2
    · rw [g4 j (fun u h1 h2 => hj u (by omega) h2), q2, upd_ne _ _ _ (hj v (Nat.le_refl _) (by omega))]
/-- all leads -/
theorem s_fpLeads (hN : 600 < N) (ht : t ≤ 24) (hs : s ≤ 4) (hb : GdL L) (hL : L.length ≤ 600) : ∀ (d k m : Nat) (A : Nat → Nat → Int32), k + d = L.length → d < m → G 44 1 = nI s → G 44 3 = nI t → Ws s t (B 47) (A 48) R n → PlM A B G L →
    ∃ A', f_X7_findPlaces_L91 N m 44 (nI k) (mem A B G fl) = some (mem A' B G fl) ∧ (∀ i, i ≠ 70 → A' i = A i) ∧ (∀ j x v, k ≤ j → L[j]? = some x → v < s → A' 70 (4 * j + v) = pI (ldO L R n t (chd x v))) ∧ (∀ j, j < 4 * k → A' 70 j = A 70 j) := by
  intro d
  induction d with
  | zero =>
    intro k m A h hm hS hT hW hM
    obtain ⟨m, rfl⟩ : ∃ j, m = j + 1 := ⟨m - 1, by omega⟩
    refine ⟨A, ?_, fun _ _ => rfl, fun j x v h1 h2 => ?_, fun _ _ => rfl⟩
    · rw [f_X7_findPlaces_L91, gx_44_40, sb, hM.1, if_pos (nI_le (by omega) (by omega))]
    · have := (List.getElem?_eq_some_iff.mp h2).1
      omega
  | succ d ih =>
    intro k m A h hm hS hT hW hM
    obtain ⟨m, rfl⟩ : ∃ j, m = j + 1 := ⟨m - 1, by omega⟩
    have hkl : k < L.length := by omega
    have hx : L[k]? = some L[k] := List.getElem?_eq_getElem hkl
    obtain ⟨A1, a1, a2, a3, a4⟩ := s_fpLead (fl := fl) (B := B) (G := G) hN ht hs hb hL (f_X7_findPlaces_L91 N m) hx s 0 N A (by omega) (by omega) hS hT hW hM
    obtain ⟨A2, c1, c2, c3, c4⟩ := ih (k + 1) m A1 (by omega) (by omega) hS hT (by rw [a2 48 (by omega)]; exact hW) ⟨hM.1, fun j y hy => by rw [a2 69 (by omega)]; exact hM.2 j y hy⟩
    refine ⟨A2, ?_, fun i hi => (c2 i hi).trans (a2 i hi), fun j x v h1 h2 h3 => ?_, fun j hj => ?_⟩
    · rw [f_X7_findPlaces_L91, gx_44_40, sb, hM.1, if_neg (nI_ge (by omega) (by omega)), show (0 : Int32) = nI 0 from rfl, a1, c1]
    · by_cases e : j = k
      · subst e
        rw [hx] at h2
        obtain rfl := Option.some.inj h2
        rw [c4 _ (by omega), a3 v (Nat.zero_le _) h3]
      · exact c3 j x v (by omega) h2 h3
    · rw [c4 j (by omega), a4 j (fun u h1 h2 => by omega)]
end Ld
/-- the reference's findPlaces -/
theorem s_findPlaces {fl : Nat → Bool} {N s t : Nat} {R n : Nat → Nat} {A : Nat → Nat → Int32} {B : Nat → Nat → Int64} {G : Nat → Nat → Int32} (hN : 600 < N) (ht : t ≤ 24) (hs : s ≤ 4) (hn : ∀ i, i < t → 0 < n i) (hS : G 44 1 = nI s) (hT : G 44 3 = nI t) (hW : Ws s t (B 47) (A 48) R n) :
    ∃ A' B' G', f_X7_findPlaces N 44 (mem A B G fl) = some (mem A' B' G' fl) ∧ FrP A A' B B' G G' ∧ PlM A' B' G' (PLS R n t) ∧ GdL (PLS R n t) ∧ (PLS R n t).length ≤ 553 ∧ ∀ j x v, (PLS R n t)[j]? = some x → v < s → A' 70 (4 * j + v) = pI (ldO (PLS R n t) R n t (chd x v)) := by
  have hl := pls_len (R := R) (n := n) ht (fun i hi => ⟨(hW i hi).2.2.1, (hW i hi).2.2.2.1, hn i hi⟩)
  generalize hG0 : upA G 44 (upd (G 44) 40 0) = G0
  have fr0 : FrP A A B B G G0 := by
    subst hG0
    exact ⟨fun _ _ _ => rfl, fun _ _ => rfl, fun i a => upA_ne _ _ _ a, fun j a => by rw [upA_same, upd_ne _ _ _ a]⟩
  have pm0 : PlM A B G0 [] := by
    subst hG0
    exact ⟨by rw [upA_same, upd_eq]; rfl, fun k x hx => (by cases hx)⟩
  obtain ⟨A1, B1, G1, e1, e2, e3, e4⟩ := s_fpWords (fl := fl) hN ht t 0 N A B G0 [] (by omega) (by omega) (by rw [fr0.2.2.2 3 (by omega)]; exact hT) hW pm0 (fun x hx => (by cases hx)) (Nat.zero_le _)
  have fr1 := fr0.trans e2
  have hl2 : (vp R n t 0 []).length ≤ 553 := hl
  obtain ⟨A2, c1, c2, c3, c4⟩ := s_fpLeads (fl := fl) (B := B1) (G := G1) (s := s) hN ht hs e4 (by omega) (vp R n t 0 []).length 0 N A1 (by omega) (by omega) (by rw [fr1.2.2.2 1 (by omega)]; exact hS) (by rw [fr1.2.2.2 3 (by omega)]; exact hT) (hW.frP e2) e3
  refine ⟨A2, B1, G1, ?_, fr1.trans ⟨fun i _ b => c2 i b, fun _ _ => rfl, fun _ _ => rfl, fun _ _ => rfl⟩, ⟨e3.1, fun k x hx => by rw [c2 69 (by omega)]; exact e3.2 k x hx⟩, e4, hl, fun j x v h1 h2 => c3 j x v (Nat.zero_le _) h1 h2⟩
  unfold f_X7_findPlaces
  rw [px_44_40, sb, hG0, show (0 : Int32) = nI 0 from rfl, e1, c1]
