/-! FREE: the reference's table, read and filled -/
theorem lg_ge {a b : Nat} (ha : a < 2 ^ 63) (hb : b < 2 ^ 63) : 0 ≤ lg_cmp (lN a) (lN b) ↔ b ≤ a := by
  have h := lg_lt ha hb
  constructor
  · intro q
    rcases Nat.lt_or_ge a b with r | r
    · exact absurd (h.mpr r) (Int32.not_lt.mpr q)
    · exact r
  · intro q
    exact Int32.not_lt.mp (fun r => by have := h.mp r; omega)
section Tb
variable (b1 b2 b3 : Nat) (lc : Nat → Nat) (un D al t : Nat)
/-- what is told of the numbers -/
def RfH : Prop := RfS lc un D t ∧ (al = 0 ∨ al = 1) ∧ (al = 1 → D ≤ 24 ∧ b2 = 0 ∧ b3 = 0) ∧ (al ≠ 1 → t ≤ 8) ∧ b1 ≤ 4 ∧ b2 ≤ 4 ∧ b3 ≤ 4 ∧ 1 ≤ D
/-- what the reference's cells hold -/
def RfC (A : Nat → Nat → Int32) (B : Nat → Nat → Int64) (G : Nat → Nat → Int32) : Prop := G 44 3 = nI t ∧ G 44 14 = nI al ∧ G 44 15 = nI un ∧ G 44 16 = nI D ∧ A 54 1 = nI b1 ∧ A 54 2 = nI b2 ∧ A 54 3 = nI b3 ∧ ∀ x, x ≤ t → B 53 x = lN (lc t - lc (t - x))
/-- where k WORDS and m rows continued lead -/
def smF (b c R k m : Nat) : Nat := min (b + b1 * m) (R - k) + min (c + b2 * m) (R - k) + min (b3 * m) (R - k)
def tgF (p b c x k m : Nat) : Nat := ixF al (p + 1) (min (b + b1 * m) (t - x - k)) (min (c + b2 * m) (t - x - k)) (min (b3 * m) (t - x - k)) (x + k)
variable {b1 b2 b3 lc un D al t}
theorem RfC.fr {A A' : Nat → Nat → Int32} {B B' : Nat → Nat → Int64} {G G' : Nat → Nat → Int32} (h : RfC b1 b2 b3 lc un D al t A B G) (h1 : A' 54 = A 54) (h2 : B' 53 = B 53) (h3 : G' 44 3 = G 44 3) (h4 : G' 44 14 = G 44 14) (h5 : G' 44 15 = G 44 15) (h6 : G' 44 16 = G 44 16) : RfC b1 b2 b3 lc un D al t A' B' G' := by
  unfold RfC at *
  rw [h1, h2, h3, h4, h5, h6]
  exact h
theorem VT.next {a b c x k m : Nat} (hH : RfH b1 b2 b3 lc un D al t) (h : VT al t a b c x) (hk : k < t - x) : VT al t (min (b + b1 * m) (t - x - k)) (min (c + b2 * m) (t - x - k)) (min (b3 * m) (t - x - k)) (x + k) := by
  obtain ⟨h1, h2, h3⟩ := h
  obtain ⟨g1, g2, g3, g4, -⟩ := hH
  have ht : t ≤ 24 := g1.2.2.2.2.2.2
  refine ⟨by omega, fun q => ?_, fun q => ?_⟩
  · obtain ⟨r1, r2, r3⟩ := h2 q
    obtain ⟨-, s2, s3⟩ := g3 q
    rw [s2, s3, Nat.zero_mul]
    omega
  · have := g4 q
    omega
variable {fl : Nat → Bool} {N : Nat} {A : Nat → Nat → Int32} {B : Nat → Nat → Int64} {G : Nat → Nat → Int32}
theorem s_at (hal : al = 0 ∨ al = 1) (hG : G 44 14 = nI al) (p a b c x : Nat) : f_X7_at N 44 (nI p) (nI a) (nI b) (nI c) (nI x) (mem A B G fl) = some (nI (ixF al p a b c x), mem A B G fl) := by
  unfold f_X7_at ixF
  rw [gx_44_14, sb, hG]
  rcases hal with h | h
  · rw [h, if_pos (show (nI 0 : Int32) = 0 from rfl), if_neg (by decide), show (9 : Int32) = nI 9 from rfl, pk_mul, nI_add, pk_mul, nI_add, pk_mul, nI_add, pk_mul, nI_add]
  · rw [h, if_neg (show ¬ (nI 1 : Int32) = 0 by decide), if_pos rfl, show (25 : Int32) = nI 25 from rfl, pk_mul, nI_add, pk_mul, nI_add]
theorem s_bhM (hH : RfH b1 b2 b3 lc un D al t) (hC : RfC b1 b2 b3 lc un D al t A B G) {p a b c x k m : Nat} (hv : VT al t a b c x) (hk : k ≤ t - x) (hm : m ≤ 24) : f_X7_behind N 44 (nI p) (nI a) (nI b) (nI c) (nI x) (nI k) (nI m) (mem A B G fl) = some (if smF b1 b2 b3 b c (t - x) k m = 0 then (-1 : Int32) else nI (tgF b1 b2 b3 al t p b c x k m), mem A B G fl) := by
  obtain ⟨c1, c2, c3, c4, c5, c6, c7, c8⟩ := hC
  obtain ⟨g1, g2, g3, g4, g5, g6, g7, -⟩ := hH
  obtain ⟨v1, v2, v3⟩ := hv
  have ht : t ≤ 24 := g1.2.2.2.2.2.2
  have hbc : b ≤ 24 ∧ c ≤ 24 := by
    by_cases q : al = 1
    · have := v2 q; omega
    · have := v3 q; omega
  have m1 : b1 * m ≤ 4 * 24 := Nat.mul_le_mul g5 hm
  have m2 : b2 * m ≤ 4 * 24 := Nat.mul_le_mul g6 hm
  have m3 : b3 * m ≤ 4 * 24 := Nat.mul_le_mul g7 hm
  unfold f_X7_behind
  rw [gx_44_3, sb, c1, pk_sub (by omega), pk_sub (by omega), gx_44_17, sb, show (1 : Int32) = nI 1 from rfl, ldI_n (ly54 fl) (by omega) (by decide), sb, c5, pk_mul, nI_add, least_n (by rw [Nat.mul_comm m b1]; omega) (by omega), b2s, gx_44_17, sb, show (2 : Int32) = nI 2 from rfl, ldI_n (ly54 fl) (by omega) (by decide), sb, c6, pk_mul, nI_add, least_n (by rw [Nat.mul_comm m b2]; omega) (by omega), b2s, gx_44_17, sb, show (3 : Int32) = nI 3 from rfl, ldI_n (ly54 fl) (by omega) (by decide), sb, c7, pk_mul, least_n (by rw [Nat.mul_comm m b3]; omega) (by omega), b2s, nI_add, nI_add, Nat.mul_comm m b1, Nat.mul_comm m b2, Nat.mul_comm m b3]
  unfold smF tgF
  by_cases hz : min (b + b1 * m) (t - x - k) + min (c + b2 * m) (t - x - k) + min (b3 * m) (t - x - k) = 0
  · rw [if_pos (by rw [hz]; rfl), if_pos hz]
  · rw [if_neg (nI_ne0 (by omega) (by omega)), if_neg hz, ck_44, sb, nI_add, nI_add, s_at g2 c2, b2s]
/-- the table is right one level on -/
def BsF (b1 b2 b3 : Nat) (lc : Nat → Nat) (un D al t : Nat) (B : Nat → Nat → Int64) (p b c x k m : Nat) : Prop := p < D → k < t - x → smF b1 b2 b3 b c (t - x) k m ≠ 0 → B 51 (tgF b1 b2 b3 al t p b c x k m) = lN (bvF b1 b2 b3 lc un D (p + 1) (min (b + b1 * m) (t - x - k)) (min (c + b2 * m) (t - x - k)) (min (b3 * m) (t - x - k)) (t - x - k))
theorem s_costOf (hH : RfH b1 b2 b3 lc un D al t) (hC : RfC b1 b2 b3 lc un D al t A B G) {p a b c x k m : Nat} (hv : VT al t a b c x) (hp : p ≤ D) (hk : k ≤ t - x) (hm : m ≤ 24) (hB : BsF b1 b2 b3 lc un D al t B p b c x k m) : f_X7_costOf N 44 (nI p) (nI a) (nI b) (nI c) (nI x) (nI k) (nI m) (mem A B G fl) = some (lN (cvF b1 b2 b3 lc un D p b c (t - x) k m), mem A B G fl) := by
  have hbh := s_bhM (fl := fl) (N := N) (p := p) hH hC hv hk hm
  have hv0 := hv
  have hH0 := hH
  obtain ⟨c1, c2, c3, c4, c5, c6, c7, c8⟩ := hC
  obtain ⟨g1, g2, g3, g4, g5, g6, g7, -⟩ := hH
  obtain ⟨v1, v2, v3⟩ := hv
  have ht : t ≤ 24 := g1.2.2.2.2.2.2
  have hD : D ≤ 31 := g1.2.2.2.2.2.1
  have hu9 : un ≤ 9 := g1.2.2.2.2.1
  have l0 : lc 0 = 0 := g1.2.1
  have q1 := g1.mono (t - x) t (by omega)
  have q2 := g1.mono (t - x - k) (t - x) (by omega)
  have hl : lc t ≤ 24000000 := g1.2.2.1
  unfold f_X7_costOf
  rw [gx_44_15, sb, c3, gx_44_13, sb, nI_add, ldJ_n (ly53 fl) (by omega) (by decide), sb, c8 _ (by omega), sb, ldJ_n (ly53 fl) (by omega) (by decide), sb, c8 _ (by omega), gx_44_3, sb, c1, nI_l (by omega), nI_l (by omega), lN_mul, show t - (x + k) = t - x - k by omega, lN_sub (by omega), lN_mul, show lc t - lc (t - x - k) - (lc t - lc (t - x)) = lc (t - x) - lc (t - x - k) by omega]
  by_cases hxk : k = t - x
  · rw [if_pos (by rw [show x + k = t by omega]), show t - x - k = 0 by omega, l0, Nat.sub_zero]
    unfold cvF
    rw [if_pos (by omega), Nat.mul_comm p un, Nat.mul_assoc]
  · rw [if_neg (fun q => hxk (by have := (nI_eq (by omega) (by omega)).mp q; omega)), gx_44_16, sb, c4]
    have hneg : ∀ (y : Int64) (M : A_M), f_X7_costOf_K71 N 44 y (-1 : Int32) M = some (lN EV, M) := by
      intro y M
      unfold f_X7_costOf_K71
      rw [if_pos (by decide)]
      rfl
    by_cases hpD : p < D
    · rw [if_neg (nI_ge hpD (by omega)), ck_44, sb, hbh, b2s]
      have hcap := gF_cap b1 b2 b3 lc (D - (p + 1)) (min (b + b1 * m) (t - x - k)) (min (c + b2 * m) (t - x - k)) (min (b3 * m) (t - x - k)) (b + b1 * m) (c + b2 * m) (b3 * m) (t - x - k) (by omega) (by omega) (by omega)
      by_cases hz : smF b1 b2 b3 b c (t - x) k m = 0
      · rw [if_pos hz, hneg, cv_out (by omega)]
        rintro ⟨-, q⟩
        unfold smF at hz
        rw [← hcap, show min (b + b1 * m) (t - x - k) = 0 by omega, show min (c + b2 * m) (t - x - k) = 0 by omega, show min (b3 * m) (t - x - k) = 0 by omega, gF_dead b1 b2 b3 lc _ _ (by omega)] at q
        exact Nat.lt_irrefl _ q
      · have hBt := hB hpD (by omega) hz
        have htl := (hv0.next (m := m) hH0 (show k < t - x by omega)).lt (p := p + 1) ht g4 (fun q => by have := g3 q; omega) (by omega)
        rw [if_neg hz]
        unfold f_X7_costOf_K71
        rw [if_neg (nI_pos (by have := htl.1; unfold tgF; omega)), gx_44_11, sb, ldJ_n (ly51 fl) (by unfold tgF; exact htl.1) (by decide), sb, hBt, show (1152921504606846976 : Int64) = lN EV from rfl]
        have hbs := g1.bv (b1 := b1) (b2 := b2) (b3 := b3) (p := p + 1) (a := min (b + b1 * m) (t - x - k)) (b := min (c + b2 * m) (t - x - k)) (c := min (b3 * m) (t - x - k)) (R := t - x - k) (by omega) (by omega)
        have hgs := g1.g (b1 := b1) (b2 := b2) (b3 := b3) (d := D - (p + 1)) (a := b + b1 * m) (b := c + b2 * m) (c := b3 * m) (R := t - x - k) (by omega) (by omega)
        have hbd : bvF b1 b2 b3 lc un D (p + 1) (min (b + b1 * m) (t - x - k)) (min (c + b2 * m) (t - x - k)) (min (b3 * m) (t - x - k)) (t - x - k) = if gF b1 b2 b3 lc (D - (p + 1)) (b + b1 * m) (c + b2 * m) (b3 * m) (t - x - k) < EV then un * ((p + 1) * lc (t - x - k) + gF b1 b2 b3 lc (D - (p + 1)) (b + b1 * m) (c + b2 * m) (b3 * m) (t - x - k)) else EV := by
          unfold bvF
          rw [hcap]
        by_cases hg : gF b1 b2 b3 lc (D - (p + 1)) (b + b1 * m) (c + b2 * m) (b3 * m) (t - x - k) < EV
        · rw [if_pos hg] at hbd
          have hsm := g1.sm (p := p + 1) (R := t - x - k) (x := gF b1 b2 b3 lc (D - (p + 1)) (b + b1 * m) (c + b2 * m) (b3 * m) (t - x - k)) (by omega) (by omega) (by omega)
          rw [hbd, if_pos ((lg_lt (by omega) (by unfold EV; omega)).mpr (by unfold EV; omega)), sb, ldJ_n (ly51 fl) (by unfold tgF; exact htl.1) (by decide), sb, hBt, hbd, lN_add, cv_in (by omega) hpD hg]
          generalize gF b1 b2 b3 lc (D - (p + 1)) (b + b1 * m) (c + b2 * m) (b3 * m) (t - x - k) = g
          obtain ⟨z, hzz⟩ : ∃ z, lc (t - x) = lc (t - x - k) + z := ⟨lc (t - x) - lc (t - x - k), by omega⟩
          rw [hzz, Nat.add_sub_cancel_left]
          congr 3
          rw [Nat.mul_comm p un, Nat.mul_assoc, ← Nat.mul_add]
          congr 1
          rw [Nat.add_mul, Nat.mul_add]
          omega
        · rw [if_neg hg] at hbd
          rw [hbd, if_neg (fun q => by have := (lg_lt (by unfold EV; omega) (by unfold EV; omega)).mp q; omega), cv_out (by omega) (fun q => hg q.2)]
    · rw [if_pos (nI_le (by omega) (by omega)), hneg, cv_out (by omega) (fun q => hpD q.1)]
end Tb
