/-! FREE: the reference's table -/
def ixF (al p a b c x : Nat) : Nat := if al = 1 then (p * 25 + a) * 25 + x else (((p * 9 + a) * 9 + b) * 9 + c) * 9 + x
/-- the level of a place -/
def lvJ (al j : Nat) : Nat := if al = 1 then j / 625 else j / 6561
/-- in range -/
def VT (al t a b c x : Nat) : Prop := x < t ∧ (al = 1 → a ≤ 24 ∧ b = 0 ∧ c = 0) ∧ (al ≠ 1 → a ≤ 8 ∧ b ≤ 8 ∧ c ≤ 8)
theorem VT.lv {al t p a b c x : Nat} (h : VT al t a b c x) (ht : t ≤ 24) (h8 : al ≠ 1 → t ≤ 8) : lvJ al (ixF al p a b c x) = p := by
  obtain ⟨h1, h2, h3⟩ := h
  unfold lvJ ixF
  by_cases h : al = 1
  · rw [if_pos h, if_pos h]; have := h2 h; omega
  · rw [if_neg h, if_neg h]; have := h3 h; have := h8 h; omega
theorem VT.lt {al t p a b c x : Nat} (h : VT al t a b c x) (ht : t ≤ 24) (h8 : al ≠ 1 → t ≤ 8) (hp : al = 1 → p ≤ 24) (hp2 : p ≤ 31) : ixF al p a b c x < 216600 ∧ (al = 1 → ixF al p a b c x < 15625) := by
  obtain ⟨h1, h2, h3⟩ := h
  unfold ixF
  by_cases h : al = 1
  · rw [if_pos h]; have := h2 h; have := hp h; omega
  · rw [if_neg h]; have := h3 h; have := h8 h; omega
theorem VT.inj {al t p a b c x a' b' c' x' : Nat} (h : VT al t a b c x) (h' : VT al t a' b' c' x') (ht : t ≤ 24) (h8 : al ≠ 1 → t ≤ 8) (he : ixF al p a b c x = ixF al p a' b' c' x') : a = a' ∧ b = b' ∧ c = c' ∧ x = x' := by
  obtain ⟨h1, h2, h3⟩ := h
  obtain ⟨g1, g2, g3⟩ := h'
  unfold ixF at he
  by_cases h : al = 1
  · rw [if_pos h, if_pos h] at he; have := h2 h; have := g2 h; omega
  · rw [if_neg h, if_neg h] at he; have := h3 h; have := g3 h; have := h8 h; omega
/-- the least of some rows of numbers -/
def nT (f : Nat → Nat → Nat) (g : Nat → Nat) : Nat → Nat → Nat → Nat
  | 0, _, x => x
  | d + 1, k, x => nT f g d (k + 1) (mnF (f k) (g k + 1) 0 x)
theorem le_nT {f : Nat → Nat → Nat} {g : Nat → Nat} {y : Nat} : ∀ (d k x : Nat), y ≤ nT f g d k x ↔ y ≤ x ∧ ∀ k' m, k ≤ k' → k' < k + d → m ≤ g k' → y ≤ f k' m := by
  intro d
  induction d with
  | zero => intro k x; exact ⟨fun h => ⟨h, fun k' m h1 h2 _ => by omega⟩, fun h => h.1⟩
  | succ d ih =>
    intro k x
    rw [nT, ih, le_mnF]
    constructor
    · rintro ⟨⟨h1, h2⟩, h3⟩
      refine ⟨h1, fun k' m q1 q2 q3 => ?_⟩
      by_cases hk : k' = k
      · rw [hk] at q3 ⊢; exact h2 m (Nat.zero_le _) (by omega)
      · exact h3 k' m (by omega) (by omega) q3
    · rintro ⟨h1, h2⟩
      exact ⟨⟨h1, fun m _ q => h2 k m (Nat.le_refl _) (by omega) (by omega)⟩, fun k' m q1 q2 q3 => h2 k' m (by omega) (by omega) q3⟩
section Rf
variable (b1 b2 b3 : Nat) (lc : Nat → Nat) (un D : Nat)
/-- what k WORDS here and m rows continued cost -/
def cvF (p b c R k m : Nat) : Nat := if R ≤ k then un * (p * lc R) else if p < D then (if gF b1 b2 b3 lc (D - (p + 1)) (b + b1 * m) (c + b2 * m) (b3 * m) (R - k) < EV then un * (p * lc R + lc (R - k) + gF b1 b2 b3 lc (D - (p + 1)) (b + b1 * m) (c + b2 * m) (b3 * m) (R - k)) else EV) else EV
def mwF (p a R : Nat) : Nat := if p = 0 then 0 else min a R
def mmF (p a R k : Nat) : Nat := if p = D then 0 else min (a - k) (R - k)
/-- what the table holds -/
def bWF (p a b c R : Nat) : Nat := nT (fun k m => cvF b1 b2 b3 lc un D p b c R k m) (fun k => mmF D p a R k) (mwF p a R + 1) 0 EV
def bvF (p a b c R : Nat) : Nat := if gF b1 b2 b3 lc (D - p) a b c R < EV then un * (p * lc R + gF b1 b2 b3 lc (D - p) a b c R) else EV
/-- numbers are small -/
def RfS (t : Nat) : Prop := (∀ x y, x < y → lc x < lc y) ∧ lc 0 = 0 ∧ lc t ≤ 24000000 ∧ 1 ≤ un ∧ un ≤ 9 ∧ D ≤ 31 ∧ t ≤ 24
variable {b1 b2 b3 lc un D}
theorem RfS.mono {t : Nat} (h : RfS lc un D t) : ∀ x y, x ≤ y → lc x ≤ lc y := fun x y hxy => by
  rcases Nat.lt_or_eq_of_le hxy with q | q
  · exact Nat.le_of_lt (h.1 x y q)
  · rw [q]; exact Nat.le_refl _
theorem RfS.g {t : Nat} (h : RfS lc un D t) {d a b c R : Nat} (hd : d ≤ 31) (hR : R ≤ t) : gF b1 b2 b3 lc d a b c R = EV ∨ gF b1 b2 b3 lc d a b c R ≤ 744000000 := by
  have hl : lc R ≤ 24000000 := Nat.le_trans (h.mono _ _ hR) h.2.2.1
  have hm : d * lc R ≤ 31 * 24000000 := Nat.mul_le_mul hd hl
  rcases gF_fin b1 b2 b3 lc h.mono d a b c R (by unfold EV; omega) with q | q
  · exact Or.inl q
  · exact Or.inr (by omega)
theorem RfS.sm {t : Nat} (h : RfS lc un D t) {p R x : Nat} (hp : p ≤ 31) (hR : R ≤ t) (hx : x ≤ 1000000000) : un * (p * lc R + x) ≤ 16000000000 := by
  have hl : lc R ≤ 24000000 := Nat.le_trans (h.mono _ _ hR) h.2.2.1
  have hm : p * lc R ≤ 31 * 24000000 := Nat.mul_le_mul hp hl
  have h5 : un ≤ 9 := h.2.2.2.2.1
  have : un * (p * lc R + x) ≤ 9 * (31 * 24000000 + 1000000000) := Nat.mul_le_mul h5 (by omega)
  omega
theorem RfS.bv {t : Nat} (h : RfS lc un D t) {p a b c R : Nat} (hp : p ≤ 31) (hR : R ≤ t) : bvF b1 b2 b3 lc un D p a b c R = EV ∨ bvF b1 b2 b3 lc un D p a b c R ≤ 16000000000 := by
  unfold bvF
  by_cases hg : gF b1 b2 b3 lc (D - p) a b c R < EV
  · rw [if_pos hg]
    have := h.2.2.2.2.2.1
    rcases h.g (b1 := b1) (b2 := b2) (b3 := b3) (d := D - p) (a := a) (b := b) (c := c) (R := R) (by omega) hR with q | q
    · omega
    · exact Or.inr (h.sm hp hR (by omega))
  · rw [if_neg hg]; exact Or.inl rfl
theorem RfS.cv {t : Nat} (h : RfS lc un D t) {p b c R k m : Nat} (hp : p ≤ 31) (hR : R ≤ t) : cvF b1 b2 b3 lc un D p b c R k m = EV ∨ cvF b1 b2 b3 lc un D p b c R k m ≤ 16000000000 := by
  unfold cvF
  by_cases hk : R ≤ k
  · rw [if_pos hk]; exact Or.inr (h.sm (x := 0) hp hR (by omega))
  · rw [if_neg hk]
    by_cases hd : p < D
    · rw [if_pos hd]
      by_cases hg : gF b1 b2 b3 lc (D - (p + 1)) (b + b1 * m) (c + b2 * m) (b3 * m) (R - k) < EV
      · rw [if_pos hg]
        have := h.2.2.2.2.2.1
        have hl : lc (R - k) ≤ 24000000 := Nat.le_trans (h.mono _ _ (by omega)) h.2.2.1
        rcases h.g (b1 := b1) (b2 := b2) (b3 := b3) (d := D - (p + 1)) (a := b + b1 * m) (b := c + b2 * m) (c := b3 * m) (R := R - k) (by omega) (by omega) with q | q
        · omega
        · rw [Nat.add_assoc]; exact Or.inr (h.sm hp hR (by omega))
      · rw [if_neg hg]; exact Or.inl rfl
    · rw [if_neg hd]; exact Or.inl rfl
theorem cv_in {p b c R k m : Nat} (hk : ¬ R ≤ k) (hd : p < D) (hg : gF b1 b2 b3 lc (D - (p + 1)) (b + b1 * m) (c + b2 * m) (b3 * m) (R - k) < EV) : cvF b1 b2 b3 lc un D p b c R k m = un * (p * lc R + (lc (R - k) + gF b1 b2 b3 lc (D - (p + 1)) (b + b1 * m) (c + b2 * m) (b3 * m) (R - k))) := by
  unfold cvF
  rw [if_neg hk, if_pos hd, if_pos hg, Nat.add_assoc]
theorem cv_out {p b c R k m : Nat} (hk : ¬ R ≤ k) (hg : ¬ (p < D ∧ gF b1 b2 b3 lc (D - (p + 1)) (b + b1 * m) (c + b2 * m) (b3 * m) (R - k) < EV)) : cvF b1 b2 b3 lc un D p b c R k m = EV := by
  unfold cvF
  rw [if_neg hk]
  by_cases hd : p < D
  · rw [if_pos hd, if_neg (fun q => hg ⟨hd, q⟩)]
  · rw [if_neg hd]
/-- a way ahead costs no less than the least one -/
theorem cw_m {d a b c R k m : Nat} (hk : k ≤ a) (hm : m ≤ a - k) : cwF b1 b2 b3 lc d a b c R k ≤ adE (lc (R - k)) (gF b1 b2 b3 lc d (b + b1 * m) (c + b2 * m) (b3 * m) (R - k)) := by
  have m1 : b1 * m ≤ b1 * (a - k) := Nat.mul_le_mul_left _ hm
  have m2 : b2 * m ≤ b2 * (a - k) := Nat.mul_le_mul_left _ hm
  have m3 : b3 * m ≤ b3 * (a - k) := Nat.mul_le_mul_left _ hm
  have := gF_anti b1 b2 b3 lc d (b + b1 * m) (c + b2 * m) (b3 * m) (b + b1 * (a - k)) (c + b2 * (a - k)) (b3 * (a - k)) (R - k) (by omega) (by omega) m3
  unfold cwF adE
  omega
theorem bv_le {t : Nat} (h : RfS lc un D t) {p a b c R k m : Nat} (hp : p ≤ D) (hR : R ≤ t) (hk : k ≤ min a R) (hm : m ≤ mmF D p a R k) : bvF b1 b2 b3 lc un D p a b c R ≤ cvF b1 b2 b3 lc un D p b c R k m := by
  have h31 : D ≤ 31 := h.2.2.2.2.2.1
  by_cases hRk : R ≤ k
  · unfold bvF cvF
    rw [if_pos hRk, gF_0 b1 b2 b3 lc (show R ≤ a by omega), if_pos (by decide), Nat.add_zero]
    exact Nat.le_refl _
  · by_cases hg : p < D ∧ gF b1 b2 b3 lc (D - (p + 1)) (b + b1 * m) (c + b2 * m) (b3 * m) (R - k) < EV
    · rw [cv_in hRk hg.1 hg.2]
      have hx : gF b1 b2 b3 lc (D - p) a b c R ≤ lc (R - k) + gF b1 b2 b3 lc (D - (p + 1)) (b + b1 * m) (c + b2 * m) (b3 * m) (R - k) := by
        by_cases hRa : R ≤ a
        · rw [gF_0 b1 b2 b3 lc hRa]; exact Nat.zero_le _
        · have h1 := cw_ge b1 b2 b3 lc (d := D - (p + 1)) (b := b) (c := c) hRa (w := k) (by omega)
          rw [show D - (p + 1) + 1 = D - p by omega] at h1
          unfold mmF at hm
          rw [if_neg (by omega)] at hm
          have h2 := cw_m (b1 := b1) (b2 := b2) (b3 := b3) (lc := lc) (d := D - (p + 1)) (b := b) (c := c) (R := R) (k := k) (a := a) (m := m) (by omega) (by omega)
          unfold adE at h2
          omega
      have hl : lc (R - k) ≤ 24000000 := Nat.le_trans (h.mono _ _ (by omega)) h.2.2.1
      have hs : gF b1 b2 b3 lc (D - p) a b c R < EV := by
        rcases h.g (b1 := b1) (b2 := b2) (b3 := b3) (d := D - (p + 1)) (a := b + b1 * m) (b := c + b2 * m) (c := b3 * m) (R := R - k) (by omega) (by omega) with q | q
        · omega
        · unfold EV; omega
      unfold bvF
      rw [if_pos hs]
      exact Nat.mul_le_mul_left _ (by omega)
    · rw [cv_out hRk hg]
      rcases h.bv (b1 := b1) (b2 := b2) (b3 := b3) (p := p) (a := a) (b := b) (c := c) (R := R) (by omega) hR with q | q
      · rw [q]; exact Nat.le_refl _
      · unfold EV; omega
theorem bW_eq {t : Nat} (h : RfS lc un D t) {p a b c R : Nat} (hp1 : 1 ≤ p) (hp : p ≤ D) (hR : R ≤ t) : bWF b1 b2 b3 lc un D p a b c R = bvF b1 b2 b3 lc un D p a b c R := by
  have h31 : D ≤ 31 := h.2.2.2.2.2.1
  refine eq_of_le (fun y => ?_)
  unfold bWF
  rw [le_nT]
  have hmw : mwF p a R = min a R := by unfold mwF; rw [if_neg (by omega)]
  rw [hmw]
  constructor
  · rintro ⟨y1, y2⟩
    by_cases hRa : R ≤ a
    · have := y2 R 0 (Nat.zero_le _) (by omega) (Nat.zero_le _)
      unfold cvF at this
      rw [if_pos (Nat.le_refl _)] at this
      unfold bvF
      rw [gF_0 b1 b2 b3 lc hRa, if_pos (by decide), Nat.add_zero]
      exact this
    · by_cases hg : gF b1 b2 b3 lc (D - p) a b c R < EV
      · have hpD : p < D := by
          rcases Nat.lt_or_ge p D with q | q
          · exact q
          · rw [show D - p = 0 by omega, gF, if_neg hRa] at hg
            exact absurd hg (Nat.lt_irrefl _)
        have hg' := hg
        rw [show D - p = D - (p + 1) + 1 by omega] at hg'
        obtain ⟨w1, w2⟩ := chW_ok b1 b2 b3 lc hRa hg'
        rw [show D - (p + 1) + 1 = D - p by omega] at w1 w2
        generalize chW b1 b2 b3 lc (D - p) a b c R = w at w1 w2
        have hmm : a - w ≤ mmF D p a R w := by unfold mmF; rw [if_neg (by omega)]; omega
        have := y2 w (a - w) (Nat.zero_le _) (by omega) hmm
        have hgl := gF_le b1 b2 b3 lc (D - (p + 1)) (b + b1 * (a - w)) (c + b2 * (a - w)) (b3 * (a - w)) (R - w)
        unfold cwF adE at w2
        have hgs : gF b1 b2 b3 lc (D - (p + 1)) (b + b1 * (a - w)) (c + b2 * (a - w)) (b3 * (a - w)) (R - w) < EV := by omega
        rw [cv_in (by omega) hpD hgs, show lc (R - w) + gF b1 b2 b3 lc (D - (p + 1)) (b + b1 * (a - w)) (c + b2 * (a - w)) (b3 * (a - w)) (R - w) = gF b1 b2 b3 lc (D - p) a b c R by omega] at this
        unfold bvF
        rw [if_pos hg]
        exact this
      · unfold bvF
        rw [if_neg hg]
        exact y1
  · intro hy
    refine ⟨?_, fun k m _ k2 k3 => Nat.le_trans hy (bv_le h hp hR (by omega) k3)⟩
    rcases h.bv (b1 := b1) (b2 := b2) (b3 := b3) (p := p) (a := a) (b := b) (c := c) (R := R) (by omega) hR with q | q
    · omega
    · unfold EV; omega
/-- only one number of rows continued is the least -/
theorem cv_iff {t : Nat} (h : RfS lc un D t) {p a b c R k m : Nat} (hp : p < D) (hR : R ≤ t) (hRa : ¬ R ≤ a) (hk : k ≤ a) (hm : m ≤ a - k) (hg : gF b1 b2 b3 lc (D - p) a b c R < EV) : cvF b1 b2 b3 lc un D p b c R k m = bvF b1 b2 b3 lc un D p a b c R ↔ m = a - k ∧ cwF b1 b2 b3 lc (D - p - 1) a b c R k = gF b1 b2 b3 lc (D - p) a b c R := by
  have h31 : D ≤ 31 := h.2.2.2.2.2.1
  have hun : 1 ≤ un := h.2.2.2.1
  have hbv : bvF b1 b2 b3 lc un D p a b c R = un * (p * lc R + gF b1 b2 b3 lc (D - p) a b c R) := by unfold bvF; rw [if_pos hg]
  have hgs := h.g (b1 := b1) (b2 := b2) (b3 := b3) (d := D - p) (a := a) (b := b) (c := c) (R := R) (by omega) hR
  have hbs := h.sm (p := p) (R := R) (x := gF b1 b2 b3 lc (D - p) a b c R) (by omega) hR (by omega)
  rw [show D - p - 1 = D - (p + 1) by omega]
  have hgS : ∀ w, w ≤ a → gF b1 b2 b3 lc (D - p) a b c R ≤ cwF b1 b2 b3 lc (D - (p + 1)) a b c R w := fun w hw => by
    have h1 := cw_ge b1 b2 b3 lc (d := D - (p + 1)) (b := b) (c := c) hRa (w := w) hw
    rw [show D - (p + 1) + 1 = D - p by omega] at h1
    exact h1
  by_cases hgk : gF b1 b2 b3 lc (D - (p + 1)) (b + b1 * m) (c + b2 * m) (b3 * m) (R - k) < EV
  · rw [cv_in (by omega) hp hgk, hbv]
    have hgks := h.g (b1 := b1) (b2 := b2) (b3 := b3) (d := D - (p + 1)) (a := b + b1 * m) (b := c + b2 * m) (c := b3 * m) (R := R - k) (by omega) (by omega)
    have hl : lc (R - k) ≤ 24000000 := Nat.le_trans (h.mono _ _ (by omega)) h.2.2.1
    have had : adE (lc (R - k)) (gF b1 b2 b3 lc (D - (p + 1)) (b + b1 * m) (c + b2 * m) (b3 * m) (R - k)) = lc (R - k) + gF b1 b2 b3 lc (D - (p + 1)) (b + b1 * m) (c + b2 * m) (b3 * m) (R - k) := by
      unfold adE
      unfold EV at hgks hgk ⊢
      omega
    constructor
    · intro he
      have he2 := Nat.eq_of_mul_eq_mul_left hun he
      have hmk : m = a - k := by
        rcases Nat.lt_or_ge m (a - k) with q | q
        · exfalso
          have q1 := hgS (k + 1) (by omega)
          have q2 := cw_m (b1 := b1) (b2 := b2) (b3 := b3) (lc := lc) (d := D - (p + 1)) (b := b) (c := c) (R := R) (k := k + 1) (a := a) (m := m) (by omega) (by omega)
          have q3 := gF_less b1 b2 b3 lc h.mono (D - (p + 1)) (b + b1 * m) (c + b2 * m) (b3 * m) (R - k) (R - (k + 1)) (by omega)
          have q4 := h.1 (R - (k + 1)) (R - k) (by omega)
          unfold adE at q2
          omega
        · omega
      refine ⟨hmk, ?_⟩
      unfold cwF
      rw [← hmk, had]
      omega
    · rintro ⟨rfl, he⟩
      unfold cwF at he
      rw [had] at he
      rw [he]
  · rw [cv_out (by omega) (fun q => hgk q.2), hbv]
    constructor
    · intro he
      exfalso
      unfold EV at he
      omega
    · rintro ⟨rfl, he⟩
      exfalso
      unfold cwF adE at he
      have := gF_le b1 b2 b3 lc (D - (p + 1)) (b + b1 * (a - k)) (c + b2 * (a - k)) (b3 * (a - k)) (R - k)
      omega
end Rf
