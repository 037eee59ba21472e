/-! FREE: the class's least, with its memo -/
def depB (bd : Nat) : Nat := if bd = 0 then 40 else bd
def Mlt (s a : Nat) : Prop := ∃ m, a = s * m
section Le
variable (b1 b2 b3 : Nat) (lc : Nat → Nat) (s t bd ul st : Nat)
def LvH : Prop := 2 ≤ s ∧ s ≤ 4 ∧ t ≤ 24 ∧ (ul = 0 ∨ ul = 1) ∧ (ul = 1 → t ≤ 8 ∧ bd = 0) ∧ (ul = 0 → b1 = s ∧ b2 = 0 ∧ b3 = 0) ∧ b1 ≤ 4 ∧ b2 ≤ 4 ∧ b3 ≤ 4 ∧ bd ≤ 24 ∧ (∀ x y, x < y → lc x < lc y) ∧ lc t ≤ 24000000 ∧ st < 2 ^ 30
def SV (l a b c R : Nat) : Prop := 1 ≤ l ∧ l ≤ depB bd ∧ R ≤ t ∧ a ≤ R ∧ b ≤ R ∧ c ≤ R ∧ (ul = 0 → b = 0 ∧ c = 0 ∧ (a < R → Mlt s a)) ∧ (bd = 0 → Ends b1 b2 b3 (40 - l) a b c R)
def keyF (l a b c R : Nat) : Nat := if ul = 0 then (if bd = 0 then 0 else l * 300) + R * 12 + a / 2 else (((R - 1) * 8 + a) * 9 + b) * 9 + c
def MO (A : Nat → Nat → Int32) (B : Nat → Nat → Int64) : Prop := ∀ l a b c R, SV b1 b2 b3 s t bd ul l a b c R → a < R → l < depB bd → A 84 (keyF bd ul l a b c R) = nI st → B 83 (keyF bd ul l a b c R) = lN (gF b1 b2 b3 lc (depB bd - l) a b c R)
def LvQ (A : Nat → Nat → Int32) (B : Nat → Nat → Int64) (G : Nat → Nat → Int32) : Prop := G 82 7 = nI st ∧ G 82 9 = nI bd ∧ G 82 10 = nI ul ∧ A 88 1 = nI b1 ∧ A 88 2 = nI b2 ∧ A 88 3 = nI b3 ∧ (∀ q, q ≤ t → B 85 q = lN (lc q)) ∧ MO b1 b2 b3 lc s t bd ul st A B ∧ ∀ j, j < 7200 → ∃ q, q ≤ st ∧ A 84 j = nI q
def FrL (A A' : Nat → Nat → Int32) (B B' : Nat → Nat → Int64) : Prop := (∀ k, k ≠ 84 → A' k = A k) ∧ (∀ k, k ≠ 83 → B' k = B k)
theorem FrL.refl (A : Nat → Nat → Int32) (B : Nat → Nat → Int64) : FrL A A B B := ⟨fun _ _ => rfl, fun _ _ => rfl⟩
theorem FrL.trans {A A' A2 : Nat → Nat → Int32} {B B' B2 : Nat → Nat → Int64} (h : FrL A A' B B') (k : FrL A' A2 B' B2) : FrL A A2 B B2 := ⟨fun x a => (k.1 x a).trans (h.1 x a), fun x a => (k.2 x a).trans (h.2 x a)⟩
variable {b1 b2 b3 lc s t bd ul st}
theorem key_lt (hH : LvH b1 b2 b3 lc s t bd ul st) {l a b c R : Nat} (h : SV b1 b2 b3 s t bd ul l a b c R) (ha : a < R) (hl : l < depB bd) : keyF bd ul l a b c R < 7200 := by
  obtain ⟨h1, h2, h3, h4, h5, -, -, -, -, hbd, -⟩ := hH
  obtain ⟨g1, g2, g3, g4, g5, g6, -⟩ := h
  unfold depB at hl
  unfold keyF
  by_cases hu : ul = 0
  · rw [if_pos hu]
    by_cases hb : bd = 0
    · rw [if_pos hb]; omega
    · rw [if_neg hb] at hl ⊢; omega
  · rw [if_neg hu]
    have := h5 (by omega)
    omega
theorem key_inj (hH : LvH b1 b2 b3 lc s t bd ul st) {l a b c R l' a' b' c' R' : Nat} (h : SV b1 b2 b3 s t bd ul l a b c R) (ha : a < R) (h' : SV b1 b2 b3 s t bd ul l' a' b' c' R') (ha' : a' < R') (he : keyF bd ul l a b c R = keyF bd ul l' a' b' c' R') : gF b1 b2 b3 lc (depB bd - l) a b c R = gF b1 b2 b3 lc (depB bd - l') a' b' c' R' := by
  obtain ⟨h1, h2, h3, h4, h5, h6, h7, -⟩ := hH
  obtain ⟨g1, g2, g3, g4, g5, g6, g7, g8⟩ := h
  obtain ⟨k1, k2, k3, k4, k5, k6, k7, k8⟩ := h'
  have hst : a = a' ∧ b = b' ∧ c = c' ∧ R = R' ∧ (bd ≠ 0 → l = l') := by
    unfold keyF at he
    by_cases hu : ul = 0
    · rw [if_pos hu, if_pos hu] at he
      obtain ⟨q1, q2, q3⟩ := g7 hu
      obtain ⟨r1, r2, r3⟩ := k7 hu
      obtain ⟨m, hm⟩ := q3 ha
      obtain ⟨m', hm'⟩ := r3 ha'
      clear g7 k7 q3 r3 h6
      have hRl : R = R' ∧ a / 2 = a' / 2 ∧ (bd ≠ 0 → l = l') := by
        clear hm hm'
        by_cases hb : bd = 0
        · rw [if_pos hb, if_pos hb] at he
          exact ⟨by omega, by omega, fun q => absurd hb q⟩
        · rw [if_neg hb, if_neg hb, Nat.add_assoc, Nat.add_assoc] at he
          have x1 : R * 12 + a / 2 < 300 := by omega
          have x2 : R' * 12 + a' / 2 < 300 := by omega
          have x3 : l = l' ∧ R * 12 + a / 2 = R' * 12 + a' / 2 := by
            generalize R * 12 + a / 2 = x at he x1 ⊢
            generalize R' * 12 + a' / 2 = x' at he x2 ⊢
            clear g8 k8 g2 k2
            omega
          obtain ⟨x4, x5⟩ := x3
          exact ⟨by omega, by omega, fun _ => x4⟩
      obtain ⟨e1, e2, e3⟩ := hRl
      have e4 : a = a' := by
        have : s = 2 ∨ s = 3 ∨ s = 4 := by omega
        rcases this with rfl | rfl | rfl <;> omega
      exact ⟨e4, by omega, by omega, e1, e3⟩
    · rw [if_neg hu, if_neg hu] at he
      clear g7 k7 h6
      obtain ⟨q1, q2⟩ := h5 (by omega)
      exact ⟨by omega, by omega, by omega, by omega, fun q => absurd q2 q⟩
  obtain ⟨rfl, rfl, rfl, rfl, hll⟩ := hst
  by_cases hb : bd = 0
  · have e1 := ends_eq b1 b2 b3 lc _ _ _ _ _ (g8 hb) (40 - l) 40 (Nat.le_refl _) (by omega)
    have e2 := ends_eq b1 b2 b3 lc _ _ _ _ _ (k8 hb) (40 - l') 40 (Nat.le_refl _) (by omega)
    rw [show depB bd = 40 by unfold depB; rw [if_pos hb], e1, e2]
  · rw [hll hb]
/-- one level on -/
theorem SV.next (hH : LvH b1 b2 b3 lc s t bd ul st) {l a b c R w : Nat} (h : SV b1 b2 b3 s t bd ul l a b c R) (ha : a < R) (hl : l < depB bd) (hz : 0 < a + b + c) (hw : w ≤ a) : SV b1 b2 b3 s t bd ul (l + 1) (min (R - w) (b + b1 * (a - w))) (min (R - w) (c + b2 * (a - w))) (min (R - w) (b3 * (a - w))) (R - w) := by
  obtain ⟨h1, h2, h3, h4, h5, h6, h7, -⟩ := hH
  obtain ⟨g1, g2, g3, g4, g5, g6, g7, g8⟩ := h
  refine ⟨by omega, by omega, by omega, by omega, by omega, by omega, fun hu => ?_, fun hb => ?_⟩
  · obtain ⟨q1, q2, -⟩ := g7 hu
    obtain ⟨r1, r2, r3⟩ := h6 hu
    refine ⟨by rw [r2, Nat.zero_mul]; omega, by rw [r3, Nat.zero_mul]; omega, fun hlt => ⟨a - w, ?_⟩⟩
    rw [r1] at hlt ⊢
    omega
  · have he := g8 hb
    have hd : depB bd = 40 := by unfold depB; rw [if_pos hb]
    rw [show 40 - l = (40 - (l + 1)) + 1 by omega] at he
    rcases he with q | q | q
    · omega
    · omega
    · exact ends_cap _ _ _ _ _ _ _ _ (by omega) (by omega) (by omega) (q w hw)
variable {fl : Nat → Bool} {N : Nat} {G : Nat → Nat → Int32}
/-- what is asked of the rows behind -/
def LSp (b1 b2 b3 : Nat) (lc : Nat → Nat) (s t bd ul st : Nat) (fl : Nat → Bool) (G : Nat → Nat → Int32) (dep : Nat) (rec : Nat → Int32 → Int32 → Int32 → Int32 → Int32 → A_M → Option (Int64 × A_M)) : Prop := ∀ l a b c R A B, SV b1 b2 b3 s t bd ul l a b c R → depB bd - l < dep → LvQ b1 b2 b3 lc s t bd ul st A B G → ∃ A' B', rec 82 (nI l) (nI a) (nI b) (nI c) (nI R) (mem A B G fl) = some (lN (gF b1 b2 b3 lc (depB bd - l) a b c R), mem A' B' G fl) ∧ FrL A A' B B' ∧ LvQ b1 b2 b3 lc s t bd ul st A' B' G
theorem s_lw (f1 : fl 1 = true) (hH : LvH b1 b2 b3 lc s t bd ul st) {dep : Nat} {rec : Nat → Int32 → Int32 → Int32 → Int32 → Int32 → A_M → Option (Int64 × A_M)} (hr : LSp b1 b2 b3 lc s t bd ul st fl G dep rec) {l a b c R w : Nat} {A : Nat → Nat → Int32} {B : Nat → Nat → Int64} (h : SV b1 b2 b3 s t bd ul l a b c R) (ha : a < R) (hl : l < depB bd) (hz : 0 < a + b + c) (hw : w ≤ a) (hd : depB bd - (l + 1) < dep) (hQ : LvQ b1 b2 b3 lc s t bd ul st A B G) :
    ∃ A' B', f_X1_leastWith N rec 82 (nI l) (nI a) (nI b) (nI c) (nI R) (nI w) (mem A B G fl) = some (lN (cwF b1 b2 b3 lc (depB bd - (l + 1)) a b c R w), mem A' B' G fl) ∧ FrL A A' B B' ∧ LvQ b1 b2 b3 lc s t bd ul st A' B' G := by
  have hn := h.next hH ha hl hz hw
  have hH0 := hH
  obtain ⟨h1, h2, h3, h4, h5, h6, hb1, hb2, hb3, hbd, hlc, hlt, -⟩ := hH
  obtain ⟨A', B', e1, e2, e3⟩ := hr (l + 1) _ _ _ _ A B hn (by omega) hQ
  obtain ⟨g1, g2, g3, g4, g5, g6, g7, g8⟩ := h
  obtain ⟨q1, q2, q3, q4, q5, q6, q7, q8, q9⟩ := hQ
  have hlm : ∀ x y, x ≤ y → lc x ≤ lc y := fun x y hxy => by
    rcases Nat.lt_or_eq_of_le hxy with q | q
    · exact Nat.le_of_lt (hlc x y q)
    · rw [q]; exact Nat.le_refl _
  have m1 : b1 * (a - w) ≤ 4 * 24 := Nat.mul_le_mul hb1 (by omega)
  have m2 : b2 * (a - w) ≤ 4 * 24 := Nat.mul_le_mul hb2 (by omega)
  have m3 : b3 * (a - w) ≤ 4 * 24 := Nat.mul_le_mul hb3 (by omega)
  have hcap := gF_cap b1 b2 b3 lc (depB bd - (l + 1)) (min (R - w) (b + b1 * (a - w))) (min (R - w) (c + b2 * (a - w))) (min (R - w) (b3 * (a - w))) (b + b1 * (a - w)) (c + b2 * (a - w)) (b3 * (a - w)) (R - w) (by omega) (by omega) (by omega)
  rw [hcap] at e1
  refine ⟨A', B', ?_, e2, e3⟩
  unfold f_X1_leastWith
  rw [gx_82_5 f1, sb, show (1 : Int32) = nI 1 from rfl, ldI_n (ly88 f1) (by omega) (by decide), sb, sb, show (2 : Int32) = nI 2 from rfl, ldI_n (ly88 f1) (by omega) (by decide), sb, sb, show (3 : Int32) = nI 3 from rfl, ldI_n (ly88 f1) (by omega) (by decide), sb, ck_82 f1, sb, q4, q5, q6, nI_add, pk_sub (by omega), pk_sub (by omega), pk_mul, pk_mul, pk_mul, nI_add, nI_add, mnI_n (by omega) (by omega), mnI_n (by omega) (by omega), mnI_n (by omega) (by omega), e1, b2s]
  unfold cwF
  have hle := gF_le b1 b2 b3 lc (depB bd - (l + 1)) (b + b1 * (a - w)) (c + b2 * (a - w)) (b3 * (a - w)) (R - w)
  have hlR : lc (R - w) ≤ 24000000 := Nat.le_trans (hlm _ _ (by omega)) hlt
  have hdp : depB bd ≤ 40 := by unfold depB; split <;> omega
  have hfm : (depB bd - (l + 1)) * lc (R - w) ≤ 40 * 24000000 := Nat.mul_le_mul (by omega) hlR
  have hfin := gF_fin b1 b2 b3 lc hlm (depB bd - (l + 1)) (b + b1 * (a - w)) (c + b2 * (a - w)) (b3 * (a - w)) (R - w) (by unfold EV; omega)
  generalize gF b1 b2 b3 lc (depB bd - (l + 1)) (b + b1 * (a - w)) (c + b2 * (a - w)) (b3 * (a - w)) (R - w) = v at hle hfin ⊢
  rw [show (1152921504606846976 : Int64) = lN EV from rfl]
  by_cases hv : v < EV
  · rw [if_pos ((lg_lt (by unfold EV at hle; omega) (by unfold EV; omega)).mpr hv), gx_82_2 f1, sb, ldJ_n (ly85 f1) (by omega) (by decide), sb, e2.2 85 (by decide), q7 _ (by omega), lN_add]
    congr 3
    unfold adE
    unfold EV at hv hfin ⊢
    omega
  · rw [if_neg (fun q => hv ((lg_lt (by unfold EV at hle; omega) (by unfold EV; omega)).mp q))]
    congr 3
    unfold adE
    omega
theorem s_leL (f1 : fl 1 = true) (hH : LvH b1 b2 b3 lc s t bd ul st) {dep : Nat} {rec : Nat → Int32 → Int32 → Int32 → Int32 → Int32 → A_M → Option (Int64 × A_M)} (hr : LSp b1 b2 b3 lc s t bd ul st fl G dep rec) {l a b c R : Nat} (h : SV b1 b2 b3 s t bd ul l a b c R) (ha : a < R) (hl : l < depB bd) (hz : 0 < a + b + c) (hd : depB bd - (l + 1) < dep) : ∀ (d w m x : Nat) (A : Nat → Nat → Int32) (B : Nat → Nat → Int64), w + d = a + 1 → d < m → x ≤ EV → LvQ b1 b2 b3 lc s t bd ul st A B G →
    ∃ A' B', f_X1_least_b_L88 N rec m 82 (nI l) (nI a) (nI b) (nI c) (nI R) (nI (keyF bd ul l a b c R)) (lN x) (nI w) (mem A B G fl) = f_X1_least_b_K120 N rec 82 (nI (keyF bd ul l a b c R)) (lN (mnF (fun w => cwF b1 b2 b3 lc (depB bd - (l + 1)) a b c R w) d w x)) (mem A' B' G fl) ∧ FrL A A' B B' ∧ LvQ b1 b2 b3 lc s t bd ul st A' B' G := by
  have ht : t ≤ 24 := hH.2.2.1
  have hRt : R ≤ t := h.2.2.1
  intro d
  induction d with
  | zero =>
    intro w m x A B hw hm hx hQ
    obtain ⟨m, rfl⟩ : ∃ j, m = j + 1 := ⟨m - 1, by omega⟩
    rw [f_X1_least_b_L88, if_pos (nI_lt (by omega) (by omega))]
    exact ⟨A, B, rfl, FrL.refl A B, hQ⟩
  | succ d ih =>
    intro w m x A B hw hm hx hQ
    obtain ⟨m, rfl⟩ : ∃ j, m = j + 1 := ⟨m - 1, by omega⟩
    obtain ⟨A1, B1, e1, e2, e3⟩ := s_lw (N := N) f1 hH hr h ha hl hz (w := w) (by omega) hd hQ
    have hc : cwF b1 b2 b3 lc (depB bd - (l + 1)) a b c R w ≤ EV := by unfold cwF adE; omega
    obtain ⟨A2, B2, k1, k2, k3⟩ := ih (w + 1) m (min x (cwF b1 b2 b3 lc (depB bd - (l + 1)) a b c R w)) A1 B1 (by omega) (by omega) (by omega) e3
    refine ⟨A2, B2, ?_, e2.trans k2, k3⟩
    rw [f_X1_least_b_L88, if_neg (nI_nlt (by omega) (by omega)), ck_82 f1, sb, e1, b2s, mnJ_n (by unfold EV at hx; omega) (by unfold EV at hc; omega), nI_1, k1, mnF]
theorem s_leS (f1 : fl 1 = true) (hH : LvH b1 b2 b3 lc s t bd ul st) (hN : 100 < N) : ∀ dep, LSp b1 b2 b3 lc s t bd ul st fl G dep (f_X1_least N dep) := by
  intro dep
  induction dep with
  | zero => intro l a b c R A B _ hd _; omega
  | succ dep ih =>
    intro l a b c R A B h hd hQ
    have hH0 := hH
    have hQ0 := hQ
    have h0 := h
    obtain ⟨h1, h2, h3, h4, h5, h6, hb1, hb2, hb3, hbd, hlc, hlt, hst⟩ := hH
    obtain ⟨g1, g2, g3, g4, g5, g6, g7, g8⟩ := h
    obtain ⟨q1, q2, q3, q4, q5, q6, q7, q8, q9⟩ := hQ
    rw [f_X1_least]
    unfold f_X1_least_b
    by_cases ha : a < R
    · have hdp : depB bd ≤ 40 := by unfold depB; split <;> omega
      have hK : ∀ M, (if (nI bd : Int32) ≤ 0 then f_X1_least_b_K24 N (f_X1_least N dep) 82 (nI l) (nI a) (nI b) (nI c) (nI R) (40 : Int32) M else f_X1_least_b_K24 N (f_X1_least N dep) 82 (nI l) (nI a) (nI b) (nI c) (nI R) (nI bd) M) = f_X1_least_b_K24 N (f_X1_least N dep) 82 (nI l) (nI a) (nI b) (nI c) (nI R) (nI (depB bd)) M := by
        intro M
        unfold depB
        by_cases hb : bd = 0
        · subst hb
          rw [if_pos (by decide), if_pos rfl]
          rfl
        · rw [if_neg (show ¬ nI bd ≤ (0 : Int32) from nI_ge (a := 0) (by omega) (by omega)), if_neg hb]
      rw [if_pos (nI_lt ha (by omega)), gx_82_9 f1, sb, q2, sb, hK]
      unfold f_X1_least_b_K24
      by_cases hl : depB bd ≤ l
      · rw [if_pos (nI_le hl (by omega)), show depB bd - l = 0 by omega, gF, if_neg (by omega)]
        exact ⟨A, B, rfl, FrL.refl A B, hQ0⟩
      · rw [if_neg (nI_ge (by omega) (by omega)), nI_add, nI_add]
        by_cases hz : a + b + c = 0
        · rw [if_pos (by rw [hz]; rfl)]
          obtain ⟨rfl, rfl, rfl⟩ : a = 0 ∧ b = 0 ∧ c = 0 := by omega
          rw [gF_dead b1 b2 b3 lc _ _ (by omega)]
          exact ⟨A, B, rfl, FrL.refl A B, hQ0⟩
        · have hkl := key_lt hH0 h0 ha (by omega)
          have hmp : f_X1_memoPlace N 82 (nI l) (nI a) (nI b) (nI c) (nI R) (mem A B G fl) = some (nI (keyF bd ul l a b c R), mem A B G fl) := by
            unfold f_X1_memoPlace keyF
            rw [gx_82_10 f1, sb, q3]
            by_cases hu : ul = 0
            · subst hu
              rw [if_pos (show (nI 0 : Int32) = 0 from rfl), if_pos rfl, gx_82_9 f1, sb, q2, pk_shrN (by omega) ((1 : Int32) &&& 31) 1 (by decide), show a / 2 ^ 1 = a / 2 from rfl]
              by_cases hb : bd = 0
              · subst hb
                rw [if_pos (by decide), if_pos rfl, show (0 : Int32) = nI 0 from rfl, show (12 : Int32) = nI 12 from rfl, pk_mul, nI_add, nI_add]
              · rw [if_neg (show ¬ nI bd ≤ (0 : Int32) from nI_ge (a := 0) (by omega) (by omega)), if_neg hb, show (300 : Int32) = nI 300 from rfl, show (12 : Int32) = nI 12 from rfl, pk_mul, pk_mul, nI_add, nI_add]
            · have hu1 : ul = 1 := by omega
              subst hu1
              rw [if_neg (show ¬ (nI 1 : Int32) = 0 by decide), if_neg (by decide), show (1 : Int32) = nI 1 from rfl, show (8 : Int32) = nI 8 from rfl, show (9 : Int32) = nI 9 from rfl, pk_sub (by omega), pk_mul, nI_add, pk_mul, nI_add, pk_mul, nI_add]
          rw [if_neg (show ¬ nI (a + b + c) = (0 : Int32) from fun q => hz ((nI_eq (b := 0) (by omega) (by omega)).mp q)), ck_82 f1, sb, hmp, b2s, gx_82_1 f1, sb, ldI_n (ly84 f1) hkl (by decide), sb, gx_82_7 f1, sb, q1]
          by_cases hs : A 84 (keyF bd ul l a b c R) = nI st
          · rw [if_pos hs, gx_82_0 f1, sb, ldJ_n (ly83 f1) hkl (by decide), sb, q8 l a b c R h0 ha (by omega) hs]
            exact ⟨A, B, rfl, FrL.refl A B, hQ0⟩
          · rw [if_neg hs]
            obtain ⟨A1, B1, e1, e2, e3⟩ := s_leL (N := N) f1 hH0 ih h0 ha (by omega) (by omega) (by omega) (a + 1) 0 N EV A B (by omega) (by omega) (Nat.le_refl _) hQ0
            have hE : (1152921504606846976 : Int64) = lN EV := rfl
            have h0I : (0 : Int32) = nI 0 := rfl
            rw [hE, h0I, e1]
            have hv : mnF (fun w => cwF b1 b2 b3 lc (depB bd - (l + 1)) a b c R w) (a + 1) 0 EV = gF b1 b2 b3 lc (depB bd - l) a b c R := by
              rw [show depB bd - l = (depB bd - (l + 1)) + 1 by omega, gF_S b1 b2 b3 lc (by omega)]
              rfl
            rw [hv]
            unfold f_X1_least_b_K120
            rw [gx_82_1 f1, sb, gx_82_7 f1, sb, q1, stI_n (ly84 f1) hkl (by decide), sb, gx_82_0 f1, sb, stJ_n (ly83 f1) hkl (by decide), sb]
            refine ⟨_, _, rfl, ?_, ?_⟩
            · exact ⟨fun k hk => by rw [upA_ne _ _ _ hk]; exact e2.1 k hk, fun k hk => by rw [upA_ne _ _ _ hk]; exact e2.2 k hk⟩
            · obtain ⟨r1, r2, r3, r4, r5, r6, r7, r8, r9⟩ := e3
              refine ⟨r1, r2, r3, by rw [upA_ne _ _ _ (by decide)]; exact r4, by rw [upA_ne _ _ _ (by decide)]; exact r5, by rw [upA_ne _ _ _ (by decide)]; exact r6, fun q hq => by rw [upA_ne _ _ _ (by decide)]; exact r7 q hq, ?_, ?_⟩
              · intro l' a' b' c' R' hv' ha' hl' hs'
                rw [upA_same] at hs' ⊢
                by_cases hkk : keyF bd ul l' a' b' c' R' = keyF bd ul l a b c R
                · rw [hkk, vpL_eq]
                  exact congrArg lN (key_inj hH0 h0 ha hv' ha' hkk.symm)
                · rw [upd_ne _ _ _ hkk] at hs'
                  rw [vpL_ne _ _ _ hkk]
                  exact r8 l' a' b' c' R' hv' ha' hl' hs'
              · intro j hj
                rw [upA_same]
                by_cases hkk : j = keyF bd ul l a b c R
                · rw [hkk, upd_eq]
                  exact ⟨st, Nat.le_refl _, rfl⟩
                · rw [upd_ne _ _ _ hkk]
                  exact r9 j hj
    · rw [if_neg (nI_nlt (by omega) (by omega)), gF_0 b1 b2 b3 lc (show R ≤ a by omega)]
      exact ⟨A, B, rfl, FrL.refl A B, hQ0⟩
end Le
