/-! the class's way of dealing a node -/
def dlA (P C : Nat → Nat) (s : Nat) (f : Nat → Nat → Nat → Nat → Nat → Nat × Nat) (i j r n : Nat) : Nat → Nat → Nat → Nat → Nat × Nat
  | 0, _, _, _ => (0, 0)
  | k + 1, u, a, x => if x < sp P C s i j u a then (if sp P C s i j u a - a = 1 then (r + u * 4 ^ (23 - n), n + 1) else f a (sp P C s i j u a - 1) (r + u * 4 ^ (23 - n)) (n + 1) x) else dlA P C s f i j r n k (u + 1) (sp P C s i j u a) x
def ndA (P C : Nat → Nat) (s : Nat) : Nat → Nat → Nat → Nat → Nat → Nat → Nat × Nat
  | 0, _, _, _, _, _ => (0, 0)
  | f + 1, i, j, r, n, x => dlA P C s (ndA P C s f) i j r n s 0 i x
theorem chd_rz {r n u : Nat} (hr : r < 4 ^ 24) (hz : rz r n) (hn : n ≤ 23) (hu : u < 4) : r + u * 4 ^ (23 - n) < 4 ^ 24 ∧ rz (r + u * 4 ^ (23 - n)) (n + 1) := by
  have := chd_ok (x := (r, n)) hr hn hz hu
  exact ⟨this.1, this.2.2⟩
section Dx
variable {G : Nat → Nat → Int32} {fl : Nat → Bool} {N s t : Nat} {P C : Nat → Nat}
theorem c1_nd {a e : Nat} (h : a < e) : c1 (nd P C s) a e = nd P C s a (e - 1) := by
  unfold c1
  by_cases q : e - a < 2
  · rw [if_pos q, show e - 1 = a by omega, nd_self]
  · rw [if_neg q]
theorem c1_0 (a : Nat) : c1 (nd P C s) a a = 0 := by
  unfold c1
  rw [if_pos (by omega)]
/-- what the class asks is what the reference asks -/
theorem pr_iff {i j u a e : Nat} (hs : 2 ≤ s) (hS : Sml P C s t) (hp : ∀ u, u < s → 1 ≤ P u) (hC1 : ∀ x, x < t → 1 ≤ C x) (hij : i < j) (hj : j < t) (hu : u < s) (ha : i ≤ a) (hae : a ≤ e) (he : e ≤ j + 1) (hf : rD P C s (nd P C s) i j (s - u) a < EV) (hT : a = i → rD P C s (nd P C s) i j (s - u) a = nd P C s i j) : P u * Wt C a e + c1 (nd P C s) a e + dD P C s (nd P C s) j (s - (u + 1)) e = rD P C s (nd P C s) i j (s - u) a ↔ prB P C s i j u a e = true := by
  have hfin : nd P C s i j < EV := by
    have := nd_fin hs hS (j - i) i j rfl hj
    have := hS.2.1
    unfold EV
    omega
  have gen : e - a ≠ j - i + 1 → rD P C s (nd P C s) i j (s - (u + 1)) e = dD P C s (nd P C s) j (s - (u + 1)) e → (P u * Wt C a e + c1 (nd P C s) a e + dD P C s (nd P C s) j (s - (u + 1)) e = rD P C s (nd P C s) i j (s - u) a ↔ prB P C s i j u a e = true) := by
    intro h1 h2
    unfold prB dv vv
    rw [decide_eq_true_iff, if_neg h1, h2]
    by_cases h3 : EV ≤ dD P C s (nd P C s) j (s - (u + 1)) e
    · rw [if_pos h3]; omega
    · rw [if_neg h3]
  by_cases hai : a = i
  · have hT := hT hai
    subst hai
    by_cases hea : e = a
    · subst hea
      have h := dD_rD (P := P) (C := C) (s := s) (k := s - (u + 1)) hij (by omega) hp (by
        have hw := Wt_sub (C := C) (fr := e) (i := e + 1) (e := j + 1) (by omega) (by omega)
        have h2 : Wt C e (e + 1) = C e := by
          unfold Wt
          rw [show e + 1 - e = 1 by omega]
          show C e + 0 = C e
          omega
        have h3 := hC1 e (by omega)
        omega) hfin
      unfold prB dv vv
      rw [decide_eq_true_iff, if_neg (by omega), Wt_self, c1_0, hT, Nat.mul_zero, Nat.zero_add, Nat.zero_add, h]
      by_cases h3 : EV ≤ rD P C s (nd P C s) e j (s - (u + 1)) e
      · rw [if_pos h3]; omega
      · rw [if_neg h3]
    · by_cases hej : e = j + 1
      · subst hej
        unfold prB dv
        rw [decide_eq_true_iff, if_pos (by omega), hT, c1_nd (by omega), dD_end, show j + 1 - 1 = j by omega]
        have hw : 1 ≤ Wt C a (j + 1) := by
          have hw := Wt_sub (C := C) (fr := a) (i := a + 1) (e := j + 1) (by omega) (by omega)
          have h2 : Wt C a (a + 1) = C a := by
            unfold Wt
            rw [show a + 1 - a = 1 by omega]
            show C a + 0 = C a
            omega
          have h3 := hC1 a (by omega)
          omega
        have := Nat.mul_le_mul (hp u hu) hw
        omega
      · exact gen (by omega) (rD_dD (by omega) _ _ (by omega) (by omega))
  · exact gen (by omega) (rD_dD (by omega) _ _ (by omega) (by omega))
theorem m1_lt {j e : Nat} (hj : j < 1000) (he : e < 1000) : nI j < nI e - 1 ↔ j + 1 < e := by
  by_cases h : e = 0
  · subst h
    refine ⟨fun q => ?_, fun q => by omega⟩
    rw [show (nI 0 - 1 : Int32) = -1 by decide, Int32.lt_iff_toInt_lt, nI_toInt (by omega), show (-1 : Int32).toInt = -1 by decide] at q
    omega
  · rw [show (1 : Int32) = nI 1 from rfl, pk_sub (by omega), nI_ltI (by omega) (by omega)]
    omega
theorem m1_le {a e : Nat} (ha : a < 1000) (he : e < 1000) : nI a ≤ nI e - 1 ↔ a < e := by
  by_cases h : e = 0
  · subst h
    refine ⟨fun q => ?_, fun q => by omega⟩
    rw [show (nI 0 - 1 : Int32) = -1 by decide, Int32.le_iff_toInt_le, nI_toInt (by omega), show (-1 : Int32).toInt = -1 by decide] at q
    omega
  · rw [show (1 : Int32) = nI 1 from rfl, pk_sub (by omega), nI_leI (by omega) (by omega)]
    omega
theorem m1_p1 (e : Nat) : nI e - 1 + 1 = nI e := Int32.sub_add_cancel (nI e) 1
/-- all that the class's tables tell -/
def NXall (A : Nat → Nat → Int32) (B : Nat → Nat → Int64) (G : Nat → Nat → Int32) (P C : Nat → Nat) (s t : Nat) : Prop := WgC A B G P C s 0 (t - 1) ∧ ∀ a b, a ≤ b → b < t → NXa B P C s a b
theorem s_lastB (f2 : fl 2 = true) {A : Nat → Nat → Int32} {B : Nat → Nat → Int64} (hs : 2 ≤ s) (hS : Sml P C s t) (hp : ∀ u, u < s → 1 ≤ P u) (hC1 : ∀ x, x < t → 1 ≤ C x) (hX : NXall A B G P C s t) {i j u a : Nat} (hij : i < j) (hj : j < t) (hu : u < s) (ha : i ≤ a) (haj : a ≤ j) (hf : rD P C s (nd P C s) i j (s - u) a < EV) (hT : a = i → rD P C s (nd P C s) i j (s - u) a = nd P C s i j) : ∀ (d e m : Nat), e + d = sp P C s i j u a → a ≤ e → d < m → f_X4_lastBehind_L5 N m 93 (nI u) (nI a) (nI j) (lN (rD P C s (nd P C s) i j (s - u) a)) (nI e - 1) (mem A B G fl) = some (nI (sp P C s i j u a) - 1, mem A B G fl) := by
  have h24 := hS.2.1
  have h4 := hS.1
  obtain ⟨p1, p2, p3, p4⟩ := sp_ok hu (show a ≤ j + 1 by omega) hf
  have hEq := pr_iff (e := sp P C s i j u a) hs hS hp hC1 hij hj hu ha p1 p2 hf hT
  have body : ∀ (m e : Nat), a ≤ e → e ≤ j + 1 → f_X4_lastBehind_L5 N (m + 1) 93 (nI u) (nI a) (nI j) (lN (rD P C s (nd P C s) i j (s - u) a)) (nI e - 1) (mem A B G fl) = (if prB P C s i j u a e = true then some (nI e - 1, mem A B G fl) else f_X4_lastBehind_L5 N m 93 (nI u) (nI a) (nI j) (lN (rD P C s (nd P C s) i j (s - u) a)) (nI e) (mem A B G fl)) := by
    intro m e h1 h2
    have hq := pr_iff (e := e) hs hS hp hC1 hij hj hu ha h1 h2 hf hT
    have hK : ∀ w : Nat, w = P u * Wt C a e + c1 (nd P C s) a e → f_X4_lastBehind_K29 N (f_X4_lastBehind_L5 N m) 93 (nI u) (nI a) (nI j) (lN (rD P C s (nd P C s) i j (s - u) a)) (nI e - 1) (lN w) (mem A B G fl) = (if prB P C s i j u a e = true then some (nI e - 1, mem A B G fl) else f_X4_lastBehind_L5 N m 93 (nI u) (nI a) (nI j) (lN (rD P C s (nd P C s) i j (s - u) a)) (nI e) (mem A B G fl)) := by
      intro w hw
      have b1 : c1 (nd P C s) a e ≤ EV := by
        by_cases q : a < e
        · rw [c1_nd q]; exact nd_le _ _
        · rw [show e = a by omega, c1_0]; exact Nat.zero_le _
      have b2 := dD_le (P := P) (C := C) (s := s) (c := nd P C s) j (s - (u + 1)) e
      have b3 := hS.pw (a := a) (e := e) (u := u) (by omega) hu
      have b4 := hf
      unfold EV at b1 b2 b4
      unfold f_X4_lastBehind_K29
      rw [ck_93 f2, sb, m1_p1, show nI u + (1 : Int32) = nI (u + 1) from nI_1 u, s_dealOf (to := j) f2 hS hj (by omega) h2 (Nat.le_refl _) (fun hle => (hX.2 e j hle hj).2 (u + 1) (by omega) (by omega)), b2s, lN_add]
      by_cases c : prB P C s i j u a e = true
      · rw [if_pos c, if_pos ((lg_eq (by omega) (by omega)).mpr (by rw [hw]; exact hq.mpr c))]
      · rw [if_neg c, if_neg (fun g => c (hq.mp (by rw [← hw]; exact (lg_eq (by omega) (by omega)).mp g)))]
    rw [f_X4_lastBehind_L5, if_neg (fun g => by have := (m1_lt (by omega) (by omega)).mp g; omega)]
    by_cases q : a < e
    · have hX94 := (hX.2 a (e - 1) (by omega) (by omega)).1
      have hb := s_behind (N := N) f2 hS (show t - 1 < t by omega) hX.1 hu (Nat.zero_le a) (show a ≤ e - 1 by omega) (show e - 1 ≤ t - 1 by omega) hX94
      rw [if_pos ((m1_le (by omega) (by omega)).mpr q), ck_93 f2, sb, show nI e - 1 = nI (e - 1) by rw [show (1 : Int32) = nI 1 from rfl, pk_sub (by omega)], hb, b2s, show nI (e - 1) = nI e - 1 by rw [show (1 : Int32) = nI 1 from rfl, pk_sub (by omega)], show e - 1 + 1 = e by omega]
      exact hK _ (by rw [c1_nd q])
    · rw [if_neg (fun g => q ((m1_le (by omega) (by omega)).mp g))]
      exact hK 0 (by rw [show e = a by omega, Wt_self, c1_0, Nat.mul_zero])
  intro d
  induction d with
  | zero =>
    intro e m h hae hm
    obtain ⟨m, rfl⟩ : ∃ j, m = j + 1 := ⟨m - 1, by omega⟩
    have he : e = sp P C s i j u a := by omega
    rw [body m e hae (by omega), he, if_pos (by unfold prB; exact decide_eq_true p3)]
  | succ d ih =>
    intro e m h hae hm
    obtain ⟨m, rfl⟩ : ∃ j, m = j + 1 := ⟨m - 1, by omega⟩
    have := ih (e + 1) m (by omega) (by omega) (by omega)
    rw [show nI (e + 1) - 1 = nI e by rw [show (1 : Int32) = nI 1 from rfl, pk_sub (by omega), show e + 1 - 1 = e by omega]] at this
    rw [body m e hae (by omega), if_neg (by rw [p4 e hae (by omega)]; decide), this]
theorem NXall.fr {A A' : Nat → Nat → Int32} {B B' : Nat → Nat → Int64} (h : NXall A B G P C s t) (hA : A' 97 = A 97) (hB : ∀ k, k = 94 ∨ k = 95 ∨ k = 96 → B' k = B k) : NXall A' B' G P C s t := by
  obtain ⟨⟨h1, h2, h3⟩, h4⟩ := h
  refine ⟨⟨h1, by rw [hA]; exact h2, by rw [hB 96 (by omega)]; exact h3⟩, fun a b x y => ?_⟩
  unfold NXa
  rw [hB 94 (by omega), hB 95 (by omega)]
  exact h4 a b x y
/-- what is done to the words of i to j -/
def WdX (A A' : Nat → Nat → Int32) (B B' : Nat → Nat → Int64) (i j : Nat) (w : Nat → Nat × Nat) : Prop := (∀ k, k ≠ 18 → A' k = A k) ∧ (∀ k, k ≠ 17 → B' k = B k) ∧ (∀ x, i ≤ x → x ≤ j → B' 17 x = lN (w x).1 ∧ A' 18 x = nI (w x).2) ∧ (∀ x, (x < i ∨ j < x) → B' 17 x = B 17 x ∧ A' 18 x = A 18 x)
def DSx (G : Nat → Nat → Int32) (fl : Nat → Bool) (N : Nat) (P C : Nat → Nat) (s t d : Nat) : Prop := ∀ (i j r n : Nat) (A : Nat → Nat → Int32) (B : Nat → Nat → Int64), i < j → j < t → j - i < d → n + (j - i) ≤ 23 → r < 4 ^ 24 → rz r n → NXall A B G P C s t → ∃ A' B', f_X4_dealNode N d 93 16 (nI i) (nI j) (lN r) (nI n) (mem A B G fl) = some (mem A' B' G fl) ∧ WdX A A' B B' i j (ndA P C s d i j r n)
theorem s_dnL (f2 : fl 2 = true) (hN : 100 < N) (hs : 2 ≤ s) (hS : Sml P C s t) (hp : ∀ u, u < s → 1 ≤ P u) (hC1 : ∀ x, x < t → 1 ≤ C x) {d : Nat} (hD : DSx G fl N P C s t d) {i j r n : Nat} (hij : i < j) (hj : j < t) (hd : j - i < d + 1) (hn : n + (j - i) ≤ 23) (hr : r < 4 ^ 24) (hz : rz r n) : ∀ (k u a m : Nat) (A : Nat → Nat → Int32) (B : Nat → Nat → Int64), u + k = s → i ≤ a → a ≤ j + 1 → k < m → rD P C s (nd P C s) i j (s - u) a < EV → (a = i → rD P C s (nd P C s) i j (s - u) a = nd P C s i j) → NXall A B G P C s t →
    ∃ A' B', f_X4_dealNode_b_L22 N (f_X4_dealNode N d) m 93 16 (nI j) (lN r) (nI n) (lN (rD P C s (nd P C s) i j (s - u) a)) (nI a) (nI u) (mem A B G fl) = some (mem A' B' G fl) ∧ WdX A A' B B' a j (dlA P C s (ndA P C s d) i j r n k u a) := by
  have h24 := hS.2.1
  have h4 := hS.1
  intro k
  induction k with
  | zero =>
    intro u a m A B h ha haj hm hf hT hX
    obtain ⟨m, rfl⟩ : ∃ j, m = j + 1 := ⟨m - 1, by omega⟩
    have hu : u = s := by omega
    subst hu
    have haj2 : a = j + 1 := by
      rw [Nat.sub_self, rD] at hf
      by_cases q : a = j + 1
      · exact q
      · rw [if_neg q] at hf; exact absurd hf (Nat.lt_irrefl _)
    refine ⟨A, B, ?_, fun _ _ => rfl, fun _ _ => rfl, fun x h1 h2 => by omega, fun _ _ => ⟨rfl, rfl⟩⟩
    rw [f_X4_dealNode_b_L22, gx_93_4 f2, sb, hX.1.1, if_pos (nI_le (Nat.le_refl _) (by omega))]
  | succ k ih =>
    intro u a m A B h ha haj hm hf hT hX
    obtain ⟨m, rfl⟩ : ∃ j, m = j + 1 := ⟨m - 1, by omega⟩
    by_cases hend : a = j + 1
    · refine ⟨A, B, ?_, fun _ _ => rfl, fun _ _ => rfl, fun x h1 h2 => by omega, fun _ _ => ⟨rfl, rfl⟩⟩
      rw [f_X4_dealNode_b_L22, gx_93_4 f2, sb, hX.1.1, if_neg (nI_ge (by omega) (by omega)), if_pos (nI_lt (by omega) (by omega))]
    · have hlb := s_lastB (N := N) f2 hs hS hp hC1 hX hij hj (show u < s by omega) ha (show a ≤ j by omega) hf hT (sp P C s i j u a - a) a N (by have := (sp_ok (show u < s by omega) haj hf).1; omega) (Nat.le_refl _) (by have := (sp_ok (show u < s by omega) haj hf).2.1; omega)
      obtain ⟨p1, p2, -, -⟩ := sp_ok (show u < s by omega) haj hf
      obtain ⟨r1, r2, r3⟩ := sp_rest (show u < s by omega) haj hf
      have hdl : ∀ x, dlA P C s (ndA P C s d) i j r n (k + 1) u a x = if x < sp P C s i j u a then (if sp P C s i j u a - a = 1 then (r + u * 4 ^ (23 - n), n + 1) else ndA P C s d a (sp P C s i j u a - 1) (r + u * 4 ^ (23 - n)) (n + 1) x) else dlA P C s (ndA P C s d) i j r n k (u + 1) (sp P C s i j u a) x := fun x => rfl
      generalize sp P C s i j u a = e at hlb p1 p2 r1 r2 r3 hdl
      rw [f_X4_dealNode_b_L22, gx_93_4 f2, sb, hX.1.1, if_neg (nI_ge (by omega) (by omega)), if_neg (fun q => by have := (nI_ltI (by omega) (by omega)).mp q; omega), ck_93 f2, sb]
      unfold f_X4_lastBehind
      rw [hlb, b2s]
      by_cases hea : e = a
      · subst hea
        rw [Wt_self, c1_0, Nat.mul_zero, Nat.zero_add] at r3
        obtain ⟨A', B', g1, g2, g3, g4, g5⟩ := ih (u + 1) e m A B (by omega) ha haj (by omega) r1 (fun q => by rw [r3]; exact hT q) hX
        refine ⟨A', B', ?_, g2, g3, fun x h1 h2 => ?_, g5⟩
        · rw [if_pos (Int32.not_le.mp (fun q => by have := (m1_le (by omega) (by omega)).mp q; omega)), f_X4_dealNode_b_K126, nI_1, ← r3]
          exact g1
        · rw [hdl, if_neg (by omega)]
          exact g4 x h1 h2
      · have hX94 := (hX.2 a (e - 1) (by omega) (by omega)).1
        have hb := s_behind (N := N) f2 hS (show t - 1 < t by omega) hX.1 (show u < s by omega) (Nat.zero_le a) (show a ≤ e - 1 by omega) (show e - 1 ≤ t - 1 by omega) hX94
        rw [c1_nd (by omega)] at r3
        have em : nI e - 1 = nI (e - 1) := by rw [show (1 : Int32) = nI 1 from rfl, pk_sub (by omega)]
        have hsub : lN (rD P C s (nd P C s) i j (s - u) a) - lN (P u * Wt C a e + nd P C s a (e - 1)) = lN (rD P C s (nd P C s) i j (s - (u + 1)) e) := by
          rw [lN_sub (by omega)]
          congr 1
          omega
        obtain ⟨z1, z2⟩ := chd_rz (u := u) hr hz (by omega) (by omega)
        rw [em, if_neg (nI_nlt (by omega) (by omega)), ck_93 f2, sb, hb, b2s, s_rowAndSign (by omega) hz (by omega), b2s, show e - 1 + 1 = e by omega, hsub]
        by_cases he1 : e - a = 1
        · have hcd : cdL fl 16 := ⟨ly16 fl, ly17 fl, ly18 fl, by decide⟩
          have hgw := s_giveWord (A := A) (B := B) (G := G) (N := N) hcd (show a < 24 by omega) (lN (r + u * 4 ^ (23 - n))) (nI (n + 1))
          generalize hA1 : upA A 18 (upd (A 18) a (nI (n + 1))) = A1 at hgw
          generalize hB1 : upA B 17 (vp_updL (B 17) a (lN (r + u * 4 ^ (23 - n)))) = B1 at hgw
          have a0 : ∀ k, k ≠ 18 → A1 k = A k := fun k hk => by rw [← hA1, upA_ne _ _ _ hk]
          have b0 : ∀ k, k ≠ 17 → B1 k = B k := fun k hk => by rw [← hB1, upA_ne _ _ _ hk]
          have a18 : A1 18 = upd (A 18) a (nI (n + 1)) := by rw [← hA1, upA_same]
          have b17 : B1 17 = vp_updL (B 17) a (lN (r + u * 4 ^ (23 - n))) := by rw [← hB1, upA_same]
          obtain ⟨A', B', g1, g2, g3, g4, g5⟩ := ih (u + 1) e m A1 B1 (by omega) (by omega) p2 (by omega) r1 (fun q => by omega) (hX.fr (a0 97 (by omega)) (fun k hk => b0 k (by omega)))
          refine ⟨A', B', ?_, fun k hk => (g2 k hk).trans (a0 k hk), fun k hk => (g3 k hk).trans (b0 k hk), fun x h1 h2 => ?_, fun x hx => ?_⟩
          · rw [if_pos (by congr 1; omega), ck_16, sb, show nI n + (1 : Int32) = nI (n + 1) from nI_1 n, hgw, sb, f_X4_dealNode_b_K120, f_X4_dealNode_b_K126, show nI (e - 1) + (1 : Int32) = nI e by rw [show (1 : Int32) = nI 1 from rfl, nI_add, show e - 1 + 1 = e by omega], nI_1]
            exact g1
          · rw [hdl]
            by_cases hx : x < e
            · have hxa : x = a := by omega
              subst hxa
              rw [if_pos hx, if_pos he1]
              obtain ⟨q1, q2⟩ := g5 x (by omega)
              rw [q1, q2, a18, b17, upd_eq, vpL_eq]
              exact ⟨rfl, rfl⟩
            · rw [if_neg hx]
              exact g4 x (by omega) h2
          · obtain ⟨q1, q2⟩ := g5 x (by omega)
            rw [q1, q2, a18, b17, upd_ne _ _ _ (by omega), vpL_ne _ _ _ (by omega)]
            exact ⟨rfl, rfl⟩
        · obtain ⟨A1, B1, d1, d2, d3, d4, d5⟩ := hD a (e - 1) (r + u * 4 ^ (23 - n)) (n + 1) A B (by omega) (by omega) (by omega) (by omega) z1 z2 hX
          obtain ⟨A', B', g1, g2, g3, g4, g5⟩ := ih (u + 1) e m A1 B1 (by omega) (by omega) p2 (by omega) r1 (fun q => by omega) (hX.fr (d2 97 (by omega)) (fun k hk => d3 k (by omega)))
          refine ⟨A', B', ?_, fun k hk => (g2 k hk).trans (d2 k hk), fun k hk => (g3 k hk).trans (d3 k hk), fun x h1 h2 => ?_, fun x hx => ?_⟩
          · rw [if_neg (fun q => by have := (nI_eq (by omega) (by omega)).mp q; omega), ck_93 f2, sb, show nI n + (1 : Int32) = nI (n + 1) from nI_1 n, d1, sb, f_X4_dealNode_b_K120, f_X4_dealNode_b_K126, show nI (e - 1) + (1 : Int32) = nI e by rw [show (1 : Int32) = nI 1 from rfl, nI_add, show e - 1 + 1 = e by omega], nI_1]
            exact g1
          · rw [hdl]
            by_cases hx : x < e
            · rw [if_pos hx, if_neg he1]
              obtain ⟨q1, q2⟩ := g5 x (by omega)
              rw [q1, q2]
              exact d4 x h1 (by omega)
            · rw [if_neg hx]
              exact g4 x (by omega) h2
          · obtain ⟨q1, q2⟩ := g5 x (by omega)
            rw [q1, q2]
            exact d5 x (by omega)
theorem s_dealX (f2 : fl 2 = true) (hN : 100 < N) (hs : 2 ≤ s) (hS : Sml P C s t) (hp : ∀ u, u < s → 1 ≤ P u) (hC1 : ∀ x, x < t → 1 ≤ C x) : ∀ d, DSx G fl N P C s t d := by
  intro d
  induction d with
  | zero => intro i j r n A B _ _ h; omega
  | succ d ih =>
    intro i j r n A B hij hj hd hn hr hz hX
    have h24 := hS.2.1
    have h4 := hS.1
    have hfin : nd P C s i j < EV := by
      have := nd_fin hs hS (j - i) i j rfl hj
      unfold EV
      omega
    have hnd : rD P C s (nd P C s) i j (s - 0) i = nd P C s i j := by rw [Nat.sub_zero, ← nd_eq hij]
    obtain ⟨A', B', g1, g2⟩ := s_dnL (A := A) (B := B) f2 hN hs hS hp hC1 ih hij hj hd hn hr hz s 0 i N (by omega) (Nat.le_refl _) (by omega) (by omega) (by rw [hnd]; exact hfin) (fun _ => hnd) hX
    refine ⟨A', B', ?_, g2⟩
    rw [hnd] at g1
    unfold f_X4_dealNode f_X4_dealNode_b f_X4_leastOf
    rw [if_pos (show nI n < (24 : Int32) from nI_lt (b := 24) (by omega) (by omega)), ck_93 f2, sb, gx_93_0 f2, sb, show (24 : Int32) = nI 24 from rfl, pk_mul, nI_add, ldJ_n (ly94 f2) (by omega) (by decide), sb, (hX.2 i j (by omega) hj).1, b2s]
    exact g1
end Dx
