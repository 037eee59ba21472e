/-! canon -/
/-- the order by size as an order by count -/
def cz (n : Nat → Nat) : Nat → Int32 := fun j => nI (24 - n j)
section Os
variable {B : Nat → Nat → Int64} {G : Nat → Nat → Int32} {fl : Nat → Bool} {N s t : Nat} {R n : Nat → Nat}
theorem cz_le {i q : Nat} (h : n q ≤ 24) (h2 : n i ≤ 24) : nI (n q) ≤ nI (n i) ↔ cz n i ≤ cz n q := by
  unfold cz
  rw [nI_leI (by omega) (by omega), nI_leI (by omega) (by omega)]
  omega
theorem s_osX1 (ht : t ≤ 24) {i : Nat} (hi : i < t) (k2 : Nat → Nat → Int32 → A_M → Option A_M) : ∀ (k m : Nat) (A : Nat → Nat → Int32), Ws s t (B 14) (A 15) R n → k ≤ i → k < m → RkB (A 3) k t → f_X0_orderBySize_L12 N k2 m 13 3 (nI i) (nI k) (mem A B G fl) = k2 13 3 (nI (i + 1)) (mem (upA A 3 (ins (cz n) i k (A 3))) B G fl) := by
  intro k
  induction k with
  | zero =>
    intro m A hW hk hm hB
    obtain ⟨m, rfl⟩ : ∃ j, m = j + 1 := ⟨m - 1, by omega⟩
    rw [f_X0_orderBySize_L12, if_pos (show nI 0 ≤ 0 by decide)]
    unfold f_X0_orderBySize_K49
    rw [stI_n (ly3 fl) (by omega) (by decide), sb, nI_1]
    rfl
  | succ k ih =>
    intro m A hW hk hm hB
    obtain ⟨m, rfl⟩ : ∃ j, m = j + 1 := ⟨m - 1, by omega⟩
    obtain ⟨q, hq, e⟩ := hB k (by omega)
    have wi := hW i hi
    have wq := hW q hq
    rw [f_X0_orderBySize_L12, if_neg (nI_nle (by omega) (by omega)), nI_pred, gx_13_1, sb, ldI_n (ly3 fl) (by omega) (by decide), sb, e, ldI_n (ly15 fl) (by omega) (by decide), sb, sb, ldI_n (ly15 fl) (by omega) (by decide), sb, wi.2.1, wq.2.1]
    show _ = k2 13 3 (nI (i + 1)) (mem (upA A 3 (if cz n i ≤ cz n (A 3 k).toNatClampNeg then upd (A 3) (k + 1) (nI i) else ins (cz n) i k (upd (A 3) (k + 1) (A 3 k)))) B G fl)
    rw [e, nI_clamp (by omega)]
    have hcz := cz_le (n := n) wq.2.2.2.1 wi.2.2.2.1
    by_cases h : cz n i ≤ cz n q
    · rw [if_pos (hcz.mpr h), if_pos h]
      unfold f_X0_orderBySize_K49
      rw [stI_n (ly3 fl) (by omega) (by decide), sb, nI_1]
    · rw [if_neg (fun x => h (hcz.mp x)), if_neg h, sb, stI_n (ly3 fl) (by omega) (by decide), sb, show nI (k + 1) + -1 = nI k from pk_m1 k, ih m (upA A 3 (upd (A 3) (k + 1) (nI q))) hW (by omega) (by omega) (fun j hj => by rw [upA_same, upd_ne _ _ _ (by omega)]; exact hB j (by omega)), upA_same, upA_twice]
theorem s_osX (ht : t ≤ 24) (hN : 24 < N) (hG : G 13 2 = nI t) : ∀ (d i m : Nat) (A : Nat → Nat → Int32), Ws s t (B 14) (A 15) R n → i + d = t → d < m → RkB (A 3) i t → f_X0_orderBySize_L2 N m 13 3 (nI i) (mem A B G fl) = some (mem (upA A 3 (rkG (cz n) d i (A 3))) B G fl) := by
  intro d
  induction d with
  | zero =>
    intro i m A hW h1 hm hB
    obtain ⟨m, rfl⟩ : ∃ j, m = j + 1 := ⟨m - 1, by omega⟩
    rw [f_X0_orderBySize_L2, gx_13_2, sb, hG, if_pos (nI_le (by omega) (by omega))]
    show _ = some (mem (upA A 3 (A 3)) B G fl)
    rw [upA_self]
  | succ d ih =>
    intro i m A hW h1 hm hB
    obtain ⟨m, rfl⟩ : ∃ j, m = j + 1 := ⟨m - 1, by omega⟩
    rw [f_X0_orderBySize_L2, gx_13_2, sb, hG, if_neg (nI_ge (by omega) (by omega)), s_osX1 ht (by omega) _ i N A hW (Nat.le_refl _) (by omega) hB, ih (i + 1) m (upA A 3 (ins (cz n) i i (A 3))) hW (by omega) (by omega) (by rw [upA_same]; exact ins_B (by omega) hB), upA_same, upA_twice]
    rfl
theorem s_osM1 (ht : t ≤ 24) {i : Nat} (hi : i < t) (k2 : Nat → Int32 → A_M → Option (Int32 × A_M)) : ∀ (k m : Nat) (A : Nat → Nat → Int32), Ws s t (B 47) (A 48) R n → k ≤ i → k < m → RkB (A 71) k t → f_X7_canon_L34 N k2 m 44 (nI i) (nI k) (mem A B G fl) = k2 44 (nI (i + 1)) (mem (upA A 71 (ins (cz n) i k (A 71))) B G fl) := by
  intro k
  induction k with
  | zero =>
    intro m A hW hk hm hB
    obtain ⟨m, rfl⟩ : ∃ j, m = j + 1 := ⟨m - 1, by omega⟩
    rw [f_X7_canon_L34, if_pos (show nI 0 ≤ 0 by decide)]
    unfold f_X7_canon_K80
    rw [gx_44_42, sb, stI_n (ly71 fl) (by omega) (by decide), sb, nI_1]
    rfl
  | succ k ih =>
    intro m A hW hk hm hB
    obtain ⟨m, rfl⟩ : ∃ j, m = j + 1 := ⟨m - 1, by omega⟩
    obtain ⟨q, hq, e⟩ := hB k (by omega)
    have wi := hW i hi
    have wq := hW q hq
    rw [f_X7_canon_L34, if_neg (nI_nle (by omega) (by omega)), nI_pred, gx_44_8, sb, gx_44_42, sb, ldI_n (ly71 fl) (by omega) (by decide), sb, e, ldI_n (ly48 fl) (by omega) (by decide), sb, sb, ldI_n (ly48 fl) (by omega) (by decide), sb, wi.2.1, wq.2.1]
    show _ = k2 44 (nI (i + 1)) (mem (upA A 71 (if cz n i ≤ cz n (A 71 k).toNatClampNeg then upd (A 71) (k + 1) (nI i) else ins (cz n) i k (upd (A 71) (k + 1) (A 71 k)))) B G fl)
    rw [e, nI_clamp (by omega)]
    have hcz := cz_le (n := n) wq.2.2.2.1 wi.2.2.2.1
    by_cases h : cz n i ≤ cz n q
    · rw [if_pos (hcz.mpr h), if_pos h]
      unfold f_X7_canon_K80
      rw [gx_44_42, sb, stI_n (ly71 fl) (by omega) (by decide), sb, nI_1]
    · rw [if_neg (fun x => h (hcz.mp x)), if_neg h, sb, sb, ldI_n (ly71 fl) (by omega) (by decide), sb, e, stI_n (ly71 fl) (by omega) (by decide), sb, show nI (k + 1) + -1 = nI k from pk_m1 k, ih m (upA A 71 (upd (A 71) (k + 1) (nI q))) hW (by omega) (by omega) (fun j hj => by rw [upA_same, upd_ne _ _ _ (by omega)]; exact hB j (by omega)), upA_same, upA_twice]
theorem s_osM (ht : t ≤ 24) (hN : 24 < N) (hG : G 44 3 = nI t) : ∀ (d i m : Nat) (A : Nat → Nat → Int32), Ws s t (B 47) (A 48) R n → i + d = t → d < m → RkB (A 71) i t → ((∀ j, i ≤ j → j < t → 0 < n j) → f_X7_canon_L12 N m 44 (nI i) (mem A B G fl) = f_X7_canon_K93 N 44 (mem (upA A 71 (rkG (cz n) d i (A 71))) B G fl)) ∧ ((∃ j, i ≤ j ∧ j < t ∧ n j = 0) → ∃ r, f_X7_canon_L12 N m 44 (nI i) (mem A B G fl) = some (-5, mem (upA A 71 r) B G fl)) := by
  intro d
  induction d with
  | zero =>
    intro i m A hW h1 hm hB
    obtain ⟨m, rfl⟩ : ∃ j, m = j + 1 := ⟨m - 1, by omega⟩
    refine ⟨fun _ => ?_, fun ⟨j, q1, q2, _⟩ => absurd q1 (by omega)⟩
    rw [f_X7_canon_L12, gx_44_3, sb, hG, if_pos (nI_le (by omega) (by omega))]
    show _ = f_X7_canon_K93 N 44 (mem (upA A 71 (A 71)) B G fl)
    rw [upA_self]
  | succ d ih =>
    intro i m A hW h1 hm hB
    obtain ⟨m, rfl⟩ : ∃ j, m = j + 1 := ⟨m - 1, by omega⟩
    have w := hW i (by omega)
    rw [f_X7_canon_L12, gx_44_3, sb, hG, if_neg (nI_ge (by omega) (by omega)), gx_44_8, sb, ldI_n (ly48 fl) (by omega) (by decide), sb, w.2.1]
    by_cases h0 : n i = 0
    · rw [if_pos (show nI (n i) = 0 by rw [h0]; rfl)]
      refine ⟨fun h => absurd (h i (by omega) (by omega)) (by omega), fun _ => ⟨A 71, by rw [upA_self]⟩⟩
    · rw [if_neg (nI_ne0 (by omega) (by omega)), s_osM1 ht (by omega) _ i N A hW (Nat.le_refl _) (by omega) hB]
      obtain ⟨q1, q2⟩ := ih (i + 1) m (upA A 71 (ins (cz n) i i (A 71))) hW (by omega) (by omega) (by rw [upA_same]; exact ins_B (by omega) hB)
      rw [upA_same, upA_twice] at q1
      refine ⟨fun h => q1 (fun j a b => h j (by omega) b), fun ⟨j, a1, a2, a3⟩ => ?_⟩
      have hne : j ≠ i := by rintro rfl; exact h0 a3
      obtain ⟨r, hr⟩ := q2 ⟨j, by omega, a2, a3⟩
      exact ⟨r, by rw [hr, upA_twice]⟩
end Os
/-- the rows, one behind the other -/
def cnF (s : Nat) (n o : Nat → Nat) : Nat → Nat → Nat → Nat → (Nat → Int64) → Option (Nat → Int64)
  | 0, _, _, _, f => some f
  | d + 1, r, x, q, f => match (if r = 0 then some x else rb s x q) with
    | none => none
    | some y => cnF s n o d (r + 1) y (n (o r)) (vp_updL f (o r) (lN y))
def cnS (n o : Nat → Nat) : Nat → Nat → (Nat → Int32) → (Nat → Int32)
  | 0, _, g => g
  | d + 1, r, g => cnS n o d (r + 1) (upd g (o r) (nI (n (o r))))
theorem cnS_in {n o : Nat → Nat} : ∀ (d r : Nat) (g : Nat → Int32) (j : Nat), (g j = nI (n j) ∨ ∃ r', r ≤ r' ∧ r' < r + d ∧ o r' = j) → cnS n o d r g j = nI (n j) := by
  intro d
  induction d with
  | zero =>
    intro r g j h
    rcases h with h | ⟨r', a, b, -⟩
    · exact h
    · omega
  | succ d ih =>
    intro r g j h
    apply ih (r + 1)
    by_cases e : j = o r
    · subst e; left; exact upd_eq _ _ _
    · rcases h with h | ⟨r', a, b, c⟩
      · left; rw [upd_ne _ _ _ e]; exact h
      · right
        refine ⟨r', ?_, by omega, c⟩
        rcases Nat.eq_or_lt_of_le a with q | q
        · subst q; exact absurd c.symm e
        · exact q
/-- of two beginnings the same rows come, and words of their lengths -/
theorem cn_two {s t : Nat} {n o : Nat → Nat} (hs : s ≤ 4) (hs2 : 0 < s) (hn : ∀ i, i < t → n i ≤ 24) (ho : ∀ j, j < t → o j < t) (hsort : ∀ r, r + 1 < t → n (o r) ≤ n (o (r + 1))) : ∀ (d r x q : Nat) (f f' : Nat → Int64), r + d = t → x < 4 ^ 24 → rz x q → (∀ j, j < 24 → dg x j < s) → q ≤ 24 → (0 < r → q = n (o (r - 1))) → (r = 0 → x = 0) → (cnF s n o d r x q f = none ∧ cnF s n o d r x q f' = none) ∨ ∃ h h', cnF s n o d r x q f = some h ∧ cnF s n o d r x q f' = some h' ∧ ∀ j, ((f j = f' j ∧ Wd s (f j) (nI (n j))) ∨ ∃ r', r ≤ r' ∧ r' < r + d ∧ o r' = j) → h j = h' j ∧ Wd s (h j) (nI (n j)) := by
  intro d
  induction d with
  | zero =>
    intro r x q f f' h1 _ _ _ _ _ _
    right
    refine ⟨f, f', rfl, rfl, fun j h => ?_⟩
    rcases h with h | ⟨r', a, b, -⟩
    · exact h
    · omega
  | succ d ih =>
    intro r x q f f' h1 hx hz hd hq hqr hr0
    have e1 : ∀ f, cnF s n o (d + 1) r x q f = match (if r = 0 then some x else rb s x q) with
      | none => none
      | some y => cnF s n o d (r + 1) y (n (o r)) (vp_updL f (o r) (lN y)) := fun f => rfl
    rw [e1, e1]
    cases hy : (if r = 0 then some x else rb s x q) with
    | none => exact Or.inl ⟨rfl, rfl⟩
    | some y =>
      have hnr := hn (o r) (ho r (by omega))
      have hyok : y < 4 ^ 24 ∧ rz y (n (o r)) ∧ ∀ j, j < 24 → dg y j < s := by
        by_cases h0 : r = 0
        · rw [if_pos h0] at hy
          have := Option.some.inj hy
          subst this
          have hx0 := hr0 h0
          subst hx0
          exact ⟨hx, rz_0 _, hd⟩
        · rw [if_neg h0] at hy
          obtain ⟨a1, a2, a3⟩ := rb_ok hx hs hs2 q y hq (fun j hj => hd j (by omega)) hy
          have hq1 := hqr (by omega)
          have hs1 := hsort (r - 1) (by omega)
          rw [show r - 1 + 1 = r by omega] at hs1
          exact ⟨a1, rz_mono (by omega) a2, a3⟩
      have hwd : Wd s (lN y) (nI (n (o r))) := ⟨y, n (o r), rfl, rfl, hyok.1, hnr, hyok.2.1, fun k hk => hyok.2.2 k (by omega)⟩
      rcases ih (r + 1) y (n (o r)) (vp_updL f (o r) (lN y)) (vp_updL f' (o r) (lN y)) (by omega) hyok.1 hyok.2.1 hyok.2.2 hnr (fun _ => rfl) (fun h => absurd h (by omega)) with h | ⟨h, h', a1, a2, a3⟩
      · exact Or.inl h
      · refine Or.inr ⟨h, h', a1, a2, fun j hj => a3 j ?_⟩
        by_cases e : j = o r
        · subst e
          left
          rw [vpL_eq, vpL_eq]
          exact ⟨rfl, hwd⟩
        · rcases hj with hj | ⟨r', b1, b2, b3⟩
          · left
            rw [vpL_ne _ _ _ e, vpL_ne _ _ _ e]
            exact hj
          · right
            refine ⟨r', ?_, by omega, b3⟩
            rcases Nat.eq_or_lt_of_le b1 with q | q
            · subst q; exact absurd b3.symm e
            · exact q

theorem lg0 {y : Nat} (h : y < 4 ^ 24) : 0 ≤ lg_cmp (lN y) 0 := by
  have h' := r48 h
  have : ¬ lg_cmp (lN y) 0 < 0 := by
    rw [lgL, pk_lT (by omega)]
    show ¬ (y : Int) < 0
    omega
  rw [Int32.lt_iff_toInt_lt] at this
  rw [Int32.le_iff_toInt_le]
  exact Int.not_lt.mp this
theorem lgm1 : ¬ 0 ≤ lg_cmp (-1) 0 := by decide +kernel
section Cn
variable {fl : Nat → Bool} {N s t : Nat} {R n o : Nat → Nat}
theorem s_cnX (ht : t ≤ 24) (hs : s ≤ 4) (hs2 : 0 < s) (hN : 24 < N) (ho : ∀ j, j < t → o j < t) (hn : ∀ i, i < t → 0 < n i ∧ n i ≤ 24) (hsort : ∀ r, r + 1 < t → n (o r) ≤ n (o (r + 1))) {G : Nat → Nat → Int32} (hG : G 13 2 = nI t) (hgs : G 0 10 = nI s) : ∀ (d r m x q : Nat) (A : Nat → Nat → Int32) (B : Nat → Nat → Int64), r + d = t → d < m → x < 4 ^ 24 → rz x q → q ≤ 24 → (∀ j, j < t → A 3 j = nI (o j)) → (∀ j, j < t → A 15 j = nI (n j)) → (∀ j, j < 24 → dg x j < s) → (0 < r → q = n (o (r - 1))) → (r = 0 → x = 0) → (∀ h, cnF s n o d r x q (B 17) = some h → f_X6_makeCanon_L30 N m 0 16 (lN x) (nI q) (nI r) (mem A B G fl) = some (1, mem (upA A 18 (cnS n o d r (A 18))) (upA B 17 h) G fl)) ∧ (cnF s n o d r x q (B 17) = none → ∃ f g, f_X6_makeCanon_L30 N m 0 16 (lN x) (nI q) (nI r) (mem A B G fl) = some (0, mem (upA A 18 g) (upA B 17 f) G fl)) := by
  intro d
  induction d with
  | zero =>
    intro r m x q A B h1 hm _ _ _ _ _ _ _ _
    obtain ⟨m, rfl⟩ : ∃ j, m = j + 1 := ⟨m - 1, by omega⟩
    refine ⟨fun h e => ?_, fun e => by cases e⟩
    have e : some (B 17) = some h := e
    have := Option.some.inj e
    subst this
    rw [f_X6_makeCanon_L30, gx_0_7, sb, gx_13_2, sb, hG, if_pos (nI_le (by omega) (by omega)), upA_self]
    show _ = some (1, mem (upA A 18 (A 18)) B G fl)
    rw [upA_self]
  | succ d ih =>
    intro r m x q A B h1 hm hx hz hq hA3 hA15 hd hqr hr0
    obtain ⟨m, rfl⟩ : ∃ j, m = j + 1 := ⟨m - 1, by omega⟩
    have e1 : cnF s n o (d + 1) r x q (B 17) = match (if r = 0 then some x else rb s x q) with
      | none => none
      | some y => cnF s n o d (r + 1) y (n (o r)) (vp_updL (B 17) (o r) (lN y)) := rfl
    have hor := ho r (by omega)
    have hno := hn (o r) hor
    rw [e1]
    have h82 : ∀ y, y < 4 ^ 24 → rz y q → (∀ j, j < 24 → dg y j < s) → f_X6_makeCanon_K82 N (f_X6_makeCanon_L30 N m) 0 16 (lN y) (nI r) (nI (o r)) (mem A B G fl) = f_X6_makeCanon_L30 N m 0 16 (lN y) (nI (n (o r))) (nI (r + 1)) (mem (upA A 18 (upd (A 18) (o r) (nI (n (o r))))) (upA B 17 (vp_updL (B 17) (o r) (lN y))) G fl) := by
      intro y hy _ _
      unfold f_X6_makeCanon_K82
      rw [if_pos (lg0 hy), gx_0_7, sb, gx_13_1, sb, ldI_n (ly15 fl) (by omega) (by decide), sb, hA15 _ hor, chk_mem (cd16 fl).1, sb, s_giveWord (cd16 fl) (by omega), sb, nI_1]
    rw [f_X6_makeCanon_L30, gx_0_7, sb, gx_13_2, sb, hG, if_neg (nI_ge (by omega) (by omega)), gx_0_2, sb, ldI_n (ly3 fl) (by omega) (by decide), sb, hA3 r (by omega), sb, gx_13_1, sb, ldI_n (ly15 fl) (by omega) (by decide), sb, hA15 _ hor, if_neg (nI_ne0 (by omega) (by omega))]
    have fin : ∀ y, y < 4 ^ 24 → rz y (n (o r)) → (∀ j, j < 24 → dg y j < s) → (∀ h, cnF s n o d (r + 1) y (n (o r)) (vp_updL (B 17) (o r) (lN y)) = some h → f_X6_makeCanon_L30 N m 0 16 (lN y) (nI (n (o r))) (nI (r + 1)) (mem (upA A 18 (upd (A 18) (o r) (nI (n (o r))))) (upA B 17 (vp_updL (B 17) (o r) (lN y))) G fl) = some (1, mem (upA A 18 (cnS n o (d + 1) r (A 18))) (upA B 17 h) G fl)) ∧ (cnF s n o d (r + 1) y (n (o r)) (vp_updL (B 17) (o r) (lN y)) = none → ∃ f g, f_X6_makeCanon_L30 N m 0 16 (lN y) (nI (n (o r))) (nI (r + 1)) (mem (upA A 18 (upd (A 18) (o r) (nI (n (o r))))) (upA B 17 (vp_updL (B 17) (o r) (lN y))) G fl) = some (0, mem (upA A 18 g) (upA B 17 f) G fl)) := by
      intro y hy hzy hdy
      obtain ⟨a1, a2⟩ := ih (r + 1) m y (n (o r)) (upA A 18 (upd (A 18) (o r) (nI (n (o r))))) (upA B 17 (vp_updL (B 17) (o r) (lN y))) (by omega) (by omega) hy hzy hno.2 hA3 hA15 hdy (fun _ => rfl) (fun h => absurd h (by omega))
      simp only [upA_same, upA_twice] at a1 a2
      exact ⟨a1, a2⟩
    by_cases h0 : r = 0
    · have hx0 := hr0 h0
      have hz0 : rz x (n (o r)) := by rw [hx0]; exact rz_0 _
      rw [if_pos (show nI r ≤ 0 by rw [h0]; decide), if_pos h0, h82 x hx hz hd]
      exact fin x hx hz0 hd
    · rw [if_neg (nI_nle (by omega) (by omega)), if_neg h0, gx_0_10, sb, hgs]
      unfold f_X6_rowBehind
      have e2 := s_rowBehind (N := N) (M := mem A B G fl) hx hs2 hs q N hq (by omega)
      rw [ct_all hz] at e2
      rw [e2, b2s]
      cases hy : rb s x q with
      | none =>
        refine ⟨fun h e => (by cases e), fun _ => ⟨B 17, A 18, ?_⟩⟩
        unfold f_X6_makeCanon_K82
        rw [if_neg lgm1, upA_self, upA_self]
      | some y =>
        obtain ⟨a1, a2, a3⟩ := rb_ok hx hs hs2 q y hq (fun j hj => hd j (by omega)) hy
        have hq1 := hqr (by omega)
        have hs1 := hsort (r - 1) (by omega)
        rw [show r - 1 + 1 = r by omega] at hs1
        dsimp only
        rw [h82 y a1 a2 a3]
        exact fin y a1 (rz_mono (by omega) a2) a3
theorem s_cnM (ht : t ≤ 24) (hs : s ≤ 4) (hs2 : 0 < s) (hN : 24 < N) (ho : ∀ j, j < t → o j < t) (hn : ∀ i, i < t → 0 < n i ∧ n i ≤ 24) (hsort : ∀ r, r + 1 < t → n (o r) ≤ n (o (r + 1))) {G : Nat → Nat → Int32} (hG : G 44 3 = nI t) (hgs : G 44 1 = nI s) {A : Nat → Nat → Int32} (hA3 : ∀ j, j < t → A 71 j = nI (o j)) (hA15 : ∀ j, j < t → A 48 j = nI (n j)) : ∀ (d r m x q : Nat) (B : Nat → Nat → Int64), r + d = t → d < m → x < 4 ^ 24 → rz x q → q ≤ 24 → (∀ j, j < 24 → dg x j < s) → (0 < r → q = n (o (r - 1))) → (r = 0 → x = 0) → (∀ h, cnF s n o d r x q (B 66) = some h → f_X7_canon_L100 N m 44 (lN x) (nI q) (nI r) (mem A B G fl) = f_X7_canon_K161 N 44 (mem A (upA B 66 h) G fl)) ∧ (cnF s n o d r x q (B 66) = none → ∃ f, f_X7_canon_L100 N m 44 (lN x) (nI q) (nI r) (mem A B G fl) = some (-5, mem A (upA B 66 f) G fl)) := by
  intro d
  induction d with
  | zero =>
    intro r m x q B h1 hm _ _ _ _ _ _
    obtain ⟨m, rfl⟩ : ∃ j, m = j + 1 := ⟨m - 1, by omega⟩
    refine ⟨fun h e => ?_, fun e => by cases e⟩
    have e : some (B 66) = some h := e
    have := Option.some.inj e
    subst this
    rw [f_X7_canon_L100, gx_44_3, sb, hG, if_pos (nI_le (by omega) (by omega)), upA_self]
  | succ d ih =>
    intro r m x q B h1 hm hx hz hq hd hqr hr0
    obtain ⟨m, rfl⟩ : ∃ j, m = j + 1 := ⟨m - 1, by omega⟩
    have e1 : cnF s n o (d + 1) r x q (B 66) = match (if r = 0 then some x else rb s x q) with
      | none => none
      | some y => cnF s n o d (r + 1) y (n (o r)) (vp_updL (B 66) (o r) (lN y)) := rfl
    have hor := ho r (by omega)
    have hno := hn (o r) hor
    rw [e1]
    have h82 : ∀ y, f_X7_canon_K139 N (f_X7_canon_L100 N m) 44 (lN y) (nI r) (nI (o r)) (mem A B G fl) = f_X7_canon_L100 N m 44 (lN y) (nI (n (o r))) (nI (r + 1)) (mem A (upA B 66 (vp_updL (B 66) (o r) (lN y))) G fl) := by
      intro y
      unfold f_X7_canon_K139
      rw [gx_44_8, sb, ldI_n (ly48 fl) (by omega) (by decide), sb, hA15 _ hor, gx_44_34, sb, stJ_n (ly66 fl) (by omega) (by decide), sb, nI_1]
    rw [f_X7_canon_L100, gx_44_3, sb, hG, if_neg (nI_ge (by omega) (by omega)), gx_44_42, sb, ldI_n (ly71 fl) (by omega) (by decide), sb, hA3 r (by omega)]
    have fin : ∀ y, y < 4 ^ 24 → rz y (n (o r)) → (∀ j, j < 24 → dg y j < s) → (∀ h, cnF s n o d (r + 1) y (n (o r)) (vp_updL (B 66) (o r) (lN y)) = some h → f_X7_canon_L100 N m 44 (lN y) (nI (n (o r))) (nI (r + 1)) (mem A (upA B 66 (vp_updL (B 66) (o r) (lN y))) G fl) = f_X7_canon_K161 N 44 (mem A (upA B 66 h) G fl)) ∧ (cnF s n o d (r + 1) y (n (o r)) (vp_updL (B 66) (o r) (lN y)) = none → ∃ f, f_X7_canon_L100 N m 44 (lN y) (nI (n (o r))) (nI (r + 1)) (mem A (upA B 66 (vp_updL (B 66) (o r) (lN y))) G fl) = some (-5, mem A (upA B 66 f) G fl)) := by
      intro y hy hzy hdy
      obtain ⟨a1, a2⟩ := ih (r + 1) m y (n (o r)) (upA B 66 (vp_updL (B 66) (o r) (lN y))) (by omega) (by omega) hy hzy hno.2 hdy (fun _ => rfl) (fun h => absurd h (by omega))
      simp only [upA_same, upA_twice] at a1 a2
      exact ⟨a1, a2⟩
    by_cases h0 : r = 0
    · have hx0 := hr0 h0
      have hz0 : rz x (n (o r)) := by rw [hx0]; exact rz_0 _
      rw [if_pos (show nI r ≤ 0 by rw [h0]; decide), if_pos h0, h82 x]
      exact fin x hx hz0 hd
    · rw [if_neg (nI_nle (by omega) (by omega)), if_neg h0, ck_44, sb]
      unfold f_X7_next
      have e2 := s_next (N := N) (A := A) (B := B) (fl := fl) hx hs2 hs hgs q N hq (by omega) (fun j hj => hd j (by omega))
      rw [e2, b2s]
      cases hy : rb s x q with
      | none =>
        refine ⟨fun h e => (by cases e), fun _ => ⟨B 66, ?_⟩⟩
        dsimp only
        rw [if_neg lgm1, upA_self]
      | some y =>
        obtain ⟨a1, a2, a3⟩ := rb_ok hx hs hs2 q y hq (fun j hj => hd j (by omega)) hy
        have hq1 := hqr (by omega)
        have hs1 := hsort (r - 1) (by omega)
        rw [show r - 1 + 1 = r by omega] at hs1
        dsimp only
        rw [if_pos (lg0 a1), h82 y]
        exact fin y a1 (rz_mono (by omega) a2) a3
theorem s_cpM (ht : t ≤ 24) {G : Nat → Nat → Int32} (hG : G 44 3 = nI t) {A : Nat → Nat → Int32} : ∀ (d i m : Nat) (B : Nat → Nat → Int64), i + d = t → d < m → f_X7_canon_L164 N m 44 (nI i) (mem A B G fl) = some (1, mem A (upA B 47 (pst (B 47) (B 66) 0 i t)) (upA G 44 (cmG (G 44))) fl) := by
  intro d
  induction d with
  | zero =>
    intro i m B h1 hm
    obtain ⟨m, rfl⟩ : ∃ j, m = j + 1 := ⟨m - 1, by omega⟩
    have hit : i = t := by omega
    subst hit
    rw [f_X7_canon_L164, gx_44_3, sb, hG, if_pos (nI_le (by omega) (by omega)), ck_44, sb, s_comes, sb, pst_end, upA_self]
  | succ d ih =>
    intro i m B h1 hm
    obtain ⟨m, rfl⟩ : ∃ j, m = j + 1 := ⟨m - 1, by omega⟩
    have q2 := pst_stepJ (B 47) (B 66) (o := 0) (i := i) (t := t) (by omega)
    rw [Nat.zero_add] at q2
    have e2 : upA B 47 (vp_updL (B 47) i (B 66 i)) 66 = B 66 := rfl
    rw [f_X7_canon_L164, gx_44_3, sb, hG, if_neg (nI_ge (by omega) (by omega)), gx_44_7, sb, gx_44_34, sb, ldJ_n (ly66 fl) (by omega) (by decide), sb, stJ_n (ly47 fl) (by omega) (by decide), sb, nI_1, ih (i + 1) m _ (by omega) (by omega), upA_same, upA_twice, e2, q2]
end Cn

theorem lo_canon : LO_canon Inv := LawI.mk (fx := f_X6_canon NN 0) (fm := f_X7_canon NN 44) (fun h => ok_X6_canon NN h) (fun h => ok_X7_canon NN h) (by
  intro z A B G fl hz hR
  obtain ⟨s, t, h1, hc, h3, h4, h5, h6, h7, h8⟩ := id hR
  obtain ⟨n1, n2, n3, n4, n5, n6, n7, n8⟩ := id h1
  unfold f_X6_canon f_X7_canon
  rcases id hc with ⟨c1, c2⟩ | ⟨c1, c2, c3, c4, c5, -⟩
  · refine ⟨-3, A, B, G, A, B, G, ?_, ?_, hR.next⟩
    · rw [ck_0, sb, s_hasCode0 c1, b2s, if_pos rfl]
    · rw [gx_44_4, sb, c2, if_pos rfl]
  · obtain ⟨R, n, w1, w2⟩ := ws_both c5
    have hs2 : 0 < s := by omega
    -- the order
    obtain ⟨o, o1, o2, o3⟩ := rkG_P0 (c := cz n) (r := A 3) (t := t) (by omega)
    have hn24 : ∀ i, i < t → n i ≤ 24 := fun i hi => (w1 i hi).2.2.2.1
    have hoL : ∀ j, j < t → o j < t := fun j hj => (o1 j hj).2
    have hsort : ∀ r, r + 1 < t → n (o r) ≤ n (o (r + 1)) := by
      intro r hr
      have h := o3 r (r + 1) (by omega) hr
      have q1 := hn24 (o r) (hoL r (by omega))
      have q2 := hn24 (o (r + 1)) (hoL (r + 1) (by omega))
      unfold cz at h
      rw [nI_leI (by omega) (by omega)] at h
      omega
    have hcov : ∀ j, j < t → ∃ r, r < t ∧ o r = j := fun j hj => fb_onto hoL o2 hj
    generalize hAx : upA (upA A 18 (fun j => if 0 ≤ j ∧ j < 24 then 0 else A 18 j)) 3 (rkG (cz n) t 0 (A 3)) = Ax
    generalize hBx : upA B 17 (fun j => if 0 ≤ j ∧ j < 24 then 0 else B 17 j) = Bx
    generalize hGx : upA G 16 (upd (G 16) 2 (nI t)) = Gx
    have qA : ∀ k, k ≠ 3 → k ≠ 18 → Ax k = A k := fun k hk hk2 => by rw [← hAx, upA_ne _ _ _ hk, upA_ne _ _ _ hk2]
    have qB : ∀ k, k ≠ 17 → Bx k = B k := fun k hk => by rw [← hBx, upA_ne _ _ _ hk]
    have qG : ∀ k, k ≠ 16 → Gx k = G k := fun k hk => by rw [← hGx, upA_ne _ _ _ hk]
    have qG16 : Gx 16 2 = nI t := by rw [← hGx, upA_same, upd_eq]
    have qA3 : Ax 3 = rkG (cz n) t 0 (A 3) := by rw [← hAx, upA_same]
    have qA15 : ∀ j, j < t → Ax 15 j = nI (n j) := fun j hj => by rw [qA 15 (by decide) (by decide)]; exact (w1 j hj).2.1
    have ex : f_X6_makeCanon NN 0 16 (mem A B G fl) = f_X6_makeCanon_L30 NN NN 0 16 (lN 0) (nI 0) (nI 0) (mem Ax Bx Gx fl) := by
      unfold f_X6_makeCanon f_X0_orderBySize
      rw [gx_0_7, sb, gx_13_2, sb, c1, chk_mem (cd16 fl).1, sb, s_begin (cd16 fl) (by show _ < 300000; omega), sb, gx_0_7, sb, gx_0_2, sb, ck_13, sb, show (0 : Int32) = nI 0 from rfl, s_osX (s := s) (R := R) (n := n) n6 (by show _ < 300000; omega) (by exact c1) t 0 NN _ (by exact w1) (by omega) (by show _ < 300000; omega) (RkB0 _ _), sb]
      rw [← hAx, ← hBx, ← hGx]
      rfl
    have em : ∀ (A' : Nat → Nat → Int32) (B' : Nat → Nat → Int64) (G' : Nat → Nat → Int32), A' 48 = A 48 → B' 47 = B 47 → G' 44 = G 44 → ((∀ j, j < t → 0 < n j) → f_X7_canon_L12 NN NN 44 0 (mem A' B' G' fl) = f_X7_canon_K93 NN 44 (mem (upA A' 71 (rkG (cz n) t 0 (A' 71))) B' G' fl)) ∧ ((∃ j, j < t ∧ n j = 0) → ∃ r, f_X7_canon_L12 NN NN 44 0 (mem A' B' G' fl) = some (-5, mem (upA A' 71 r) B' G' fl)) := by
      intro A' B' G' e1 e2 e3
      obtain ⟨q1, q2⟩ := s_osM (fl := fl) (N := NN) (s := s) (R := R) (n := n) (B := B') (G := G') n6 (by show _ < 300000; omega) (by rw [e3]; exact n5) t 0 NN A' (by rw [e1, e2]; exact w2) (by omega) (by show _ < 300000; omega) (RkB0 _ _)
      exact ⟨fun h => q1 (fun j _ hj => h j hj), fun ⟨j, a, b⟩ => q2 ⟨j, by omega, a, b⟩⟩
    by_cases hzero : ∃ j, j < t ∧ n j = 0
    · obtain ⟨j0, hj0, hj1⟩ := hzero
      have hfirst : n (o 0) = 0 := by
        obtain ⟨r, hr, e⟩ := hcov j0 hj0
        have : ∀ r, r < t → n (o 0) ≤ n (o r) := by
          intro r
          induction r with
          | zero => intro _; exact Nat.le_refl _
          | succ r ih => intro h; exact Nat.le_trans (ih (by omega)) (hsort r h)
        have := this r hr
        rw [e, hj1] at this
        omega
      obtain ⟨r71, e71⟩ := (em Ax Bx Gx (qA 48 (by decide) (by decide)) (qB 47 (by decide)) (qG 44 (by decide))).2 ⟨j0, hj0, hj1⟩
      refine ⟨-5, Ax, Bx, Gx, upA Ax 71 r71, Bx, Gx, ?_, ?_, s, t, h1.congr ?_ ?_ ?_ ?_ ?_ ?_ ?_ ?_, hc.congr ?_ ?_ ?_ ?_ ?_ ?_ ?_ ?_ ?_ ?_ ?_ ?_, h3.congr ?_ ?_ ?_ ?_, h4.congr ?_ ?_ ?_ ?_, h5.congr ?_ ?_ ?_ ?_, h6.congr (fun p hp => ?_) ?_ ?_ (fun p hp => ?_) ?_ (fun p hp => ?_), h7.congr ?_ ?_ ?_ ?_ ?_ ?_ ?_ ?_, h8.congr ?_ ?_⟩
      · rw [ck_0, sb, s_hasCode1 c1 c3 n6, b2s, if_neg (show ¬ (1 : Int32) = 0 by decide), gx_0_8, sb, ck_0, sb, ex]
        show bnd2 (f_X6_makeCanon_L30 NN (299999 + 1) 0 16 (lN 0) (nI 0) (nI 0) (mem Ax Bx Gx fl)) _ = _
        have l3 : ldI (mem Ax Bx Gx fl) 3 (nI 0) = some (nI (o 0)) := by rw [ldI_n (ly3 fl) (by decide) (by decide), qA3, (o1 0 c3).1]
        have l15 : ldI (mem Ax Bx Gx fl) 15 (nI (o 0)) = some 0 := by
          have := hoL 0 c3
          rw [ldI_n (ly15 fl) (by omega) (by decide), qA15 _ this, hfirst]; rfl
        rw [f_X6_makeCanon_L30, gx_0_7, sb, gx_13_2, sb, qG 13 (by decide), c1, if_neg (nI_ge (by omega) (by omega)), gx_0_2, sb, l3, sb, sb, gx_13_1, sb, l15, sb, if_pos rfl, b2s, if_pos rfl]
      · rw [gx_44_4, sb, qG 44 (by decide), c2, if_neg (show ¬ (1 : Int32) = 0 by decide)]
        exact e71
      all_goals first
        | (rw [qG _ (by omega)]; done)
        | (rw [qB _ (by omega)]; done)
        | (rw [upA_ne _ _ _ (by omega), qA _ (by omega) (by omega)]; done)
    · have hpos : ∀ j, j < t → 0 < n j := fun j hj => Nat.pos_of_ne_zero (fun e => hzero ⟨j, hj, e⟩)
      have hn1 : ∀ i, i < t → 0 < n i ∧ n i ≤ 24 := fun i hi => ⟨hpos i hi, hn24 i hi⟩
      have hd0 : ∀ j, j < 24 → dg 0 j < s := fun j hj => by rw [dg_rz (rz_0 0) (by omega) hj]; exact hs2
      have h00 : (0 : Nat) < 4 ^ 24 := Nat.pow_pos (by decide)
      obtain ⟨x1, x2⟩ := s_cnX (fl := fl) (N := NN) n6 n3 hs2 (by show _ < 300000; omega) hoL hn1 hsort (G := Gx) (by rw [qG 13 (by decide)]; exact c1) (by rw [qG 0 (by decide)]; exact n1) t 0 NN 0 0 Ax Bx (by omega) (by show _ < 300000; omega) h00 (rz_0 0) (by omega) (fun j hj => by rw [qA3]; exact (o1 j hj).1) qA15 hd0 (fun h => absurd h (by omega)) (fun _ => rfl)
      have hm : ∀ (A' : Nat → Nat → Int32) (B' : Nat → Nat → Int64) (G' : Nat → Nat → Int32), A' 48 = A 48 → B' 47 = B 47 → B' 66 = B 66 → G' 44 = G 44 → (∀ h, cnF s n o t 0 0 0 (B 66) = some h → f_X7_canon_L12 NN NN 44 0 (mem A' B' G' fl) = some (1, mem (upA A' 71 (rkG (cz n) t 0 (A' 71))) (upA (upA B' 66 h) 47 (pst (B 47) h 0 0 t)) (upA G' 44 (cmG (G 44))) fl)) ∧ (cnF s n o t 0 0 0 (B 66) = none → ∃ f, f_X7_canon_L12 NN NN 44 0 (mem A' B' G' fl) = some (-5, mem (upA A' 71 (rkG (cz n) t 0 (A' 71))) (upA B' 66 f) G' fl)) := by
        intro A' B' G' e1 e2 e3 e4
        rw [(em A' B' G' e1 e2 e4).1 hpos]
        obtain ⟨y1, y2⟩ := s_cnM (fl := fl) (N := NN) n6 n3 hs2 (by show _ < 300000; omega) hoL hn1 hsort (G := G') (by rw [e4]; exact n5) (by rw [e4]; exact n2) (A := upA A' 71 (rkG (cz n) t 0 (A' 71))) (fun j hj => by rw [upA_same, rkG_cg (c := cz n) (c' := cz n) (n := t) (fun _ _ => rfl) (by omega) t 0 (A' 71) (A 3) (by omega) (RkB0 _ _) (fun j hj => absurd hj (by omega)) j (by omega)]; exact (o1 j hj).1) (fun j hj => by rw [upA_ne _ _ _ (by decide), e1]; exact (w2 j hj).2.1) t 0 NN 0 0 B' (by omega) (by show _ < 300000; omega) h00 (rz_0 0) (by omega) hd0 (fun h => absurd h (by omega)) (fun _ => rfl)
        rw [e3] at y1 y2
        refine ⟨fun h hh => ?_, fun hh => y2 hh⟩
        unfold f_X7_canon_K93
        refine Eq.trans (y1 h hh) ?_
        unfold f_X7_canon_K161
        refine Eq.trans (s_cpM (fl := fl) (N := NN) n6 (G := G') (by rw [e4]; exact n5) t 0 NN _ (by omega) (by show _ < 300000; omega)) ?_
        rw [upA_same, upA_ne _ _ _ (by decide), e2, e4]
      rcases cn_two n3 hs2 hn24 hoL hsort t 0 0 0 (Bx 17) (B 66) (by omega) h00 (rz_0 0) hd0 (by omega) (fun h => absurd h (by omega)) (fun _ => rfl) with ⟨z1, z2⟩ | ⟨h, h', z1, z2, z3⟩
      · obtain ⟨f, g, e5⟩ := x2 z1
        obtain ⟨f2, e6⟩ := (hm (upA Ax 18 g) (upA Bx 17 f) Gx (by rw [upA_ne _ _ _ (by decide), qA 48 (by decide) (by decide)]) (by rw [upA_ne _ _ _ (by decide), qB 47 (by decide)]) (by rw [upA_ne _ _ _ (by decide), qB 66 (by decide)]) (qG 44 (by decide))).2 z2
        refine ⟨-5, upA Ax 18 g, upA Bx 17 f, Gx, upA (upA Ax 18 g) 71 (rkG (cz n) t 0 (upA Ax 18 g 71)), upA (upA Bx 17 f) 66 f2, Gx, ?_, ?_, s, t, h1.congr ?_ ?_ ?_ ?_ ?_ ?_ ?_ ?_, hc.congr ?_ ?_ ?_ ?_ ?_ ?_ ?_ ?_ ?_ ?_ ?_ ?_, h3.congr ?_ ?_ ?_ ?_, h4.congr ?_ ?_ ?_ ?_, h5.congr ?_ ?_ ?_ ?_, h6.congr (fun p hp => ?_) ?_ ?_ (fun p hp => ?_) ?_ (fun p hp => ?_), h7.congr ?_ ?_ ?_ ?_ ?_ ?_ ?_ ?_, h8.congr ?_ ?_⟩
        · rw [ck_0, sb, s_hasCode1 c1 c3 n6, b2s, if_neg (show ¬ (1 : Int32) = 0 by decide), gx_0_8, sb, ck_0, sb, ex, e5, b2s, if_pos rfl]
        · rw [gx_44_4, sb, qG 44 (by decide), c2, if_neg (show ¬ (1 : Int32) = 0 by decide)]
          exact e6
        all_goals first
          | (rw [qG _ (by omega)]; done)
          | (rw [upA_ne _ _ _ (by omega), upA_ne _ _ _ (by omega), qB _ (by omega)]; done)
          | (rw [upA_ne _ _ _ (by omega), upA_ne _ _ _ (by omega), qA _ (by omega) (by omega)]; done)
      · have e5 := x1 h z1
        generalize hA1 : upA (upA Ax 18 (cnS n o t 0 (Ax 18))) 15 (va_cpy (upA Ax 18 (cnS n o t 0 (Ax 18)) 18) (upA Ax 18 (cnS n o t 0 (Ax 18)) 15) 0 0 24) = A1
        generalize hB1 : upA (upA Bx 17 h) 14 (va_cpy (upA Bx 17 h 17) (upA Bx 17 h 14) 0 0 24) = B1
        generalize hG1 : upA (upA Gx 13 (upd (Gx 13) 2 (Gx 16 2))) 0 (upd (upA Gx 13 (upd (Gx 13) 2 (Gx 16 2)) 0) 12 0) = G1
        have rA : ∀ k, k ≠ 3 → k ≠ 18 → k ≠ 15 → A1 k = A k := fun k a b c => by rw [← hA1, upA_ne _ _ _ c, upA_ne _ _ _ b, qA k a b]
        have rB : ∀ k, k ≠ 17 → k ≠ 14 → B1 k = B k := fun k a b => by rw [← hB1, upA_ne _ _ _ b, upA_ne _ _ _ a, qB k a]
        have rG : ∀ k, k ≠ 16 → k ≠ 13 → k ≠ 0 → G1 k = G k := fun k a b c => by rw [← hG1, upA_ne _ _ _ c, upA_ne _ _ _ b, qG k a]
        have rG0 : ∀ j, j ≠ 12 → G1 0 j = G 0 j := fun j hj => by rw [← hG1, upA_same, upd_ne _ _ _ hj, upA_ne _ _ _ (by decide), qG 0 (by decide)]
        have rG13 : G1 13 2 = nI t := by rw [← hG1, upA_ne _ _ _ (by decide), upA_same, upd_eq, qG16]
        have rG12 : G1 0 12 = 0 := by rw [← hG1, upA_same, upd_eq]
        have rA15 : ∀ j, j < t → A1 15 j = nI (n j) := fun j hj => by
          rw [← hA1, upA_same, cpy_in _ _ (by omega), upA_same]
          obtain ⟨r, hr, e⟩ := hcov j hj
          exact cnS_in t 0 _ j (Or.inr ⟨r, by omega, by omega, e⟩)
        have rB14 : ∀ j, j < t → B1 14 j = h j := fun j hj => by rw [← hB1, upA_same, cpy_in _ _ (by omega), upA_same]
        have e6 := (hm A1 B1 G1 (rA 48 (by decide) (by decide) (by decide)) (rB 47 (by decide) (by decide)) (rB 66 (by decide) (by decide)) (rG 44 (by decide) (by decide) (by decide))).1 h' z2
        refine ⟨1, A1, B1, G1, upA A1 71 (rkG (cz n) t 0 (A1 71)), upA (upA B1 66 h') 47 (pst (B 47) h' 0 0 t), upA G1 44 (cmG (G 44)), ?_, ?_, s, t, h1.congr ?_ ?_ ?_ ?_ ?_ ?_ ?_ ?_, Or.inr ⟨?_, rfl, c3, c4, fun i hi => ?_, Or.inl ⟨?_, rfl, rfl⟩⟩, h3.congr ?_ ?_ ?_ ?_, h4.congr ?_ ?_ ?_ ?_, h5.congr ?_ ?_ ?_ ?_, h6.congr (fun p hp => ?_) ?_ ?_ (fun p hp => ?_) ?_ (fun p hp => ?_), h7.congr ?_ ?_ ?_ ?_ ?_ ?_ ?_ ?_, h8.congr ?_ ?_⟩
        · rw [ck_0, sb, s_hasCode1 c1 c3 n6, b2s, if_neg (show ¬ (1 : Int32) = 0 by decide), gx_0_8, sb, ck_0, sb, ex, e5, b2s, if_neg (show ¬ (1 : Int32) = 0 by decide), gx_0_8, sb, ck_0, sb]
          unfold f_X6_handOver
          rw [gx_0_7, sb, ck_13, sb, s_take (cd13 fl) (cd16 fl) (by omega), sb, px_0_12, sb, sb, hA1, hB1, hG1]
        · rw [gx_44_4, sb, rG 44 (by decide) (by decide) (by decide), c2, if_neg (show ¬ (1 : Int32) = 0 by decide)]
          exact e6
        all_goals first
          | (rw [upA_ne _ _ _ (by omega), rG0 _ (by decide)]; done)
          | (rw [upA_ne _ _ _ (by omega), rG _ (by omega) (by omega) (by omega)]; done)
          | (rw [upA_ne _ _ _ (by omega), upA_ne _ _ _ (by omega), rB _ (by omega) (by omega)]; done)
          | (rw [upA_ne _ _ _ (by omega), rA _ (by omega) (by omega) (by omega)]; done)
          | (rw [upA_same]; rfl)
          | (rw [upA_ne _ _ _ (by omega)]; first | exact rG13 | exact rG12)
          | skip
        obtain ⟨r, hr, e⟩ := hcov i hi
        obtain ⟨y1, y2⟩ := z3 i (Or.inr ⟨r, by omega, by omega, e⟩)
        have pi := pst_in (B 47) h' (o := 0) hi
        rw [Nat.zero_add] at pi
        rw [upA_same, upA_ne _ _ _ (by decide), upA_ne _ _ _ (by decide), upA_ne _ _ _ (by decide), upA_ne _ _ _ (by decide), pi, rB14 i hi, rA15 i hi, rA 48 (by decide) (by decide) (by decide), (w2 i hi).2.1]
        exact ⟨y1.symm, rfl, y2⟩)
