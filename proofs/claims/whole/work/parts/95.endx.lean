/-! ENDED: the class -/
theorem php : ∀ (n : Nat) (o : Nat → Nat), (∀ j, j < n + 1 → o j < n) → ∃ j1 j2, j1 < j2 ∧ j2 < n + 1 ∧ o j1 = o j2 := by
  intro n
  induction n with
  | zero => intro o h; exact absurd (h 0 (by omega)) (Nat.not_lt_zero _)
  | succ n ih =>
    intro o h
    by_cases hq : ∃ j, j < n + 1 ∧ o j = o (n + 1)
    · obtain ⟨j, h1, h2⟩ := hq
      exact ⟨j, n + 1, h1, by omega, h2⟩
    · have hne : ∀ j, j < n + 1 → o j ≠ o (n + 1) := fun j hj e => hq ⟨j, hj, e⟩
      have hv := h (n + 1) (by omega)
      obtain ⟨j1, j2, a, b, c⟩ := ih (fun j => if o (n + 1) < o j then o j - 1 else o j) (fun j hj => by
        have h1 := h j (by omega)
        have h2 := hne j hj
        show (if o (n + 1) < o j then o j - 1 else o j) < n
        split <;> omega)
      have c : (if o (n + 1) < o j1 then o j1 - 1 else o j1) = (if o (n + 1) < o j2 then o j2 - 1 else o j2) := c
      have h1 := hne j1 (by omega)
      have h2 := hne j2 (by omega)
      refine ⟨j1, j2, a, by omega, ?_⟩
      split at c <;> split at c <;> omega
theorem inj_all {t : Nat} {o : Nat → Nat} (h1 : ∀ j, j < t → o j < t) (h2 : ∀ j1 j2, j1 < j2 → j2 < t → o j1 ≠ o j2) {i : Nat} (hi : i < t) : ∃ j, j < t ∧ o j = i := by
  refine Classical.byContradiction fun hn => ?_
  have hne : ∀ j, j < t → o j ≠ i := fun j hj e => hn ⟨j, hj, e⟩
  obtain ⟨n, rfl⟩ : ∃ n, t = n + 1 := ⟨t - 1, by omega⟩
  obtain ⟨j1, j2, a, b, c⟩ := php n (fun j => if i < o j then o j - 1 else o j) (fun j hj => by
    have q1 := h1 j hj
    have q2 := hne j hj
    show (if i < o j then o j - 1 else o j) < n
    split <;> omega)
  have c : (if i < o j1 then o j1 - 1 else o j1) = (if i < o j2 then o j2 - 1 else o j2) := c
  have q1 := hne j1 (by omega)
  have q2 := hne j2 (by omega)
  have q3 := h2 j1 j2 a b
  split at c <;> split at c <;> omega
/-- the word number r -/
def wE (P : Nat → Nat) (s x r : Nat) : Nat × Nat := (((stE P s x r).headD (0, 0, 0)).1 + x * 4 ^ (23 - ((stE P s x r).headD (0, 0, 0)).2.1), ((stE P s x r).headD (0, 0, 0)).2.1 + 1)
theorem op9 (fl : Nat → Bool) : opL fl 9 := ⟨ly9 fl, ly10 fl, ly11 fl, ly12 fl, by decide⟩
section Ex
variable {fl : Nat → Bool} {N s t : Nat} {P : Nat → Nat} {o : Nat → Nat}
/-- what the class reads -/
def EdX (A : Nat → Nat → Int32) (G : Nat → Nat → Int32) (P o : Nat → Nat) (s t : Nat) : Prop := G 0 10 = nI s ∧ G 0 11 = nI t ∧ (∀ u, u < s → A 1 u = nI (P u) ∧ P u ≤ 9) ∧ (∀ j, j < t → A 3 j = nI (o j) ∧ o j < t)
theorem EdX.fr {A A' : Nat → Nat → Int32} {G G' : Nat → Nat → Int32} (h : EdX A G P o s t) (h1 : A' 1 = A 1) (h3 : A' 3 = A 3) (h0 : G' 0 = G 0) : EdX A' G' P o s t := by
  unfold EdX at *
  rw [h1, h3, h0]
  exact h
theorem s_kidX (hN : 300 < N) (hs : s ≤ 4) {x r f : Nat} {e : Ent} (he : EnW s e) (hn : e.2.1 ≤ 23) (hl : e.2.2 ≤ 300) (k32 : Nat → Nat → Int32 → Int32 → A_M → Option A_M) : ∀ (k u m : Nat) (A : Nat → Nat → Int32) (B : Nat → Nat → Int64) (G : Nat → Nat → Int32) (S : List Ent), u + k = s → k < m → EdX A G P o s t → x < s → OpS A B G 9 f S → f + S.length + k < 97 → (∀ y, y ∈ S → EnS y) →
    ∃ A' B' G', f_X6_makeEnded_L109 N k32 m 0 16 (nI x) (nI r) (lN e.1) (nI e.2.1) (nI e.2.2) (nI u) (mem A B G fl) = k32 0 16 (nI x) (nI (r + 1)) (mem A' B' G' fl) ∧ FrP2 9 A A' B B' G G' ∧ OpS A' B' G' 9 f (insA (kidL P x e k u) S) := by
  intro k
  induction k with
  | zero =>
    intro u m A B G S hu hm hE hx hO h97 hS
    obtain ⟨m, rfl⟩ : ∃ j, m = j + 1 := ⟨m - 1, by omega⟩
    refine ⟨A, B, G, ?_, FrP2.refl 9 A B G, hO⟩
    rw [f_X6_makeEnded_L109, gx_0_10, sb, hE.1, if_pos (nI_le (by omega) (by omega)), f_X6_makeEnded_K160, nI_1]
  | succ k ih =>
    intro u m A B G S hu hm hE hx hO h97 hS
    obtain ⟨m, rfl⟩ : ∃ j, m = j + 1 := ⟨m - 1, by omega⟩
    rw [f_X6_makeEnded_L109, gx_0_10, sb, hE.1, if_neg (nI_ge (by omega) (by omega)), kidL]
    by_cases hux : u = x
    · rw [if_pos hux, if_pos (by rw [hux]), f_X6_makeEnded_K154, nI_1]
      exact ih (u + 1) m A B G S (by omega) (by omega) hE hx hO (by omega) hS
    · obtain ⟨p1, p2⟩ := hE.2.2.1 u (by omega)
      have hw := Wv.add (u := u) he hn (by omega) hs
      have hkd : EnS (kd P e u) := ⟨hw.1, hw.2.1, by show e.2.2 + P u ≤ 1000; omega⟩
      obtain ⟨A1, B1, G1, c1', c2, c3⟩ := s_insert (fl := fl) (N := N) (op9 fl) (by omega) hkd (show f + S.length < 97 by omega) hS hO
      obtain ⟨A', B', G', g1, g2, g3⟩ := ih (u + 1) m A1 B1 G1 (insS (kd P e u) S) (by omega) (by omega) (hE.fr (c2.1 1 (by omega) (by omega)) (c2.1 3 (by omega) (by omega)) (c2.2.2 0 (by omega))) hx c3 (by rw [insS_len]; omega) (fun y hy => by
        rcases List.mem_cons.mp ((insS_perm _ _).mem_iff.mp hy) with rfl | hy
        · exact hkd
        · exact hS y hy)
      refine ⟨A', B', G', ?_, c2.trans g2, ?_⟩
      · rw [if_neg (fun q => hux ((nI_eq (by omega) (by omega)).mp q)), gx_0_6, sb, s_rowAndSign (by omega) he.2.2.1 (by omega), b2s, gx_0_0, sb, ldI_n (ly1 fl) (by omega) (by decide), sb, p1, ck_9, sb, show nI e.2.1 + (1 : Int32) = nI (e.2.1 + 1) from nI_1 _, nI_add]
        rw [show f_X3_insert N 9 (lN (e.1 + u * 4 ^ (23 - e.2.1))) (nI (e.2.1 + 1)) (nI (e.2.2 + P u)) (mem A B G fl) = _ from c1', sb, f_X6_makeEnded_K154, nI_1, g1]
      · rw [if_neg hux]
        exact g3
theorem s_endL (hN : 300 < N) (hs2 : 2 ≤ s) (hs : s ≤ 4) (ht : t ≤ 24) {x : Nat} (hx : x < s) (hinj : ∀ j1 j2, j1 < j2 → j2 < t → o j1 ≠ o j2) : ∀ (d r m : Nat) (A : Nat → Nat → Int32) (B : Nat → Nat → Int64) (G : Nat → Nat → Int32), r + d = t → d < m → EdX A G P o s t → OpS A B G 9 r (stE P s x r) →
    ∃ A' B' G', f_X6_makeEnded_L32 N m 0 16 (nI x) (nI r) (mem A B G fl) = some (mem A' B' G' fl) ∧ (∀ k, k ≠ 11 → k ≠ 12 → k ≠ 18 → A' k = A k) ∧ (∀ k, k ≠ 10 → k ≠ 17 → B' k = B k) ∧ (∀ k, k ≠ 9 → G' k = G k) ∧ (∀ j, r ≤ j → j < t → B' 17 (o j) = lN (wE P s x j).1 ∧ A' 18 (o j) = nI (wE P s x j).2) ∧ (∀ i, (∀ j, r ≤ j → j < t → o j ≠ i) → B' 17 i = B 17 i ∧ A' 18 i = A 18 i) := by
  intro d
  induction d with
  | zero =>
    intro r m A B G h hm hE hO
    obtain ⟨m, rfl⟩ : ∃ j, m = j + 1 := ⟨m - 1, by omega⟩
    refine ⟨A, B, G, ?_, fun _ _ _ _ => rfl, fun _ _ _ => rfl, fun _ _ => rfl, fun j h1 h2 => by omega, fun _ _ => ⟨rfl, rfl⟩⟩
    rw [f_X6_makeEnded_L32, gx_0_11, sb, hE.2.1, if_pos (nI_le (by omega) (by omega))]
  | succ d ih =>
    intro r m A B G h hm hE hO
    obtain ⟨m, rfl⟩ : ∃ j, m = j + 1 := ⟨m - 1, by omega⟩
    obtain ⟨i1, i2, i3⟩ := stE_ok hs2 hs hx (fun u hu => (hE.2.2.1 u hu).2) r (by omega)
    have hwE : wE P s x r = (((stE P s x r).headD (0, 0, 0)).1 + x * 4 ^ (23 - ((stE P s x r).headD (0, 0, 0)).2.1), ((stE P s x r).headD (0, 0, 0)).2.1 + 1) := rfl
    have hnext : stE P s x (r + 1) = match stE P s x r with
      | [] => []
      | e :: S => insA (kidL P x e s 0) S := rfl
    have hrs : r * (s - 2) ≤ 24 * 2 := Nat.mul_le_mul (by omega) (by omega)
    cases hS : stE P s x r with
    | nil => rw [hS] at i3; have : ([] : List Ent).length = 0 := rfl; omega
    | cons e S =>
      rw [hS] at i1 i2 i3 hO hwE hnext
      dsimp only at hnext
      have hwE : wE P s x r = (e.1 + x * 4 ^ (23 - e.2.1), e.2.1 + 1) := hwE
      have hc : (e :: S).length = S.length + 1 := rfl
      obtain ⟨e1, e2, e3⟩ := i2.2 e List.mem_cons_self
      obtain ⟨q1, q2, q3, q4, q5, q6⟩ := s_first (fl := fl) (N := N) (op9 fl) (show r + S.length < 97 by omega) hO
      generalize hG1 : upA G 9 (upd (G 9) 3 (nI (r + 1))) = G1 at q5 q6
      have g0 : ∀ k, k ≠ 9 → G1 k = G k := fun k hk => by rw [← hG1, upA_ne _ _ _ hk]
      obtain ⟨o1, o2⟩ := hE.2.2.2 r (by omega)
      have hcd : cdL fl 16 := ⟨ly16 fl, ly17 fl, ly18 fl, by decide⟩
      have hgw := s_giveWord (A := A) (B := B) (G := G1) (N := N) hcd (show o r < 24 by omega) (lN (e.1 + x * 4 ^ (23 - e.2.1))) (nI (e.2.1 + 1))
      generalize hA1 : upA A (16 + 2) (upd (A (16 + 2)) (o r) (nI (e.2.1 + 1))) = A1 at hgw
      generalize hB1 : upA B (16 + 1) (vp_updL (B (16 + 1)) (o r) (lN (e.1 + x * 4 ^ (23 - e.2.1)))) = B1 at hgw
      have a0 : ∀ k, k ≠ 18 → A1 k = A k := fun k hk => by rw [← hA1, upA_ne _ _ _ hk]
      have b0 : ∀ k, k ≠ 17 → B1 k = B k := fun k hk => by rw [← hB1, upA_ne _ _ _ hk]
      have a18 : A1 18 = upd (A 18) (o r) (nI (e.2.1 + 1)) := by rw [← hA1]; exact upA_same _ _ _
      have b17 : B1 17 = vp_updL (B 17) (o r) (lN (e.1 + x * 4 ^ (23 - e.2.1))) := by rw [← hB1]; exact upA_same _ _ _
      have hE1 : EdX A1 G1 P o s t := hE.fr (a0 1 (by omega)) (a0 3 (by omega)) (g0 0 (by omega))
      have hens := i2.ens (by omega)
      obtain ⟨A2, B2, G2, k1, k2, k3⟩ := s_kidX (fl := fl) (N := N) (t := t) (P := P) (o := o) (x := x) (r := r) (f := r + 1) hN hs e1 (by omega) (by omega) (f_X6_makeEnded_L32 N m) s 0 N A1 B1 G1 S (by omega) (by omega) hE1 hx ⟨q6.1, q6.2.1, fun k y hy => by
        obtain ⟨c1, c2, c3⟩ := q6.2.2 k y hy
        exact ⟨by rw [b0 10 (by omega)]; exact c1, by rw [a0 11 (by omega)]; exact c2, by rw [a0 12 (by omega)]; exact c3⟩⟩ (by omega) (fun y hy => hens y (List.mem_cons_of_mem _ hy))
      obtain ⟨A3, B3, G3, d1, d2, d3, d4, d5, d6⟩ := ih (r + 1) m A2 B2 G2 (by omega) (by omega) (hE1.fr (k2.1 1 (by omega) (by omega)) (k2.1 3 (by omega) (by omega)) (k2.2.2 0 (by omega))) (by rw [hnext]; exact k3)
      refine ⟨A3, B3, G3, ?_, fun k x y z => by rw [d2 k x y z, k2.1 k x y, a0 k z], fun k x y => by rw [d3 k x y, k2.2.1 k x, b0 k y], fun k x => by rw [d4 k x, k2.2.2 k x, g0 k x], fun j h1 h2 => ?_, fun i hi => ?_⟩
      · rw [f_X6_makeEnded_L32, gx_0_11, sb, hE.2.1, if_neg (nI_ge (by omega) (by omega)), gx_0_6, sb, ck_9, sb, q1, b2s, if_neg (show ¬ (1 : Int32) = 0 by decide), gx_0_6, sb, ck_9, sb, q2, b2s, gx_0_6, sb, ck_9, sb, q3, b2s, gx_0_6, sb, ck_9, sb, q4, b2s, gx_0_6, sb, ck_9, sb, q5, sb, gx_0_2, sb, ldI_n (ly3 fl) (by omega) (by decide), sb, o1, s_rowAndSign (by omega) e1.2.2.1 (by omega), b2s, ck_16, sb, show nI e.2.1 + (1 : Int32) = nI (e.2.1 + 1) from nI_1 _, hgw, sb, show (0 : Int32) = nI 0 from rfl, k1, d1]
      · by_cases hj : j = r
        · subst hj
          obtain ⟨v1, v2⟩ := d6 (o j) (fun j2 g1 g2 => fun q => hinj j j2 (by omega) g2 q.symm)
          rw [v1, v2, k2.2.1 17 (by omega), k2.1 18 (by omega) (by omega), a18, b17, upd_eq, vpL_eq, hwE]
          exact ⟨rfl, rfl⟩
        · exact d5 j (by omega) h2
      · obtain ⟨v1, v2⟩ := d6 i (fun j2 g1 g2 => hi j2 (by omega) g2)
        have hne := hi r (Nat.le_refl _) (by omega)
        rw [v1, v2, k2.2.1 17 (by omega), k2.1 18 (by omega) (by omega), a18, b17, upd_ne _ _ _ (fun q => hne q.symm), vpL_ne _ _ _ (fun q => hne q.symm)]
        exact ⟨rfl, rfl⟩
end Ex
