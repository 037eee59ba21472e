/-! ENDED: the same words -/
section Ee
variable {fl : Nat → Bool} {N s t : Nat} {P : Nat → Nat} {o : Nat → Nat}
theorem s_em24 (hN : 500 < N) (hs2 : 2 ≤ s) (hs : s ≤ 4) (ht : t ≤ 24) {x : Nat} (hx : x < s) (hinj : ∀ j1 j2, j1 < j2 → j2 < t → o j1 ≠ o j2) : ∀ (d p m tt : Nat) (A : Nat → Nat → Int32) (B : Nat → Nat → Int64) (G : Nat → Nat → Int32) (L : List Ent), p + d = 240 → d < m → tt ≤ t → EdM A G P o s t → (tt < t → OpM A B G L ∧ (stE P s x tt).Perm L ∧ ∀ z, z ∈ L → p ≤ z.2.2) →
    ∃ A' B' G', f_X7_buildEnded_L24 N m 44 (nI x) (nI tt) (nI p) (mem A B G fl) = some (mem A' B' G' fl) ∧ (∀ k, k ≠ 48 → k ≠ 56 → k ≠ 57 → k ≠ 58 → A' k = A k) ∧ (∀ k, k ≠ 47 → k ≠ 55 → B' k = B k) ∧ (∀ k, k ≠ 44 → G' k = G k) ∧ (∀ f, f ≠ 21 → f ≠ 23 → G' 44 f = G 44 f) ∧ (∀ j, tt ≤ j → j < t → B' 47 (o j) = lN (wE P s x j).1 ∧ A' 48 (o j) = nI (wE P s x j).2) ∧ (∀ y, (∀ j, tt ≤ j → j < t → o j ≠ y) → B' 47 y = B 47 y ∧ A' 48 y = A 48 y) := by
  intro d
  induction d with
  | zero =>
    intro p m tt A B G L hpd hm htt hE hL
    obtain ⟨m, rfl⟩ : ∃ j, m = j + 1 := ⟨m - 1, by omega⟩
    by_cases hlt : tt < t
    · exfalso
      obtain ⟨-, h2, h3⟩ := hL hlt
      obtain ⟨i1, i2, i3⟩ := stE_ok hs2 hs hx (fun u hu => (hE.2.2.1 u hu).2.2) tt (by omega)
      cases hS : stE P s x tt with
      | nil => rw [hS] at i3; have : ([] : List Ent).length = 0 := rfl; omega
      | cons e S =>
        rw [hS] at h2 i2
        have h4 := h3 e (h2.mem_iff.mp List.mem_cons_self)
        have h5 := (i2.2 e List.mem_cons_self).2.2
        omega
    · refine ⟨A, B, G, ?_, fun _ _ _ _ _ => rfl, fun _ _ _ => rfl, fun _ _ => rfl, fun _ _ _ => rfl, fun j h1 h2 => by omega, fun _ _ => ⟨rfl, rfl⟩⟩
      rw [f_X7_buildEnded_L24, gx_44_3, sb, hE.2.1, if_pos (nI_le (by omega) (by omega))]
  | succ d ih =>
    intro p m tt A B G L hpd hm htt hE hL
    obtain ⟨m, rfl⟩ : ∃ j, m = j + 1 := ⟨m - 1, by omega⟩
    by_cases hlt : tt < t
    · obtain ⟨h1, h2, h3⟩ := hL hlt
      obtain ⟨i1, i2, i3⟩ := stE_ok hs2 hs hx (fun u hu => (hE.2.2.1 u hu).2.2) tt (by omega)
      have hOL := i2.perm h2
      have hens := hOL.ens (show tt ≤ 24 by omega)
      have hrs : tt * (s - 2) ≤ 24 * 2 := Nat.mul_le_mul (by omega) (by omega)
      have hLl : L.length = 1 + tt * (s - 2) := by rw [← h2.length_eq]; exact i3
      have hD : ∀ a b, a < L.length → b < L.length → a ≠ b → (eN L a).1 ≠ (eN L b).1 := by
        have hpw := List.pairwise_iff_getElem.mp hOL.1
        have hget : ∀ a (ha : a < L.length), eN L a = L[a] := fun a ha => by
          have := eN_get ha
          rw [List.getElem?_eq_getElem ha] at this
          exact (Option.some.inj this).symm
        intro a b ha hb hab
        rw [hget a ha, hget b hb]
        rcases Nat.lt_or_ge a b with q | q
        · exact apt_row (hens _ (List.getElem_mem ha)).2.1 (hpw a b ha hb q)
        · exact fun e => apt_row (hens _ (List.getElem_mem hb)).2.1 (hpw b a hb ha (by omega)) e.symm
      obtain ⟨A1, G1, T, f1, f2, f3, f4, f5, f6, f7, f8, f9⟩ := s_findTurn (fl := fl) (N := N) (B := B) (by omega) hens hD hN (show p ≤ 1000 by omega) A G h1
      have hE1 : EdM A1 G1 P o s t := hE.fr (f2 45 (by omega)) (f2 50 (by omega)) (f4 1 (by omega)) (f4 3 (by omega))
      have hM1 : OpM A1 B G1 L := ⟨by rw [f4 21 (by omega)]; exact h1.1, fun k z hz => by rw [f2 56 (by omega), f2 57 (by omega)]; exact h1.2 k z hz⟩
      have hTL : T.length ≤ L.length := by
        have := f9.length_eq
        rw [List.length_map] at this
        rw [this]
        exact List.length_filter_le _ _
      have hsplit : ∀ M : List Ent, (∀ z, z ∈ M → p ≤ z.2.2) → M.Perm (M.filter (fun z => decide (z.2.2 = p)) ++ M.filter (fun z => decide (p < z.2.2))) := by
        intro M
        induction M with
        | nil => intro _; exact List.Perm.refl _
        | cons z M ihM =>
          intro hz
          have h4 := hz z List.mem_cons_self
          have h5 := ihM (fun w hw => hz w (List.mem_cons_of_mem _ hw))
          by_cases h6 : z.2.2 = p
          · rw [List.filter_cons_of_pos (by exact decide_eq_true h6), List.filter_cons_of_neg (by rw [decide_eq_false (by omega)]; decide)]
            exact List.Perm.cons z h5
          · rw [List.filter_cons_of_neg (by rw [decide_eq_false h6]; decide), List.filter_cons_of_pos (by exact decide_eq_true (by omega))]
            exact (List.Perm.cons z h5).trans (List.perm_middle).symm
      obtain ⟨A2, B2, G2, L2, c1', c2, c3, c4, c5, c6, c7, c8, c9, c10⟩ := s_em55 (fl := fl) (N := N) (P := P) (o := o) (x := x) (t0 := tt) (p := p) (n := min T.length (t - tt)) hN hs2 hs ht hx (by omega) (L0 := L) (T := T) f7 f8 rfl htt (by omega) (fun z hz => by have := (hOL.2 z hz).2.2; omega) hinj (f_X7_buildEnded_L24 N m) (min T.length (t - tt)) 0 N A1 B G1 [] (by omega) (by omega) hE1 (by rw [List.append_nil]; exact hM1) (Nat.zero_le _) (fun z hz => (by cases hz)) f6 (fun _ => by
        rw [List.append_nil, List.drop_zero, Nat.add_zero]
        exact h2.trans ((hsplit L h3).trans (f9.symm.append_right _)))
      rw [Nat.add_zero] at c1' c9 c10
      obtain ⟨A3, B3, G3, d1, d2, d3, d4, d5, d6, d7⟩ := ih (p + 1) m (tt + min T.length (t - tt)) A2 B2 G2 L2 (by omega) (by omega) (by omega) (hE1.fr (c5 45 (by omega) (by omega) (by omega) (by omega)) (c5 50 (by omega) (by omega) (by omega) (by omega)) (c8 1 (by omega) (by omega)) (c8 3 (by omega) (by omega))) (fun hl => ⟨c2, c4 hl, fun z hz => by have := c3 z hz; omega⟩)
      refine ⟨A3, B3, G3, ?_, fun k w1 w2 w3 w4 => by rw [d2 k w1 w2 w3 w4, c5 k w1 w2 w3 w4, f2 k w4], fun k w1 w2 => by rw [d3 k w1 w2, c6 k w1 w2], fun k w => by rw [d4 k w, c7 k w, f3 k w], fun f w1 w2 => by rw [d5 f w1 w2, c8 f w1 w2, f4 f w2], fun j w1 w2 => ?_, fun y hy => ?_⟩
      · rw [f_X7_buildEnded_L24, gx_44_3, sb, hE.2.1, if_neg (nI_ge (by omega) (by omega)), ck_44, sb, f1, sb, gx_44_23, sb, f5, gx_44_3, sb, hE1.2.1, pk_sub htt, least_n (by omega) (by omega), b2s, show (0 : Int32) = nI 0 from rfl, c1', d1]
      · by_cases hj : j < tt + min T.length (t - tt)
        · obtain ⟨v1, v2⟩ := d7 (o j) (fun j2 w3 w4 w5 => hinj j j2 (by omega) w4 w5.symm)
          rw [v1, v2]
          exact c9 j w1 hj
        · exact d6 j (by omega) w2
      · obtain ⟨v1, v2⟩ := d7 y (fun j2 w3 w4 => hy j2 (by omega) w4)
        obtain ⟨v3, v4⟩ := c10 y (fun j2 w3 w4 => hy j2 w3 (by omega))
        rw [v1, v2, v3, v4, f2 48 (by omega)]
        exact ⟨rfl, rfl⟩
    · refine ⟨A, B, G, ?_, fun _ _ _ _ _ => rfl, fun _ _ _ => rfl, fun _ _ => rfl, fun _ _ _ => rfl, fun j h1 h2 => by omega, fun _ _ => ⟨rfl, rfl⟩⟩
      rw [f_X7_buildEnded_L24, gx_44_3, sb, hE.2.1, if_pos (nI_le (by omega) (by omega))]
theorem wE_ok {x : Nat} (hs2 : 2 ≤ s) (hs : s ≤ 4) (hx : x < s) (hP : ∀ u, u < s → P u ≤ 9) {r : Nat} (hr : r ≤ 23) : Wv s (wE P s x r) := by
  obtain ⟨i1, i2, i3⟩ := stE_ok hs2 hs hx hP r (by omega)
  unfold wE
  cases hS : stE P s x r with
  | nil => rw [hS] at i3; have : ([] : List Ent).length = 0 := rfl; omega
  | cons e S =>
    rw [hS] at i2
    obtain ⟨e1, e2, -⟩ := i2.2 e List.mem_cons_self
    exact Wv.add (r := e.1) (n := e.2.1) e1 (show e.2.1 ≤ 23 by omega) hx hs
/-- the class's ENDED code -/
theorem s_endedX (hN : 500 < N) (hs2 : 2 ≤ s) (hs : s ≤ 4) (ht : t ≤ 24) {x : Nat} (hx : x < s) (A : Nat → Nat → Int32) (B : Nat → Nat → Int64) (G : Nat → Nat → Int32) (h10 : G 0 10 = nI s) (h11 : G 0 11 = nI t) (hP : ∀ u, u < s → A 1 u = nI (P u) ∧ P u ≤ 9) (ho : ∀ j, j < t → rkG (A 2) t 0 (A 3) j = nI (o j) ∧ o j < t) (hinj : ∀ j1 j2, j1 < j2 → j2 < t → o j1 ≠ o j2) :
    ∃ A' B' G', f_X6_makeEnded N 0 16 (nI x) (mem A B G fl) = some (mem A' B' G' fl) ∧ (∀ k, k ≠ 3 → k ≠ 11 → k ≠ 12 → k ≠ 18 → A' k = A k) ∧ (∀ k, k ≠ 10 → k ≠ 17 → B' k = B k) ∧ (∀ k, k ≠ 9 → k ≠ 16 → G' k = G k) ∧ G' 16 2 = nI t ∧ (∀ j, j < t → B' 17 (o j) = lN (wE P s x j).1 ∧ A' 18 (o j) = nI (wE P s x j).2) := by
  have hcd : cdL fl 16 := ⟨ly16 fl, ly17 fl, ly18 fl, by decide⟩
  have hb := s_begin (A := A) (B := B) (G := G) (N := N) hcd (by omega) (nI t)
  generalize hA1 : upA A (16 + 2) (fun j => if 0 ≤ j ∧ j < 24 then 0 else A (16 + 2) j) = A1 at hb
  generalize hB1 : upA B (16 + 1) (fun j => if 0 ≤ j ∧ j < 24 then 0 else B (16 + 1) j) = B1 at hb
  generalize hG1 : upA G 16 (upd (G 16) 2 (nI t)) = G1 at hb
  have a0 : ∀ k, k ≠ 18 → A1 k = A k := fun k hk => by rw [← hA1, upA_ne _ _ _ hk]
  have b0 : ∀ k, k ≠ 17 → B1 k = B k := fun k hk => by rw [← hB1, upA_ne _ _ _ hk]
  have g0 : ∀ k, k ≠ 16 → G1 k = G k := fun k hk => by rw [← hG1, upA_ne _ _ _ hk]
  have g16 : G1 16 2 = nI t := by rw [← hG1, upA_same, upd_eq]
  have hrk := s_rkX (fl := fl) (B := B1) (G := G1) (N := N) (a := 3) (b := 2) (n := t) (ly3 fl) (ly2 fl) (by decide) ht (by omega) t 0 N A1 (by omega) (by omega) (RkB0 _ _)
  rw [a0 2 (by omega), a0 3 (by omega)] at hrk
  generalize hA2 : upA A1 3 (rkG (A 2) t 0 (A 3)) = A2 at hrk
  have a2 : ∀ k, k ≠ 3 → A2 k = A1 k := fun k hk => by rw [← hA2, upA_ne _ _ _ hk]
  have a23 : A2 3 = rkG (A 2) t 0 (A 3) := by rw [← hA2, upA_same]
  obtain ⟨A3, B3, G3, e1, e2, e3⟩ := s_start (fl := fl) (N := N) (op9 fl) (by omega) A2 B1 G1
  have hE : EdX A3 G3 P o s t := ⟨by rw [e2.2.2 0 (by omega), g0 0 (by omega)]; exact h10, by rw [e2.2.2 0 (by omega), g0 0 (by omega)]; exact h11, fun u hu => by rw [e2.1 1 (by omega) (by omega), a2 1 (by omega), a0 1 (by omega)]; exact hP u hu, fun j hj => by rw [e2.1 3 (by omega) (by omega), a23]; exact ho j hj⟩
  obtain ⟨A4, B4, G4, c1', c2, c3, c4, c5, c6⟩ := s_endL (fl := fl) (N := N) (P := P) (o := o) (x := x) (by omega) hs2 hs ht hx hinj t 0 N A3 B3 G3 (by omega) (by omega) hE e3
  refine ⟨A4, B4, G4, ?_, fun k w1 w2 w3 w4 => by rw [c2 k w2 w3 w4, e2.1 k w2 w3, a2 k w1, a0 k w4], fun k w1 w2 => by rw [c3 k w1 w2, e2.2.1 k w1, b0 k w2], fun k w1 w2 => by rw [c4 k w1, e2.2.2 k w1, g0 k w2], by rw [c4 16 (by omega), e2.2.2 16 (by omega)]; exact g16, fun j hj => c5 j (Nat.zero_le _) hj⟩
  unfold f_X6_makeEnded f_X6_rankThings
  rw [gx_0_11, sb, h11, ck_16, sb, hb, sb, gx_0_2, sb, gx_0_1, sb, gx_0_11, sb, g0 0 (by omega), h11, show (0 : Int32) = nI 0 from rfl, hrk, sb, gx_0_6, sb, ck_9, sb, e1, sb, c1']
/-- the reference's -/
theorem s_endedM (hN : 500 < N) (hs2 : 2 ≤ s) (hs : s ≤ 4) (ht : t ≤ 24) {x : Nat} (hx : x < s) (A : Nat → Nat → Int32) (B : Nat → Nat → Int64) (G : Nat → Nat → Int32) (h1 : G 44 1 = nI s) (h3 : G 44 3 = nI t) (hP : ∀ u, u < s → A 45 u = nI (P u) ∧ 1 ≤ P u ∧ P u ≤ 9) (ho : ∀ j, j < t → rkG (A 46) t 0 (A 50) j = nI (o j) ∧ o j < t) (hinj : ∀ j1 j2, j1 < j2 → j2 < t → o j1 ≠ o j2) :
    ∃ A' B' G', f_X7_buildEnded N 44 (nI x) (mem A B G fl) = some (mem A' B' G' fl) ∧ (∀ k, k ≠ 48 → k ≠ 50 → k ≠ 56 → k ≠ 57 → k ≠ 58 → A' k = A k) ∧ (∀ k, k ≠ 47 → k ≠ 55 → B' k = B k) ∧ (∀ k, k ≠ 44 → G' k = G k) ∧ (∀ f, f ≠ 21 → f ≠ 23 → G' 44 f = G 44 f) ∧ (∀ j, j < t → B' 47 (o j) = lN (wE P s x j).1 ∧ A' 48 (o j) = nI (wE P s x j).2) := by
  have hrk := s_rkM (fl := fl) (B := B) (G := G) (N := N) (b := 46) (n := t) (ly46 fl) (by decide) ht (by omega) h3 t 0 N A (by omega) (by omega) (RkB0 _ _)
  generalize hA2 : upA A 50 (rkG (A 46) t 0 (A 50)) = A2 at hrk
  have a2 : ∀ k, k ≠ 50 → A2 k = A k := fun k hk => by rw [← hA2, upA_ne _ _ _ hk]
  have a50 : A2 50 = rkG (A 46) t 0 (A 50) := by rw [← hA2, upA_same]
  generalize hG1 : upA G 44 (upd (G 44) 21 0) = G1
  have hM0 : OpM A2 B G1 [] := ⟨by rw [← hG1, upA_same, upd_eq]; rfl, fun k z hz => (by cases hz)⟩
  obtain ⟨A3, B3, G3, e1, e2, e3, e4, e5⟩ := s_openM (fl := fl) (N := N) (show ([] : List Ent).length < 400 by decide) hM0 (0, 0, 0)
  have gF : ∀ f, f ≠ 21 → f ≠ 23 → G3 44 f = G 44 f := fun f w1 w2 => by rw [e3.2.2.2 f w1 w2, ← hG1, upA_same, upd_ne _ _ _ w1]
  have hE : EdM A3 G3 P o s t := ⟨by rw [gF 1 (by omega) (by omega)]; exact h1, by rw [gF 3 (by omega) (by omega)]; exact h3, fun u hu => by rw [e3.1 45 (by omega) (by omega) (by omega), a2 45 (by omega)]; exact hP u hu, fun j hj => by rw [e3.1 50 (by omega) (by omega) (by omega), a50]; exact ho j hj⟩
  obtain ⟨A4, B4, G4, c1', c2, c3, c4, c5, c6, c7⟩ := s_em24 (fl := fl) (N := N) (P := P) (o := o) (x := x) hN hs2 hs ht hx hinj 240 0 N 0 A3 B3 G3 [(0, 0, 0)] (by omega) (by omega) (Nat.zero_le _) hE (fun _ => ⟨e2, List.Perm.refl _, fun z _ => Nat.zero_le _⟩)
  refine ⟨A4, B4, G4, ?_, fun k w1 w2 w3 w4 w5 => by rw [c2 k w1 w3 w4 w5, e3.1 k w3 w4 w5, a2 k w2], fun k w1 w2 => by rw [c3 k w1 w2, e3.2.1 k w2], fun k w => by rw [c4 k w, e3.2.2.1 k w, ← hG1, upA_ne _ _ _ w], fun f w1 w2 => by rw [c5 f w1 w2, gF f w1 w2], fun j hj => c6 j (Nat.zero_le _) hj⟩
  unfold f_X7_buildEnded f_X7_rankBy
  rw [gx_44_2, sb, ck_44, sb, show (0 : Int32) = nI 0 from rfl, hrk, sb, show (nI 0 : Int32) = 0 from rfl, px_44_21, sb, hG1, ck_44, sb]
  rw [show f_X7_open N 44 (0 : Int64) (0 : Int32) (0 : Int32) (mem A2 B G1 fl) = _ from e1, sb]
  exact c1'
end Ee
