/-! FREE: the class makes the CODE -/
/-- the counts of the last q ranks -/
def lcS (C o : Nat → Nat) (t : Nat) : Nat → Nat
  | 0 => 0
  | q + 1 => lcS C o t q + (if q < t then C (o (t - (q + 1))) else 1)
theorem lcS_lt {C o : Nat → Nat} {t : Nat} (ho : ∀ j, j < t → o j < t) (hC : ∀ i, i < t → 1 ≤ C i) : ∀ x y, x < y → lcS C o t x < lcS C o t y := by
  have h1 : ∀ q, lcS C o t q < lcS C o t (q + 1) := fun q => by
    rw [lcS]
    by_cases h : q < t
    · rw [if_pos h]; have := hC _ (ho (t - (q + 1)) (by omega)); omega
    · rw [if_neg h]; omega
  intro x y h
  induction y with
  | zero => omega
  | succ y ih =>
    by_cases hx : x = y
    · rw [hx]; exact h1 y
    · exact Nat.lt_trans (ih (by omega)) (h1 y)
theorem lcS_le {C o : Nat → Nat} {t : Nat} (ho : ∀ j, j < t → o j < t) (hC : ∀ i, i < t → C i ≤ 1000000) : ∀ q, q ≤ t → lcS C o t q ≤ 1000000 * q := by
  intro q
  induction q with
  | zero => intro _; exact Nat.zero_le _
  | succ q ih =>
    intro h
    have := ih (by omega)
    have := hC _ (ho (t - (q + 1)) (by omega))
    rw [lcS, if_pos (by omega)]
    omega
theorem bC_sum {P : Nat → Nat} : ∀ s, (∀ u, u < s → 1 ≤ P u ∧ P u ≤ 3) → bC P 1 s + bC P 2 s + bC P 3 s = s := by
  intro s
  induction s with
  | zero => intro _; rfl
  | succ s ih =>
    intro h
    have hi := ih (fun u hu => h u (by omega))
    have hs := h s (by omega)
    rw [bC, bC, bC]
    have : P s = 1 ∨ P s = 2 ∨ P s = 3 := by omega
    rcases this with e | e | e
    · rw [e, if_pos rfl, if_neg (by decide), if_neg (by decide)]; omega
    · rw [e, if_pos rfl, if_neg (by decide), if_neg (by decide)]; omega
    · rw [e, if_pos rfl, if_neg (by decide), if_neg (by decide)]; omega
theorem fr_last {P : Nat → Nat} {s : Nat} {lc : Nat → Nat} {d p : Nat} {S : List Ent} {a b c R : Nat} (h : R ≤ a) : fr P s lc d p S a b c R = ((lvT p S).take R).map wd1 := by
  cases d with
  | zero => rw [fr]
  | succ d => rw [fr, if_pos h]
/-- the rows behind the empty one -/
def St1 (P : Nat → Nat) (s : Nat) : List Ent := insA (kidL P s (0, 0, 0) s 0) []
theorem ends_0 {P : Nat → Nat} {s : Nat} {lc : Nat → Nat} {t : Nat} (hF : FrH P s lc t) : Ends (bC P 1 s) (bC P 2 s) (bC P 3 s) 22 (min t (bC P 1 s)) (min t (bC P 2 s)) (min t (bC P 3 s)) t := by
  obtain ⟨hs2, hs4, hP, ht, hL, hlc⟩ := hF
  refine ends_cap 22 (bC P 1 s) (bC P 2 s) (bC P 3 s) _ _ _ t (by omega) (by omega) (by omega) ?_
  rcases hL with ⟨l1, l2, l3⟩ | ⟨l1, l2, l3⟩
  · rw [l1, l2, l3]
    exact ends_like hs2 22 s t (by omega)
  · have := bC_sum s hP
    exact ends_unl l3 (by omega) 6 _ _ _ _ (by omega)
theorem pth_0 {P : Nat → Nat} {s : Nat} {lc : Nat → Nat} {t d : Nat} (hF : FrH P s lc t) (hg : gF (bC P 1 s) (bC P 2 s) (bC P 3 s) lc d (min t (bC P 1 s)) (min t (bC P 2 s)) (min t (bC P 3 s)) t < EV) : Pth P s lc t d 1 (St1 P s) (min t (bC P 1 s)) (min t (bC P 2 s)) (min t (bC P 3 s)) t ∧ (St1 P s).length = s := by
  have he := ends_0 hF
  obtain ⟨hs2, hs4, hP, ht, hL, hlc⟩ := hF
  have hpm : (St1 P s).Perm (kidL P s (0, 0, 0) s 0) := by
    have := insA_perm (kidL P s (0, 0, 0) s 0) []
    rw [List.nil_append] at this
    exact this
  have hO0 : OkF s [((0, 0, 0) : Ent)] := by
    refine ⟨⟨List.pairwise_singleton _ _, fun e he => ?_⟩, fun e he => ?_⟩
    · rw [List.mem_singleton] at he
      subst he
      exact ⟨Wv0 s, by decide, by decide⟩
    · rw [List.mem_singleton] at he
      subst he
      exact ⟨by decide, by decide⟩
  have hO1 : OkF s ([] ++ kidL P s (0, 0, 0) s 0) := OkF.step hs4 hP (by decide) hO0
  have hln : (St1 P s).length = s := by rw [hpm.length_eq, kidL_len3 s 0 (by omega)]
  have hcn : ∀ j, cn (0 + j) (St1 P s) = bC P j s := fun j => by
    have hk := cn_kid (P := P) (x := s) (e := ((0, 0, 0) : Ent)) j s 0 (by omega)
    rw [show bC P j 0 = 0 from rfl, Nat.zero_add, Nat.zero_add s] at hk
    rw [cn_perm hpm]
    exact hk
  have c1 : cn 1 (St1 P s) = bC P 1 s := hcn 1
  have c2 : cn (1 + 1) (St1 P s) = bC P 2 s := hcn 2
  have c3 : cn (1 + 2) (St1 P s) = bC P 3 s := hcn 3
  have b3 := bC_lt (P := P) (j := 3) s
  refine ⟨⟨OkF.srt List.Pairwise.nil hO1, hO1.perm hpm.symm, ?_, by rw [c1], by rw [c2], by rw [c3], he, hg, Nat.le_refl _, by omega, by rw [c3]; omega, fun _ l3 l2 => ⟨by rw [c2]; exact l2, by rw [c3]; exact l3⟩⟩, hln⟩
  intro e he
  obtain ⟨v, -, b, -, rfl⟩ := kidL_mem s 0 (hpm.mem_iff.mp he)
  have := hP v (by omega)
  show 1 ≤ 0 + P v ∧ 0 + P v ≤ 1 + 2
  omega
section Mk
variable {P o : Nat → Nat} {lc : Nat → Nat} {s t bd ul st : Nat} {fl : Nat → Bool} {N : Nat}
theorem l104_0 {m x0 x1 : Nat} {x3 x4 x5 x6 x8 : Int32} {M : A_M} : f_X1_make_L104 N (m + 1) x0 x1 x3 x4 x5 x6 (nI 0) x8 M = some ((1 : Int32), M) := by
  rw [f_X1_make_L104]
  by_cases h : (40 : Int32) ≤ x8
  · rw [if_pos h]
  · rw [if_neg h, if_pos (by decide)]
theorem Wr.app {A : Nat → Nat → Int32} {B : Nat → Nat → Int64} {cd q : Nat} {K L : List (Nat × Nat)} (h1 : Wr A B cd o q K) (h2 : Wr A B cd o (q + K.length) L) : Wr A B cd o q (K ++ L) := by
  intro j hj
  rw [List.length_append] at hj
  by_cases h : j < K.length
  · have := h1 j h
    rw [show (K ++ L).getD j (0, 0) = K.getD j (0, 0) by rw [List.getD_eq_getElem?_getD, List.getD_eq_getElem?_getD, List.getElem?_append_left h]]
    exact this
  · have := h2 (j - K.length) (by omega)
    rw [show q + K.length + (j - K.length) = q + j by omega] at this
    rw [show (K ++ L).getD j (0, 0) = L.getD (j - K.length) (0, 0) by rw [List.getD_eq_getElem?_getD, List.getD_eq_getElem?_getD, List.getElem?_append_right (by omega)]]
    exact this
theorem s_l104e (f1 : fl 1 = true) (hN : 300 < N) (hF : FrH P s lc t) (hH : LvH (bC P 1 s) (bC P 2 s) (bC P 3 s) lc s t bd ul st) {D : Nat} (hD : D ≤ 31) {cd : Nat} (hcd : cdL fl cd) (hc2 : cd < 50) (hinj : ∀ j1 j2, j1 < j2 → j2 < t → o j1 ≠ o j2) {d p m : Nat} {S : List Ent} {a b c R f : Nat} {A : Nat → Nat → Int32} {B : Nat → Nat → Int64} {G : Nat → Nat → Int32} (hpd : p + d = D) (hR0 : 0 < R) (hPt : Pth P s lc t d p S a b c R) (hSV : SV (bC P 1 s) (bC P 2 s) (bC P 3 s) s t bd ul p a b c R) (hQ : LvQ (bC P 1 s) (bC P 2 s) (bC P 3 s) lc s t bd ul st A B G) (hLy : LyX A G P o s t) (hO : OpS A B G 89 f S) (hf : f + 1 ≤ 2 * (t - R) + S.length) (hR : R ≤ a) :
    ∃ A' B' G', f_X1_make_L104 N (m + 1 + 1) 82 cd (nI t) (nI a) (nI b) (nI c) (nI R) (nI p) (mem A B G fl) = some (1, mem A' B' G' fl) ∧ (∀ k, k ≠ 84 → k ≠ 91 → k ≠ 92 → k ≠ cd + 2 → A' k = A k) ∧ (∀ k, k ≠ 83 → k ≠ 90 → k ≠ cd + 1 → B' k = B k) ∧ (∀ k, k ≠ 89 → G' k = G k) ∧ Wr A' B' cd o (t - R) (fr P s lc d p S a b c R) ∧ (∀ i, (∀ j, t - R ≤ j → j < t → o j ≠ i) → B' (cd + 1) i = B (cd + 1) i ∧ A' (cd + 2) i = A (cd + 2) i) ∧ LvQ (bC P 1 s) (bC P 2 s) (bC P 3 s) lc s t bd ul st A' B' G' := by
  obtain ⟨hs2, hs4, hP, ht, hL, hlc⟩ := hF
  have hb1 := bC_lt (P := P) (j := 1) s
  have hb2 := bC_lt (P := P) (j := 2) s
  have hb3 := bC_lt (P := P) (j := 3) s
  obtain ⟨h1, h2, h3, h4, h5, h6, h7, h8, h9, h10, h11, h12⟩ := hPt
  obtain ⟨v1, v2, v3, v4, v5, v6, -⟩ := id hSV
  have haR : a = R := by omega
  have hsp := sp_lv h1 h2 (fun e he => (h3 e he).1)
  have hTl : R ≤ (lvT p S).length := by rw [lvT_len]; omega
  have hS2 : S = (lvT p S).take R ++ ((lvT p S).drop R ++ lvV p S) := by rw [← List.append_assoc, List.take_append_drop]; exact hsp
  have htl : ((lvT p S).take R).length = R := by rw [List.length_take]; omega
  obtain ⟨A1, B1, e1, e2, e3⟩ := s_wordsAt (N := N) f1 hH (by omega) hSV (fun q => by omega) A B hQ
  have hw : chW (bC P 1 s) (bC P 2 s) (bC P 3 s) lc (depB bd - p) a b c R = R := by unfold chW; rw [if_pos hR]
  rw [hw] at e1
  have hO1 : OpS A1 B1 G 89 f ((lvT p S).take R ++ ((lvT p S).drop R ++ lvV p S)) := by
    rw [← hS2]
    exact ⟨hO.1, hO.2.1, fun k y hy => by
      obtain ⟨c1, c2, c3⟩ := hO.2.2 k y hy
      exact ⟨by rw [e2.2 90 (by omega)]; exact c1, by rw [e2.1 91 (by omega)]; exact c2, by rw [e2.1 92 (by omega)]; exact c3⟩⟩
  have hLy1 : LyX A1 G P o s t := hLy.fr (e2.1 87 (by omega)) (e2.1 86 (by omega)) rfl
  obtain ⟨A2, B2, G2, k1, k2, k3, k4, k5, k6, k7⟩ := s_giveL (fl := fl) (N := N) (s := s) (t := t) (P := P) (o := o) f1 ht hcd hc2 hinj (w := R) (q := t - R) (by omega) ((lvT p S).take R) f 0 N A1 B1 G (by omega) (by omega) hLy1 hO1 (by rw [← hS2]; omega)
  rw [Nat.add_zero] at k6 k7
  have hQ2 : LvQ (bC P 1 s) (bC P 2 s) (bC P 3 s) lc s t bd ul st A2 B2 G2 := e3.fr (k2 84 (by omega)) (k2 88 (by omega)) (k3 83 (by omega)) (k3 85 (by omega)) (k4 82 (by omega))
  refine ⟨A2, B2, G2, ?_, fun k w1 w2 w3 w4 => by rw [k2 k w4, e2.1 k w1], fun k w1 w2 w3 => by rw [k3 k w3, e2.2 k w1], k4, ?_, fun i hi => ?_, hQ2⟩
  · have hx : ∀ (x3 x5 x6 x8 : Int32) (M : A_M), f_X1_make_L160 N (f_X1_make_L104 N (m + 1)) N 82 cd x3 x5 x6 (nI 0) x8 (nI (a - R)) (nI 0) M = f_X1_make_K182 N (f_X1_make_L104 N (m + 1)) 82 cd x3 x5 x6 (nI 0) x8 (nI (a - R)) M := by
      intro x3 x5 x6 x8 M
      obtain ⟨N', hN'⟩ : ∃ j, N = j + 1 := ⟨N - 1, by omega⟩
      have : ∀ n, f_X1_make_L160 N (f_X1_make_L104 N (m + 1)) (n + 1) 82 cd x3 x5 x6 (nI 0) x8 (nI (a - R)) (nI 0) M = f_X1_make_K182 N (f_X1_make_L104 N (m + 1)) 82 cd x3 x5 x6 (nI 0) x8 (nI (a - R)) M := by
        intro n
        rw [f_X1_make_L160]
        by_cases q : nI (a - R) ≤ nI 0
        · rw [if_pos q]
        · rw [if_neg q, if_pos (by decide)]
      have h2 := this N'
      rw [← hN'] at h2
      exact h2
    rw [f_X1_make_L104, if_neg (show ¬ (40 : Int32) ≤ nI p from nI_ge (b := 40) (by omega) (by omega)), if_neg (show ¬ nI R ≤ (0 : Int32) from nI_ge (a := 0) (by omega) (by omega)), chk_mem (ly82 f1), sb, e1, b2s, chk_mem (ly82 f1), sb, pk_sub (by omega)]
    unfold f_X1_giveWords
    rw [show (0 : Int32) = nI 0 from rfl, k1, sb, pk_sub (Nat.le_refl R), pk_sub hR, Nat.sub_self, hx]
    unfold f_X1_make_K182
    rw [gx_82_5 f1, sb, show (1 : Int32) = nI 1 from rfl, ldI_n (ly88 f1) (by omega) (by decide), sb, sb, show (2 : Int32) = nI 2 from rfl, ldI_n (ly88 f1) (by omega) (by decide), sb, sb, show (3 : Int32) = nI 3 from rfl, ldI_n (ly88 f1) (by omega) (by decide), sb, l104_0]
    rfl
  · rw [fr_last hR]
    exact k6
  · obtain ⟨w1, w2⟩ := k7 i (fun j q1 q2 => hi j q1 (by omega))
    rw [w1, w2, e2.2 _ (by omega), e2.1 _ (by omega)]
    exact ⟨rfl, rfl⟩
theorem s_l104 (f1 : fl 1 = true) (hN : 300 < N) (hF : FrH P s lc t) (hH : LvH (bC P 1 s) (bC P 2 s) (bC P 3 s) lc s t bd ul st) {D : Nat} (hD : D ≤ 31) (hDb : (bd ≠ 0 → D = bd) ∧ (bd = 0 → 23 ≤ D)) {cd : Nat} (hcd : cdL fl cd) (hc2 : cd < 50) (hinj : ∀ j1 j2, j1 < j2 → j2 < t → o j1 ≠ o j2) : ∀ (d p m : Nat) (S : List Ent) (a b c R f : Nat) (A : Nat → Nat → Int32) (B : Nat → Nat → Int64) (G : Nat → Nat → Int32), p + d = D → d + 1 < m → 1 ≤ p → 0 < R → Pth P s lc t d p S a b c R → SV (bC P 1 s) (bC P 2 s) (bC P 3 s) s t bd ul p a b c R → LvQ (bC P 1 s) (bC P 2 s) (bC P 3 s) lc s t bd ul st A B G → LyX A G P o s t → OpS A B G 89 f S → f + 1 ≤ 2 * (t - R) + S.length →
    ∃ A' B' G', f_X1_make_L104 N m 82 cd (nI t) (nI a) (nI b) (nI c) (nI R) (nI p) (mem A B G fl) = some (1, mem A' B' G' fl) ∧ (∀ k, k ≠ 84 → k ≠ 91 → k ≠ 92 → k ≠ cd + 2 → A' k = A k) ∧ (∀ k, k ≠ 83 → k ≠ 90 → k ≠ cd + 1 → B' k = B k) ∧ (∀ k, k ≠ 89 → G' k = G k) ∧ Wr A' B' cd o (t - R) (fr P s lc d p S a b c R) ∧ (∀ i, (∀ j, t - R ≤ j → j < t → o j ≠ i) → B' (cd + 1) i = B (cd + 1) i ∧ A' (cd + 2) i = A (cd + 2) i) ∧ LvQ (bC P 1 s) (bC P 2 s) (bC P 3 s) lc s t bd ul st A' B' G' := by
  have hF0 := hF
  obtain ⟨hs2, hs4, hP, ht, hL, hlc⟩ := hF
  have hb1 := bC_lt (P := P) (j := 1) s
  have hb2 := bC_lt (P := P) (j := 2) s
  have hb3 := bC_lt (P := P) (j := 3) s
  intro d
  induction d with
  | zero =>
    intro p m S a b c R f A B G hpd hm hp1 hR0 hPt hSV hQ hLy hO hf
    have hR : R ≤ a := by
      have := hPt.2.2.2.2.2.2.2.1
      rw [gF] at this
      by_cases q : R ≤ a
      · exact q
      · rw [if_neg q] at this; exact absurd this (Nat.lt_irrefl _)
    obtain ⟨m, rfl⟩ : ∃ j, m = j + 1 + 1 := ⟨m - 2, by omega⟩
    exact s_l104e f1 hN hF0 hH hD hcd hc2 hinj hpd hR0 hPt hSV hQ hLy hO hf hR
  | succ d ih =>
    intro p m S a b c R f A B G hpd hm hp1 hR0 hPt hSV hQ hLy hO hf
    by_cases hR : R ≤ a
    · obtain ⟨m, rfl⟩ : ∃ j, m = j + 1 + 1 := ⟨m - 2, by omega⟩
      exact s_l104e f1 hN hF0 hH hD hcd hc2 hinj hpd hR0 hPt hSV hQ hLy hO hf hR
    obtain ⟨m, rfl⟩ : ∃ j, m = j + 1 := ⟨m - 1, by omega⟩
    have hPt0 := hPt
    obtain ⟨h1, h2, h3, h4, h5, h6, h7, h8, h9, h10, h11, h12⟩ := hPt
    obtain ⟨v1, v2, v3, v4, v5, v6, -⟩ := id hSV
    have hpl : p < depB bd := by
      unfold depB
      by_cases hb : bd = 0
      · rw [if_pos hb]; omega
      · rw [if_neg hb]; have := hDb.1 hb; omega
    have hweq : chW (bC P 1 s) (bC P 2 s) (bC P 3 s) lc (depB bd - p) a b c R = chW (bC P 1 s) (bC P 2 s) (bC P 3 s) lc (d + 1) a b c R := by
      by_cases hb : bd = 0
      · have := hDb.2 hb
        exact chW_eq h7 (by unfold depB; rw [if_pos hb]; omega) (by omega)
      · have := hDb.1 hb
        rw [show depB bd = bd by unfold depB; rw [if_neg hb], show bd - p = d + 1 by omega]
    have hfr : fr P s lc (d + 1) p S a b c R = ((lvT p S).take (chW (bC P 1 s) (bC P 2 s) (bC P 3 s) lc (d + 1) a b c R)).map wd1 ++
      fr P s lc d (p + 1) (nxL P s p (chW (bC P 1 s) (bC P 2 s) (bC P 3 s) lc (d + 1) a b c R) S)
        (min (R - chW (bC P 1 s) (bC P 2 s) (bC P 3 s) lc (d + 1) a b c R) (b + bC P 1 s * (a - chW (bC P 1 s) (bC P 2 s) (bC P 3 s) lc (d + 1) a b c R)))
        (min (R - chW (bC P 1 s) (bC P 2 s) (bC P 3 s) lc (d + 1) a b c R) (c + bC P 2 s * (a - chW (bC P 1 s) (bC P 2 s) (bC P 3 s) lc (d + 1) a b c R)))
        (min (R - chW (bC P 1 s) (bC P 2 s) (bC P 3 s) lc (d + 1) a b c R) (bC P 3 s * (a - chW (bC P 1 s) (bC P 2 s) (bC P 3 s) lc (d + 1) a b c R)))
        (R - chW (bC P 1 s) (bC P 2 s) (bC P 3 s) lc (d + 1) a b c R) := by rw [fr, if_neg hR]
    generalize hw : chW (bC P 1 s) (bC P 2 s) (bC P 3 s) lc (d + 1) a b c R = w at hweq hfr
    obtain ⟨k1, k2, k3, k4, k5, k6⟩ := pth_step hF0 hPt0 hR hw.symm
    have hz : 0 < a + b + c := by
      rcases Nat.eq_zero_or_pos (a + b + c) with q | q
      · exfalso
        obtain ⟨rfl, rfl, rfl⟩ : a = 0 ∧ b = 0 ∧ c = 0 := by omega
        rw [gF_dead _ _ _ lc _ _ (by omega)] at h8
        exact Nat.lt_irrefl _ h8
      · exact q
    have hSVn := hSV.next hH (by omega) hpl hz k1
    have hsp := sp_lv h1 h2 (fun e he => (h3 e he).1)
    have hS2 : S = (lvT p S).take w ++ ((lvT p S).drop w ++ lvV p S) := by rw [← List.append_assoc, List.take_append_drop]; exact hsp
    have htl : ((lvT p S).take w).length = w := by rw [List.length_take]; omega
    have hdl : ((lvT p S).drop w).length = a - w := by rw [List.length_drop, k3]
    have hSl : S.length = a + (lvV p S).length := by
      have := congrArg List.length hsp
      rw [List.length_append, k3] at this
      exact this
    rw [List.length_append, kF_len, hdl] at k5
    have hsm : 2 * (a - w) ≤ s * (a - w) := Nat.mul_le_mul_right _ hs2
    obtain ⟨A1, B1, e1, e2, e3⟩ := s_wordsAt (N := N) f1 hH (by omega) hSV (fun q => hpl) A B hQ
    rw [hweq] at e1
    have hO1 : OpS A1 B1 G 89 f ((lvT p S).take w ++ ((lvT p S).drop w ++ lvV p S)) := by
      rw [← hS2]
      exact ⟨hO.1, hO.2.1, fun k y hy => by
        obtain ⟨c1, c2, c3⟩ := hO.2.2 k y hy
        exact ⟨by rw [e2.2 90 (by omega)]; exact c1, by rw [e2.1 91 (by omega)]; exact c2, by rw [e2.1 92 (by omega)]; exact c3⟩⟩
    have hLy1 : LyX A1 G P o s t := hLy.fr (e2.1 87 (by omega)) (e2.1 86 (by omega)) rfl
    obtain ⟨A2, B2, G2, g1, g2, g3, g4, g5, g6, g7⟩ := s_giveL (fl := fl) (N := N) (s := s) (t := t) (P := P) (o := o) f1 ht hcd hc2 hinj (w := w) (q := t - R) (by omega) ((lvT p S).take w) f 0 N A1 B1 G (by omega) (by omega) hLy1 hO1 (by rw [← hS2]; omega)
    rw [Nat.add_zero] at g6 g7
    rw [htl] at g5
    have hQ2 : LvQ (bC P 1 s) (bC P 2 s) (bC P 3 s) lc s t bd ul st A2 B2 G2 := e3.fr (g2 84 (by omega)) (g2 88 (by omega)) (g3 83 (by omega)) (g3 85 (by omega)) (g4 82 (by omega))
    have hLy2 : LyX A2 G2 P o s t := hLy1.fr (g2 87 (by omega)) (g2 86 (by omega)) (g4 82 (by omega))
    have hsrt : SrtK ((lvT p S).drop w ++ lvV p S) := by
      rw [hS2] at h1
      exact (List.pairwise_append.mp h1).2.1
    have hokd : OkF s ((lvT p S).drop w ++ lvV p S) := by
      rw [hS2] at h2
      exact h2.sub (List.sublist_append_right _ _)
    obtain ⟨A3, B3, G3, X3, l1, l2, l3, l4, l5⟩ := s_l160 (fl := fl) (N := N) (t := t) (P := P) (o := o) f1 hN hs4 hP (p := p) (more := a - w) (R := R - w) k2 (by omega) (by omega) (by omega) (cd := cd) (nI t) (nI b) (nI c) (nI p) (f_X1_make_L104 N m) ((lvT p S).drop w) (lvV p S) ((lvT p S).drop w ++ lvV p S) (f + w) 0 N A2 B2 G2 (by omega) (by omega) hsrt (List.Perm.refl _) hokd ((List.pairwise_append.mp hsrt).1) (fun e he => (lvT_mem ((List.drop_sublist _ _).subset he)).2) (fun e he => (lvV_mem he).2) hLy2 g5 (by rw [List.length_append, hdl]; omega)
    have hX3 : X3 = nxL P s p w S := by
      refine srt_eq _ _ l4 k6.1 (l5.trans ?_)
      have := insA_perm (lvV p S ++ kF P s ((lvT p S).drop w)) []
      rw [List.nil_append] at this
      exact this.symm
    subst hX3
    have hnl : (nxL P s p w S).length = (lvV p S).length + s * (a - w) := by rw [l5.length_eq, List.length_append, kF_len, hdl]
    have hQ3 : LvQ (bC P 1 s) (bC P 2 s) (bC P 3 s) lc s t bd ul st A3 B3 G3 := hQ2.fr (l2.1 84 (by omega) (by omega)) (l2.1 88 (by omega) (by omega)) (l2.2.1 83 (by omega)) (l2.2.1 85 (by omega)) (l2.2.2 82 (by omega))
    have hLy3 : LyX A3 G3 P o s t := hLy2.fr (l2.1 87 (by omega) (by omega)) (l2.1 86 (by omega) (by omega)) (l2.2.2 82 (by omega))
    rw [hdl, show f + w + (a - w) = f + a by omega] at l3
    obtain ⟨A4, B4, G4, n1, n2, n3, n4, n5, n6, n7⟩ := ih (p + 1) m (nxL P s p w S) _ _ _ (R - w) (f + a) A3 B3 G3 (by omega) (by omega) (by omega) (by omega) k6 hSVn hQ3 hLy3 l3 (by rw [hnl]; omega)
    obtain ⟨r1, r2, r3, r4, r5, r6, -⟩ := id hQ3
    have m1 : bC P 1 s * (a - w) ≤ 4 * 24 := Nat.mul_le_mul (by omega) (by omega)
    have m2 : bC P 2 s * (a - w) ≤ 4 * 24 := Nat.mul_le_mul (by omega) (by omega)
    have m3 : bC P 3 s * (a - w) ≤ 4 * 24 := Nat.mul_le_mul (by omega) (by omega)
    refine ⟨A4, B4, G4, ?_, fun k w1 w2 w3 w4 => by rw [n2 k w1 w2 w3 w4, l2.1 k w2 w3, g2 k w4, e2.1 k w1], fun k w1 w2 w3 => by rw [n3 k w1 w2 w3, l2.2.1 k w2, g3 k w3, e2.2 k w1], fun k w1 => by rw [n4 k w1, l2.2.2 k w1, g4 k w1], ?_, fun i hi => ?_, n7⟩
    · rw [f_X1_make_L104, if_neg (show ¬ (40 : Int32) ≤ nI p from nI_ge (b := 40) (by omega) (by omega)), if_neg (show ¬ nI R ≤ (0 : Int32) from nI_ge (a := 0) (by omega) (by omega)), chk_mem (ly82 f1), sb, e1, b2s, chk_mem (ly82 f1), sb, pk_sub (by omega)]
      unfold f_X1_giveWords
      rw [show (0 : Int32) = nI 0 from rfl, g1, sb, pk_sub (show w ≤ R by omega), pk_sub k1, l1]
      unfold f_X1_make_K182
      rw [gx_82_5 f1, sb, show (1 : Int32) = nI 1 from rfl, ldI_n (ly88 f1) (by omega) (by decide), sb, sb, show (2 : Int32) = nI 2 from rfl, ldI_n (ly88 f1) (by omega) (by decide), sb, sb, show (3 : Int32) = nI 3 from rfl, ldI_n (ly88 f1) (by omega) (by decide), sb, r4, r5, r6, pk_mul, pk_mul, pk_mul, nI_add, nI_add, mnI_n (by omega) (by omega), mnI_n (by omega) (by omega), mnI_n (by omega) (by omega), nI_add]
      exact n1
    · rw [hfr]
      refine Wr.app (fun j hj => ?_) ?_
      · have hj2 : j < w := by rw [List.length_map, htl] at hj; exact hj
        obtain ⟨w1, w2⟩ := n6 (o (t - R + j)) (fun j2 q1 q2 q3 => hinj (t - R + j) j2 (by omega) q2 q3.symm)
        rw [w1, w2, l2.2.1 _ (by omega), l2.1 _ (by omega) (by omega)]
        exact g6 j hj
      · rw [List.length_map, htl, show t - R + w = t - (R - w) by omega]
        exact n5
    · obtain ⟨w1, w2⟩ := n6 i (fun j q1 q2 => hi j (by omega) q2)
      obtain ⟨w3, w4⟩ := g7 i (fun j q1 q2 => hi j q1 (by omega))
      rw [w1, w2, l2.2.1 _ (by omega), l2.1 _ (by omega) (by omega), w3, w4, e2.2 _ (by omega), e2.1 _ (by omega)]
      exact ⟨rfl, rfl⟩
end Mk
