/-! FREE: the class lays the WORDS -/
theorem gw_cg {Q Q' : Nat → Bool} : ∀ n, (∀ w, w ≤ n → Q w = Q' w) → gw Q n = gw Q' n := by
  intro n
  induction n with
  | zero => intro _; rfl
  | succ n ih => intro h; rw [gw, gw, h (n + 1) (Nat.le_refl _), ih (fun w hw => h w (by omega))]
theorem chW_eq {b1 b2 b3 : Nat} {lc : Nat → Nat} {k a b c R d d' : Nat} (h : Ends b1 b2 b3 k a b c R) (hd : k ≤ d) (hd' : k ≤ d') : chW b1 b2 b3 lc d a b c R = chW b1 b2 b3 lc d' a b c R := by
  unfold chW
  by_cases hR : R ≤ a
  · rw [if_pos hR, if_pos hR]
  · rw [if_neg hR, if_neg hR]
    have hz : a = 0 ∧ b = 0 ∧ c = 0 → gw (fun w => decide (cwF b1 b2 b3 lc (d - 1) a b c R w = gF b1 b2 b3 lc d a b c R)) a = gw (fun w => decide (cwF b1 b2 b3 lc (d' - 1) a b c R w = gF b1 b2 b3 lc d' a b c R)) a := by
      rintro ⟨rfl, -, -⟩
      rfl
    have he := ends_eq b1 b2 b3 lc k a b c R h d d' hd hd'
    cases k with
    | zero =>
      rcases h with q | q
      · exact absurd q hR
      · exact hz q
    | succ k =>
      rcases h with q | q | q
      · exact absurd q hR
      · exact hz q
      · refine gw_cg a (fun w hw => ?_)
        unfold cwF
        rw [he, ends_eq b1 b2 b3 lc k _ _ _ _ (q w hw) (d - 1) (d' - 1) (by omega) (by omega)]
theorem sp_lv {p s : Nat} {S : List Ent} (hS : SrtK S) (hO : OkF s S) (h : ∀ e, e ∈ S → p ≤ e.2.2) : S = lvT p S ++ lvV p S := by
  refine srt_eq _ _ hS ?_ (lv_perm h).symm
  unfold SrtK
  rw [List.pairwise_append]
  refine ⟨List.Pairwise.filter _ hS, List.Pairwise.filter _ hS, fun x hx y hy => ?_⟩
  have h1 := lvT_mem hx
  have h2 := lvV_mem hy
  exact (ky_lt (hO.1.ens (Nat.le_refl _) x h1.1) (hO.1.ens (Nat.le_refl _) y h2.1)).mpr (Or.inl (by omega))
section La
variable {b1 b2 b3 : Nat} {lc : Nat → Nat} {s t bd ul st : Nat} {fl : Nat → Bool} {N : Nat}
theorem LvQ.fr {A A' : Nat → Nat → Int32} {B B' : Nat → Nat → Int64} {G G' : Nat → Nat → Int32} (h : LvQ b1 b2 b3 lc s t bd ul st A B G) (h1 : A' 84 = A 84) (h2 : A' 88 = A 88) (h3 : B' 83 = B 83) (h4 : B' 85 = B 85) (h5 : G' 82 = G 82) : LvQ b1 b2 b3 lc s t bd ul st A' B' G' := by
  unfold LvQ MO at *
  rw [h1, h2, h3, h4, h5]
  exact h
theorem s_waL (f1 : fl 1 = true) {G : Nat → Nat → Int32} (hH : LvH b1 b2 b3 lc s t bd ul st) (hN : 100 < N) {l a b c R : Nat} (h : SV b1 b2 b3 s t bd ul l a b c R) (ha : a < R) (hl : l < depB bd) : ∀ (w m : Nat) (A : Nat → Nat → Int32) (B : Nat → Nat → Int64), w ≤ a → w < m → LvQ b1 b2 b3 lc s t bd ul st A B G →
    ∃ A' B', f_X1_wordsAt_L25 N m 82 (nI l) (nI a) (nI b) (nI c) (nI R) (lN (gF b1 b2 b3 lc (depB bd - l) a b c R)) (nI w) (mem A B G fl) = some (nI (gw (fun w => decide (cwF b1 b2 b3 lc (depB bd - l - 1) a b c R w = gF b1 b2 b3 lc (depB bd - l) a b c R)) w), mem A' B' G fl) ∧ FrL A A' B B' ∧ LvQ b1 b2 b3 lc s t bd ul st A' B' G := by
  have ht : t ≤ 24 := hH.2.2.1
  have hRt : R ≤ t := h.2.2.1
  have hdp : depB bd ≤ 40 := by have := hH.2.2.2.2.2.2.2.2.2.1; unfold depB; split <;> omega
  intro w
  induction w with
  | zero =>
    intro m A B hw hm hQ
    obtain ⟨m, rfl⟩ : ∃ j, m = j + 1 := ⟨m - 1, by omega⟩
    rw [f_X1_wordsAt_L25, if_pos (by decide)]
    exact ⟨A, B, rfl, FrL.refl A B, hQ⟩
  | succ w ih =>
    intro m A B hw hm hQ
    obtain ⟨m, rfl⟩ : ∃ j, m = j + 1 := ⟨m - 1, by omega⟩
    obtain ⟨A1, B1, e1, e2, e3⟩ := s_lw (N := N) f1 hH (s_leS (N := N) f1 hH hN 48) h ha hl (by omega) (w := w + 1) hw (by omega) hQ
    have c1 : cwF b1 b2 b3 lc (depB bd - (l + 1)) a b c R (w + 1) ≤ EV := by unfold cwF adE; omega
    have c2 := gF_le b1 b2 b3 lc (depB bd - l) a b c R
    rw [f_X1_wordsAt_L25, if_neg (show ¬ nI (w + 1) ≤ (0 : Int32) from nI_ge (a := 0) (by omega) (by omega)), ck_82 f1, sb, e1, b2s, gw]
    rw [show depB bd - l - 1 = depB bd - (l + 1) by omega] at ih ⊢
    by_cases hq : cwF b1 b2 b3 lc (depB bd - (l + 1)) a b c R (w + 1) = gF b1 b2 b3 lc (depB bd - l) a b c R
    · rw [if_pos ((lg_eq (by unfold EV at c1; omega) (by unfold EV at c2; omega)).mpr hq), if_pos (decide_eq_true hq)]
      exact ⟨A1, B1, rfl, e2, e3⟩
    · rw [if_neg (fun q => hq ((lg_eq (by unfold EV at c1; omega) (by unfold EV at c2; omega)).mp q)), if_neg (by rw [decide_eq_true_eq]; exact hq), pk_m1]
      obtain ⟨A2, B2, k1, k2, k3⟩ := ih m A1 B1 (by omega) (by omega) e3
      exact ⟨A2, B2, k1, e2.trans k2, k3⟩
theorem s_wordsAt (f1 : fl 1 = true) {G : Nat → Nat → Int32} (hH : LvH b1 b2 b3 lc s t bd ul st) (hN : 100 < N) {l a b c R : Nat} (h : SV b1 b2 b3 s t bd ul l a b c R) (hl : a < R → l < depB bd) (A : Nat → Nat → Int32) (B : Nat → Nat → Int64) (hQ : LvQ b1 b2 b3 lc s t bd ul st A B G) :
    ∃ A' B', f_X1_wordsAt N 82 (nI l) (nI a) (nI b) (nI c) (nI R) (mem A B G fl) = some (nI (chW b1 b2 b3 lc (depB bd - l) a b c R), mem A' B' G fl) ∧ FrL A A' B B' ∧ LvQ b1 b2 b3 lc s t bd ul st A' B' G := by
  have ht : t ≤ 24 := hH.2.2.1
  have hRt : R ≤ t := h.2.2.1
  have haR : a ≤ R := h.2.2.2.1
  have hdp : depB bd ≤ 40 := by have := hH.2.2.2.2.2.2.2.2.2.1; unfold depB; split <;> omega
  unfold f_X1_wordsAt chW
  by_cases ha : a < R
  · obtain ⟨A1, B1, e1, e2, e3⟩ := s_leS (N := N) f1 hH hN 48 l a b c R A B h (by omega) hQ
    obtain ⟨A2, B2, k1, k2, k3⟩ := s_waL (N := N) f1 hH hN h ha (hl ha) a N A1 B1 (Nat.le_refl _) (by omega) e3
    rw [if_pos (nI_lt ha (by omega)), if_neg (by omega), ck_82 f1, sb, e1, b2s, k1]
    exact ⟨A2, B2, rfl, e2.trans k2, k3⟩
  · rw [if_neg (nI_nlt (by omega) (by omega)), if_pos (by omega)]
    exact ⟨A, B, rfl, FrL.refl A B, hQ⟩
variable {P o : Nat → Nat}
/-- what laying reads -/
def LyX (A : Nat → Nat → Int32) (G : Nat → Nat → Int32) (P o : Nat → Nat) (s t : Nat) : Prop := G 82 8 = nI s ∧ (∀ u, u < s → A 87 u = nI (P u)) ∧ (∀ j, j < t → A 86 j = nI (o j) ∧ o j < t)
theorem LyX.fr {A A' : Nat → Nat → Int32} {G G' : Nat → Nat → Int32} (h : LyX A G P o s t) (h1 : A' 87 = A 87) (h2 : A' 86 = A 86) (h3 : G' 82 = G 82) : LyX A' G' P o s t := by
  unfold LyX at *
  rw [h1, h2, h3]
  exact h
theorem op89 (f1 : fl 1 = true) : opL fl 89 := ⟨ly89 f1, ly90 f1, ly91 f1, ly92 f1, by decide⟩
theorem s_kidF (f1 : fl 1 = true) (hN : 300 < N) (hs : s ≤ 4) (hP : ∀ u, u < s → 1 ≤ P u ∧ P u ≤ 3) {f : Nat} {e : Ent} (he : EnW s e) (hn : e.2.1 ≤ 23) (hl : e.2.2 ≤ 300) : ∀ (k u m : Nat) (A : Nat → Nat → Int32) (B : Nat → Nat → Int64) (G : Nat → Nat → Int32) (S : List Ent), u + k = s → k < m → LyX A G P o s t → OpS A B G 89 f S → f + S.length + k ≤ 97 → (∀ y, y ∈ S → EnS y) →
    ∃ A' B' G', f_X1_continueFirst_L46 N m 82 (lN e.1) (nI e.2.1) (nI e.2.2) (nI u) (mem A B G fl) = some (mem A' B' G' fl) ∧ FrP2 89 A A' B B' G G' ∧ OpS A' B' G' 89 f (insA (kidL P s e k u) S) := by
  intro k
  induction k with
  | zero =>
    intro u m A B G S hu hm hE hO h97 hS
    obtain ⟨m, rfl⟩ : ∃ j, m = j + 1 := ⟨m - 1, by omega⟩
    refine ⟨A, B, G, ?_, FrP2.refl 89 A B G, hO⟩
    rw [f_X1_continueFirst_L46, gx_82_8 f1, sb, hE.1, if_pos (nI_le (by omega) (by omega))]
  | succ k ih =>
    intro u m A B G S hu hm hE hO h97 hS
    obtain ⟨m, rfl⟩ : ∃ j, m = j + 1 := ⟨m - 1, by omega⟩
    rw [f_X1_continueFirst_L46, gx_82_8 f1, sb, hE.1, if_neg (nI_ge (by omega) (by omega)), kidL, if_neg (by omega)]
    have p1 := hE.2.1 u (by omega)
    have p2 := hP u (by omega)
    have hw := Wv.add (u := u) he hn (by omega) hs
    have hkd : EnS (kd P e u) := ⟨hw.1, hw.2.1, by show e.2.2 + P u ≤ 1000; omega⟩
    obtain ⟨A1, B1, G1, c1', c2, c3⟩ := s_insert (fl := fl) (N := N) (op89 f1) (by omega) hkd (show f + S.length < 97 by omega) hS hO
    obtain ⟨A', B', G', g1, g2, g3⟩ := ih (u + 1) m A1 B1 G1 (insS (kd P e u) S) (by omega) (by omega) (hE.fr (c2.1 87 (by omega) (by omega)) (c2.1 86 (by omega) (by omega)) (c2.2.2 82 (by omega))) c3 (by rw [insS_len]; omega) (fun y hy => by
      rcases List.mem_cons.mp ((insS_perm _ _).mem_iff.mp hy) with rfl | hy
      · exact hkd
      · exact hS y hy)
    refine ⟨A', B', G', ?_, c2.trans g2, g3⟩
    rw [gx_82_6 f1, sb, s_rowAndSign (by omega) he.2.2.1 (by omega), b2s, gx_82_4 f1, sb, ldI_n (ly87 f1) (by omega) (by decide), sb, p1, chk_mem (ly89 f1), sb, show nI e.2.1 + (1 : Int32) = nI (e.2.1 + 1) from nI_1 _, nI_add]
    rw [show f_X3_insert N 89 (lN (e.1 + u * 4 ^ (23 - e.2.1))) (nI (e.2.1 + 1)) (nI (e.2.2 + P u)) (mem A B G fl) = _ from c1', sb, nI_1, g1]
theorem s_contF (f1 : fl 1 = true) (hN : 300 < N) (hs : s ≤ 4) (hP : ∀ u, u < s → 1 ≤ P u ∧ P u ≤ 3) {f : Nat} {e : Ent} {S : List Ent} (he : EnW s e) (hn : e.2.1 ≤ 23) (hl : e.2.2 ≤ 300) (A : Nat → Nat → Int32) (B : Nat → Nat → Int64) (G : Nat → Nat → Int32) (hE : LyX A G P o s t) (hO : OpS A B G 89 f (e :: S)) (h97 : f + 1 + S.length + s ≤ 97) (hS : ∀ y, y ∈ S → EnS y) :
    ∃ A' B' G', f_X1_continueFirst N 82 (mem A B G fl) = some (mem A' B' G' fl) ∧ FrP2 89 A A' B B' G G' ∧ OpS A' B' G' 89 (f + 1) (insA (kidL P s e s 0) S) := by
  obtain ⟨q1, q2, q3, q4, q5, q6⟩ := s_first (fl := fl) (N := N) (op89 f1) (show f + S.length < 97 by omega) hO
  generalize hG1 : upA G 89 (upd (G 89) 3 (nI (f + 1))) = G1 at q5 q6
  have g0 : ∀ k, k ≠ 89 → G1 k = G k := fun k hk => by rw [← hG1, upA_ne _ _ _ hk]
  obtain ⟨A2, B2, G2, k1, k2, k3⟩ := s_kidF (fl := fl) (N := N) (t := t) (P := P) (o := o) (f := f + 1) f1 hN hs hP he hn hl s 0 N A B G1 S (by omega) (by omega) (hE.fr rfl rfl (g0 82 (by omega))) q6 (by omega) hS
  refine ⟨A2, B2, G2, ?_, FrP2.trans ⟨fun _ _ _ => rfl, fun _ _ => rfl, g0⟩ k2, k3⟩
  unfold f_X1_continueFirst
  rw [gx_82_6 f1, sb, chk_mem (ly89 f1), sb, q1, b2s, if_neg (show ¬ (1 : Int32) = 0 by decide), gx_82_6 f1, sb, chk_mem (ly89 f1), sb, q2, b2s, gx_82_6 f1, sb, chk_mem (ly89 f1), sb, q3, b2s, gx_82_6 f1, sb, chk_mem (ly89 f1), sb, q4, b2s, gx_82_6 f1, sb, chk_mem (ly89 f1), sb, q5, sb, show (0 : Int32) = nI 0 from rfl, k1]
theorem s_l160 (f1 : fl 1 = true) (hN : 300 < N) (hs : s ≤ 4) (hP : ∀ u, u < s → 1 ≤ P u ∧ P u ≤ 3) {p more R : Nat} (hp : p ≤ 22) (hR : 0 < R) (hR2 : R ≤ 24) (hmo : more ≤ 24) {cd : Nat} (x3 x5 x6 x8 : Int32) (k104 : Nat → Nat → Int32 → Int32 → Int32 → Int32 → Int32 → Int32 → A_M → Option (Int32 × A_M)) : ∀ (T V : List Ent) (X : List Ent) (f k m : Nat) (A : Nat → Nat → Int32) (B : Nat → Nat → Int64) (G : Nat → Nat → Int32), T.length + k = more → T.length < m → SrtK X → X.Perm (T ++ V) → OkF s (T ++ V) → SrtK T → (∀ e, e ∈ T → e.2.2 = p) → (∀ e, e ∈ V → p < e.2.2) → LyX A G P o s t → OpS A B G 89 f X → f + X.length + s * T.length ≤ 97 →
    ∃ A' B' G' X', f_X1_make_L160 N k104 m 82 cd x3 x5 x6 (nI R) x8 (nI more) (nI k) (mem A B G fl) = f_X1_make_K182 N k104 82 cd x3 x5 x6 (nI R) x8 (nI more) (mem A' B' G' fl) ∧ FrP2 89 A A' B B' G G' ∧ OpS A' B' G' 89 (f + T.length) X' ∧ SrtK X' ∧ X'.Perm (V ++ kF P s T) := by
  intro T
  induction T with
  | nil =>
    intro V X f k m A B G hk hm hX hpm hOk hT hTl hVl hE hO h97
    obtain ⟨m, rfl⟩ : ∃ j, m = j + 1 := ⟨m - 1, by omega⟩
    have : ([] : List Ent).length = 0 := rfl
    refine ⟨A, B, G, X, ?_, FrP2.refl 89 A B G, hO, hX, ?_⟩
    · rw [f_X1_make_L160, if_pos (nI_le (by omega) (by omega))]
    · rw [show kF P s [] = [] from rfl, List.append_nil]; exact hpm
  | cons e T ih =>
    intro V X f k m A B G hk hm hX hpm hOk hT hTl hVl hE hO h97
    obtain ⟨m, rfl⟩ : ∃ j, m = j + 1 := ⟨m - 1, by omega⟩
    have hc : (e :: T).length = T.length + 1 := rfl
    obtain ⟨t1, t2⟩ := List.pairwise_cons.mp hT
    have hel := hTl e List.mem_cons_self
    have hens := hOk.1.ens (Nat.le_refl _)
    obtain ⟨X', rfl, hX'⟩ := hd_min (R := T ++ V) hX hpm (fun z hz => by
      rcases List.mem_append.mp hz with hz | hz
      · exact t1 z hz
      · exact (ky_lt (hens e List.mem_cons_self) (hens z (List.mem_append.mpr (Or.inr hz)))).mpr (Or.inl (by have := hVl z hz; omega)))
    have hXc : (e :: X').length = X'.length + 1 := rfl
    have hsm : s * (e :: T).length = s * T.length + s := by rw [hc, Nat.mul_add, Nat.mul_one]
    obtain ⟨e1, e2, e3⟩ := hOk.1.2 e List.mem_cons_self
    have e4 := hOk.2 e List.mem_cons_self
    have hO2 : OkF s ((T ++ V) ++ kidL P s e s 0) := OkF.step hs hP (by omega) hOk
    obtain ⟨A1, B1, G1, c1, c2, c3⟩ := s_contF (fl := fl) (N := N) (t := t) (o := o) (f := f) f1 hN hs hP e1 (by omega) (by omega) A B G hE hO (by omega) (fun y hy => hens y (List.mem_cons_of_mem _ (hX'.mem_iff.mp hy)))
    have hp2 : (insA (kidL P s e s 0) X').Perm (T ++ (V ++ kidL P s e s 0)) := by
      refine (insA_perm _ _).trans ?_
      rw [← List.append_assoc]
      exact hX'.append_right _
    obtain ⟨A2, B2, G2, X2, d1, d2, d3, d4, d5⟩ := ih (V ++ kidL P s e s 0) (insA (kidL P s e s 0) X') (f + 1) (k + 1) m A1 B1 G1 (by omega) (by omega) (OkF.srt (List.pairwise_cons.mp hX).2 (hO2.perm (hX'.symm.append_right _))) hp2 (by rw [← List.append_assoc]; exact hO2) t2 (fun z hz => hTl z (List.mem_cons_of_mem _ hz)) (fun z hz => by
      rcases List.mem_append.mp hz with hz | hz
      · exact hVl z hz
      · obtain ⟨v, -, b, -, rfl⟩ := kidL_mem s 0 hz
        have := hP v (by omega)
        show p < e.2.2 + P v
        omega) (hE.fr (c2.1 87 (by omega) (by omega)) (c2.1 86 (by omega) (by omega)) (c2.2.2 82 (by omega))) c3 (by rw [insA_len, kidL_len3 s 0 (by omega)]; omega)
    refine ⟨A2, B2, G2, X2, ?_, c2.trans d2, by rw [show f + (e :: T).length = f + 1 + T.length by omega]; exact d3, d4, ?_⟩
    · rw [f_X1_make_L160, if_neg (nI_ge (by omega) (by omega)), if_neg (show ¬ nI R ≤ (0 : Int32) from nI_ge (a := 0) hR (by omega)), chk_mem (ly82 f1), sb, c1, sb, nI_1, d1]
    · rw [List.append_assoc, ← kF_cons] at d5
      exact d5
/-- the words of some ranks -/
def Wr (A : Nat → Nat → Int32) (B : Nat → Nat → Int64) (cd : Nat) (o : Nat → Nat) (q : Nat) (L : List (Nat × Nat)) : Prop := ∀ j, j < L.length → B (cd + 1) (o (q + j)) = lN (L.getD j (0, 0)).1 ∧ A (cd + 2) (o (q + j)) = nI (L.getD j (0, 0)).2
theorem s_giveL (f1 : fl 1 = true) (ht : t ≤ 24) {cd : Nat} (hcd : cdL fl cd) (hc2 : cd < 50) (hinj : ∀ j1 j2, j1 < j2 → j2 < t → o j1 ≠ o j2) {w q : Nat} (hwq : q + w ≤ t) {X : List Ent} : ∀ (T : List Ent) (f k m : Nat) (A : Nat → Nat → Int32) (B : Nat → Nat → Int64) (G : Nat → Nat → Int32), T.length + k = w → T.length < m → LyX A G P o s t → OpS A B G 89 f (T ++ X) → f + (T ++ X).length ≤ 97 →
    ∃ A' B' G', f_X1_giveWords_L3 N m 82 cd (nI w) (nI q) (nI k) (mem A B G fl) = some (mem A' B' G' fl) ∧ (∀ k, k ≠ cd + 2 → A' k = A k) ∧ (∀ k, k ≠ cd + 1 → B' k = B k) ∧ (∀ k, k ≠ 89 → G' k = G k) ∧ OpS A' B' G' 89 (f + T.length) X ∧ Wr A' B' cd o (q + k) (T.map wd1) ∧ (∀ i, (∀ j, q + k ≤ j → j < q + w → o j ≠ i) → B' (cd + 1) i = B (cd + 1) i ∧ A' (cd + 2) i = A (cd + 2) i) := by
  intro T
  induction T with
  | nil =>
    intro f k m A B G hk hm hE hO h97
    obtain ⟨m, rfl⟩ : ∃ j, m = j + 1 := ⟨m - 1, by omega⟩
    have : ([] : List Ent).length = 0 := rfl
    refine ⟨A, B, G, ?_, fun _ _ => rfl, fun _ _ => rfl, fun _ _ => rfl, hO, (fun j hj => absurd hj (Nat.not_lt_zero j)), fun _ _ => ⟨rfl, rfl⟩⟩
    rw [f_X1_giveWords_L3, if_pos (nI_le (by omega) (by omega))]
  | cons e T ih =>
    intro f k m A B G hk hm hE hO h97
    obtain ⟨m, rfl⟩ : ∃ j, m = j + 1 := ⟨m - 1, by omega⟩
    have hc : (e :: T).length = T.length + 1 := rfl
    have hc3 : (e :: T ++ X).length = (T ++ X).length + 1 := rfl
    obtain ⟨q1, q2, q3, q4, q5, q6⟩ := s_first (fl := fl) (N := N) (op89 f1) (S := T ++ X) (show f + (T ++ X).length < 97 by omega) hO
    obtain ⟨o1, o2⟩ := hE.2.2 (q + k) (by omega)
    have hgw := s_giveWord (A := A) (B := B) (G := G) (N := N) hcd (show o (q + k) < 24 by omega) (lN e.1) (nI e.2.1)
    generalize hA1 : upA A (cd + 2) (upd (A (cd + 2)) (o (q + k)) (nI e.2.1)) = A1 at hgw
    generalize hB1 : upA B (cd + 1) (vp_updL (B (cd + 1)) (o (q + k)) (lN e.1)) = B1 at hgw
    have a0 : ∀ k, k ≠ cd + 2 → A1 k = A k := fun k hk => by rw [← hA1, upA_ne _ _ _ hk]
    have b0 : ∀ k, k ≠ cd + 1 → B1 k = B k := fun k hk => by rw [← hB1, upA_ne _ _ _ hk]
    have a18 : A1 (cd + 2) = upd (A (cd + 2)) (o (q + k)) (nI e.2.1) := by rw [← hA1]; exact upA_same _ _ _
    have b17 : B1 (cd + 1) = vp_updL (B (cd + 1)) (o (q + k)) (lN e.1) := by rw [← hB1]; exact upA_same _ _ _
    have hO1 : OpS A1 B1 G 89 f (e :: (T ++ X)) := ⟨hO.1, hO.2.1, fun k y hy => by
      obtain ⟨c1, c2, c3⟩ := hO.2.2 k y hy
      exact ⟨by rw [b0 90 (by omega)]; exact c1, by rw [a0 91 (by omega)]; exact c2, by rw [a0 92 (by omega)]; exact c3⟩⟩
    obtain ⟨-, -, -, -, r5, r6⟩ := s_first (fl := fl) (N := N) (op89 f1) (S := T ++ X) (show f + (T ++ X).length < 97 by omega) hO1
    generalize hG1 : upA G 89 (upd (G 89) 3 (nI (f + 1))) = G1 at r5 r6
    have g0 : ∀ k, k ≠ 89 → G1 k = G k := fun k hk => by rw [← hG1, upA_ne _ _ _ hk]
    obtain ⟨A2, B2, G2, d1, d2, d3, d4, d5, d6, d7⟩ := ih (f + 1) (k + 1) m A1 B1 G1 (by omega) (by omega) (hE.fr (a0 87 (by omega)) (a0 86 (by omega)) (g0 82 (by omega))) r6 (by omega)
    refine ⟨A2, B2, G2, ?_, fun k hk => by rw [d2 k hk, a0 k hk], fun k hk => by rw [d3 k hk, b0 k hk], fun k hk => by rw [d4 k hk, g0 k hk], by rw [show f + (e :: T).length = f + 1 + T.length by omega]; exact d5, ?_, ?_⟩
    · rw [f_X1_giveWords_L3, if_neg (nI_ge (by omega) (by omega)), gx_82_6 f1, sb, chk_mem (ly89 f1), sb, q1, b2s, if_neg (show ¬ (1 : Int32) = 0 by decide), gx_82_3 f1, sb, nI_add, ldI_n (ly86 f1) (by omega) (by decide), sb, o1, gx_82_6 f1, sb, chk_mem (ly89 f1), sb, q2, b2s, gx_82_6 f1, sb, chk_mem (ly89 f1), sb, q3, b2s, chk_mem hcd.1, sb, hgw, sb, gx_82_6 f1, sb, chk_mem (ly89 f1), sb, r5, sb, nI_1, d1]
    · intro j hj
      cases j with
      | zero =>
        obtain ⟨v1, v2⟩ := d7 (o (q + k)) (fun j2 g1 g2 => fun z => hinj (q + k) j2 (by omega) (by omega) z.symm)
        show B2 (cd + 1) (o (q + k)) = lN e.1 ∧ A2 (cd + 2) (o (q + k)) = nI e.2.1
        rw [v1, v2, a18, b17, upd_eq, vpL_eq]
        exact ⟨rfl, rfl⟩
      | succ j =>
        have hj2 : j < (T.map wd1).length := by
          rw [List.map_cons, List.length_cons] at hj
          omega
        have := d6 j hj2
        rw [show q + k + (j + 1) = q + (k + 1) + j by omega]
        exact this
    · intro i hi
      obtain ⟨v1, v2⟩ := d7 i (fun j2 g1 g2 => hi j2 (by omega) g2)
      have hne := hi (q + k) (Nat.le_refl _) (by omega)
      rw [v1, v2, a18, b17, upd_ne _ _ _ (fun q => hne q.symm), vpL_ne _ _ _ (fun q => hne q.symm)]
      exact ⟨rfl, rfl⟩
end La
