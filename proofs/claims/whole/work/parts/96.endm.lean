/-! ENDED: the reference -/
theorem hd_min {S R : List Ent} {a : Ent} (hS : SrtK S) (hp : S.Perm (a :: R)) (ha : ∀ z, z ∈ R → ky a < ky z) : ∃ S', S = a :: S' ∧ S'.Perm R := by
  cases S with
  | nil => exact absurd (List.nil_perm.mp hp) (by simp)
  | cons b S' =>
    obtain ⟨s1, s2⟩ := List.pairwise_cons.mp hS
    have hba : b = a := by
      have hb : b ∈ a :: R := hp.mem_iff.mp List.mem_cons_self
      rcases List.mem_cons.mp hb with e | hb
      · exact e
      · have ha2 : a ∈ b :: S' := hp.mem_iff.mpr List.mem_cons_self
        rcases List.mem_cons.mp ha2 with e | ha2
        · exact e.symm
        · have h1 := ha b hb
          have h2 := s1 a ha2
          omega
    subst hba
    exact ⟨S', rfl, List.Perm.cons_inv hp⟩
theorem least_n {N a b : Nat} {M : A_M} (ha : a < 2 ^ 31) (hb : b < 2 ^ 31) : f_X7_least N (nI a) (nI b) M = some (nI (min a b), M) := by
  unfold f_X7_least
  by_cases h : a < b
  · rw [if_neg (nI_ge h hb), Nat.min_eq_left (by omega)]
  · rw [if_pos (nI_le (by omega) ha), Nat.min_eq_right (by omega)]
section Em
variable {fl : Nat → Bool} {N s t : Nat} {P : Nat → Nat} {o : Nat → Nat}
def EdM (A : Nat → Nat → Int32) (G : Nat → Nat → Int32) (P o : Nat → Nat) (s t : Nat) : Prop := G 44 1 = nI s ∧ G 44 3 = nI t ∧ (∀ u, u < s → A 45 u = nI (P u) ∧ 1 ≤ P u ∧ P u ≤ 9) ∧ (∀ j, j < t → A 50 j = nI (o j) ∧ o j < t)
theorem EdM.fr {A A' : Nat → Nat → Int32} {G G' : Nat → Nat → Int32} (h : EdM A G P o s t) (h1 : A' 45 = A 45) (h3 : A' 50 = A 50) (h0 : G' 44 1 = G 44 1) (h2 : G' 44 3 = G 44 3) : EdM A' G' P o s t := by
  unfold EdM at *
  rw [h1, h3, h0, h2]
  exact h
theorem s_kidM (hs : s ≤ 4) (ht : t ≤ 24) {x tt p n i q : Nat} {e : Ent} (htt : tt < t) (he : EnW s e) (hn : e.2.1 ≤ 23) (hl : e.2.2 = p) (hp : p ≤ 300) (hx : x < s) (k24 : Nat → Int32 → Int32 → Int32 → A_M → Option A_M) (k55 : Nat → Int32 → Int32 → Int32 → Int32 → Int32 → A_M → Option A_M) : ∀ (k u m : Nat) (A : Nat → Nat → Int32) (B : Nat → Nat → Int64) (G : Nat → Nat → Int32) (L : List Ent), u + k = s → k < m → EdM A G P o s t → OpM A B G L → L.length + k ≤ 400 → L[q]? = some e →
    ∃ A' B' G', f_X7_buildEnded_L126 N k24 k55 m 44 (nI x) (nI tt) (nI p) (nI n) (nI i) (nI q) (nI u) (mem A B G fl) = k55 44 (nI x) (nI tt) (nI p) (nI n) (nI (i + 1)) (mem A' B' G' fl) ∧ OpM A' B' G' (L ++ kidL P x e k u) ∧ FrM2 A A' B B' G G' ∧ A' 58 = A 58 ∧ G' 44 23 = G 44 23 := by
  intro k
  induction k with
  | zero =>
    intro u m A B G L hu hm hE hM hL hq
    obtain ⟨m, rfl⟩ : ∃ j, m = j + 1 := ⟨m - 1, by omega⟩
    refine ⟨A, B, G, ?_, ?_, FrM2.refl A B G, rfl, rfl⟩
    · rw [f_X7_buildEnded_L126, gx_44_1, sb, hE.1, if_pos (nI_le (by omega) (by omega)), f_X7_buildEnded_K196, nI_1]
    · rw [kidL, List.append_nil]; exact hM
  | succ k ih =>
    intro u m A B G L hu hm hE hM hL hq
    obtain ⟨m, rfl⟩ : ∃ j, m = j + 1 := ⟨m - 1, by omega⟩
    have hql : q < L.length := (List.getElem?_eq_some_iff.mp hq).1
    obtain ⟨r1, r2, r3⟩ := hM.2 q e hq
    rw [f_X7_buildEnded_L126, gx_44_1, sb, hE.1, if_neg (nI_ge (by omega) (by omega)), gx_44_3, sb, hE.2.1, if_neg (nI_ge (by omega) (by omega)), kidL]
    by_cases hux : u = x
    · rw [if_pos hux, if_pos (by rw [hux]), f_X7_buildEnded_K190, nI_1]
      exact ih (u + 1) m A B G L (by omega) (by omega) hE hM (by omega) hq
    · obtain ⟨p1, -, p2⟩ := hE.2.2.1 u (by omega)
      obtain ⟨A1, B1, G1, c1', c2, c3, c4, c5⟩ := s_openM (fl := fl) (N := N) (show L.length < 400 by omega) hM (kd P e u)
      have hl1 : (L ++ [kd P e u]).length = L.length + 1 := List.length_append
      obtain ⟨A', B', G', g1, g2, g3, g4, g5⟩ := ih (u + 1) m A1 B1 G1 (L ++ [kd P e u]) (by omega) (by omega) (hE.fr (c3.1 45 (by omega) (by omega) (by omega)) (c3.1 50 (by omega) (by omega) (by omega)) (c3.2.2.2 1 (by omega) (by omega)) (c3.2.2.2 3 (by omega) (by omega))) c2 (by omega) (by rw [List.getElem?_append_left hql]; exact hq)
      refine ⟨A', B', G', ?_, ?_, c3.trans g3, g4.trans c4, g5.trans c5⟩
      · rw [if_neg (fun w => hux ((nI_eq (by omega) (by omega)).mp w)), gx_44_18, sb, ldJ_n (ly55 fl) (by omega) (by decide), sb, r1, gx_44_19, sb, ldI_n (ly56 fl) (by omega) (by decide), sb, r2, s_with (by omega) he.2.2.1 (by omega), b2s, gx_44_19, sb, ldI_n (ly56 fl) (by omega) (by decide), sb, r2, gx_44_0, sb, ldI_n (ly45 fl) (by omega) (by decide), sb, p1, ck_44, sb, show nI e.2.1 + (1 : Int32) = nI (e.2.1 + 1) from nI_1 _, nI_add, ← hl]
        rw [show f_X7_open N 44 (lN (e.1 + u * 4 ^ (23 - e.2.1))) (nI (e.2.1 + 1)) (nI (e.2.2 + P u)) (mem A B G fl) = _ from c1', sb, f_X7_buildEnded_K190, nI_1, hl, g1]
      · rw [if_neg hux]
        rw [List.append_assoc] at g2
        exact g2
theorem s_kidM0 (hs : s ≤ 4) {x tt p n i q : Nat} (ht : t ≤ 24) (htt : tt = t) (k24 : Nat → Int32 → Int32 → Int32 → A_M → Option A_M) (k55 : Nat → Int32 → Int32 → Int32 → Int32 → Int32 → A_M → Option A_M) {A : Nat → Nat → Int32} {B : Nat → Nat → Int64} {G : Nat → Nat → Int32} (hs0 : 0 < s) (hE : EdM A G P o s t) (m : Nat) : f_X7_buildEnded_L126 N k24 k55 (m + 1) 44 (nI x) (nI tt) (nI p) (nI n) (nI i) (nI q) (nI 0) (mem A B G fl) = k55 44 (nI x) (nI tt) (nI p) (nI n) (nI (i + 1)) (mem A B G fl) := by
  rw [f_X7_buildEnded_L126, gx_44_1, sb, hE.1, if_neg (nI_ge (by omega) (by omega)), gx_44_3, sb, hE.2.1, if_pos (nI_le (by omega) (by omega)), f_X7_buildEnded_K196, nI_1]
/-- the words of one level -/
theorem s_em55 (hN : 500 < N) (hs2 : 2 ≤ s) (hs : s ≤ 4) (ht : t ≤ 24) {x t0 p n : Nat} (hx : x < s) (hp : p ≤ 240) {L0 : List Ent} {T : List Nat} (hT : ∀ y, y ∈ T → y < L0.length ∧ (eN L0 y).2.2 = p) (hTs : SrtK (T.map (eN L0))) (hn : n = min T.length (t - t0)) (h0 : t0 ≤ t) (hL0 : L0.length ≤ 60) (hL0l : ∀ z, z ∈ L0 → z.2.2 ≤ 300) (hinj : ∀ j1 j2, j1 < j2 → j2 < t → o j1 ≠ o j2) (k24 : Nat → Int32 → Int32 → Int32 → A_M → Option A_M) : ∀ (d i m : Nat) (A : Nat → Nat → Int32) (B : Nat → Nat → Int64) (G : Nat → Nat → Int32) (K : List Ent), i + d = n → d < m → EdM A G P o s t → OpM A B G (L0 ++ K) → K.length ≤ 4 * i → (∀ z, z ∈ K → p < z.2.2 ∧ z.2.2 ≤ 300) → (∀ j y, T[j]? = some y → A 58 j = nI y) → (t0 + i < t → (stE P s x (t0 + i)).Perm ((T.drop i).map (eN L0) ++ (L0.filter (fun z => decide (p < z.2.2)) ++ K))) →
    ∃ A' B' G' L', f_X7_buildEnded_L55 N k24 m 44 (nI x) (nI (t0 + i)) (nI p) (nI n) (nI i) (mem A B G fl) = k24 44 (nI x) (nI (t0 + n)) (nI (p + 1)) (mem A' B' G' fl) ∧ OpM A' B' G' L' ∧ (∀ z, z ∈ L' → p < z.2.2) ∧ (t0 + n < t → (stE P s x (t0 + n)).Perm L') ∧ (∀ k, k ≠ 48 → k ≠ 56 → k ≠ 57 → k ≠ 58 → A' k = A k) ∧ (∀ k, k ≠ 47 → k ≠ 55 → B' k = B k) ∧ (∀ k, k ≠ 44 → G' k = G k) ∧ (∀ f, f ≠ 21 → f ≠ 23 → G' 44 f = G 44 f) ∧ (∀ j, t0 + i ≤ j → j < t0 + n → B' 47 (o j) = lN (wE P s x j).1 ∧ A' 48 (o j) = nI (wE P s x j).2) ∧ (∀ y, (∀ j, t0 + i ≤ j → j < t0 + n → o j ≠ y) → B' 47 y = B 47 y ∧ A' 48 y = A 48 y) := by
  intro d
  induction d with
  | zero =>
    intro i m A B G K h hm hE hM hK hKl h58 hst
    obtain ⟨m, rfl⟩ : ∃ j, m = j + 1 := ⟨m - 1, by omega⟩
    have hi : i = n := by omega
    subst hi
    have hll : (L0 ++ K).length = L0.length + K.length := List.length_append
    have hlv : ∀ z, z ∈ L0 ++ K → z.2.2 ≤ 1000 := fun z hz => by
      rcases List.mem_append.mp hz with hz | hz
      · have := hL0l z hz; omega
      · have := (hKl z hz).2; omega
    have hnt : i ≤ t - t0 := by omega
    obtain ⟨A', B', G', g1, g2, g3, g4⟩ := s_forget (fl := fl) (N := N) (show p ≤ 1000 by omega) (L := L0 ++ K) (by omega) hlv (L0 ++ K) 0 0 N A B G [] List.drop_zero (by omega) (by omega) rfl (Nat.le_refl _) rfl hM.1 (fun j x _ hx => hM.2 j x hx) (fun j x hx => (by cases hx))
    refine ⟨A', B', G', (L0 ++ K).filter (fun z => decide (p < z.2.2)), ?_, g2, fun z hz => of_decide_eq_true (List.mem_filter.mp hz).2, fun hlt => ?_, fun k _ a b c => g3.1 k a b c, fun k _ a => g3.2.1 k a, g3.2.2.1, g3.2.2.2, fun j h1 h2 => by omega, fun y _ => ?_⟩
    · rw [f_X7_buildEnded_L55, if_pos (nI_le (Nat.le_refl _) (by omega)), f_X7_buildEnded_K202, ck_44, sb]
      unfold f_X7_forget
      rw [show f_X7_forget_L4 N N 44 (nI p) (0 : Int32) (0 : Int32) (mem A B G fl) = _ from g1, sb, nI_1]
    · have hTl : T.length ≤ i := by omega
      have hp2 := hst hlt
      rw [List.drop_eq_nil_of_le hTl, List.map_nil, List.nil_append] at hp2
      have hf : (L0 ++ K).filter (fun z => decide (p < z.2.2)) = L0.filter (fun z => decide (p < z.2.2)) ++ K := by
        rw [List.filter_append]
        congr 1
        exact List.filter_eq_self.mpr (fun z hz => decide_eq_true (hKl z hz).1)
      rw [hf]
      exact hp2
    · rw [g3.2.1 47 (by omega), g3.1 48 (by omega) (by omega) (by omega)]
      exact ⟨rfl, rfl⟩
  | succ d ih =>
    intro i m A B G K h hm hE hM hK hKl h58 hst
    obtain ⟨m, rfl⟩ : ∃ j, m = j + 1 := ⟨m - 1, by omega⟩
    have hnT : n ≤ T.length := by omega
    have hnt : n ≤ t - t0 := by omega
    have hiT : i < T.length := by omega
    have hlt : t0 + i < t := by omega
    have hq : T[i]? = some T[i] := List.getElem?_eq_getElem hiT
    obtain ⟨hqL, hqp⟩ := hT T[i] (List.getElem_mem hiT)
    have h58i := h58 i _ hq
    generalize hqd : T[i] = q at hq hqL hqp h58i
    have hdrop : T.drop i = q :: T.drop (i + 1) := by rw [List.drop_eq_getElem_cons hiT, hqd]
    have hgq : (L0 ++ K)[q]? = some (eN L0 q) := by rw [List.getElem?_append_left hqL]; exact eN_get hqL
    obtain ⟨i1, i2, i3⟩ := stE_ok hs2 hs hx (fun u hu => (hE.2.2.1 u hu).2.2) (t0 + i) (by omega)
    have hp2 := hst hlt
    rw [hdrop, List.map_cons, List.cons_append] at hp2
    have hens := i2.ens (show t0 + i ≤ 24 by omega)
    have heS : eN L0 q ∈ stE P s x (t0 + i) := hp2.mem_iff.mpr List.mem_cons_self
    obtain ⟨S', hS1, hS2⟩ := hd_min i1 hp2 (fun z hz => by
      have hzS : z ∈ stE P s x (t0 + i) := hp2.mem_iff.mpr (List.mem_cons_of_mem _ hz)
      rcases List.mem_append.mp hz with hz | hz
      · have hTs2 : SrtK ((T.drop i).map (eN L0)) := by
          unfold SrtK at hTs ⊢
          rw [List.map_drop]
          exact List.Pairwise.sublist (List.drop_sublist _ _) hTs
        rw [hdrop, List.map_cons] at hTs2
        exact (List.pairwise_cons.mp hTs2).1 z hz
      · have hzl : p < z.2.2 := by
          rcases List.mem_append.mp hz with hz | hz
          · exact of_decide_eq_true (List.mem_filter.mp hz).2
          · exact (hKl z hz).1
        rw [ky_lt (hens _ heS) (hens z hzS)]
        exact Or.inl (by omega))
    obtain ⟨e1, e2, e3⟩ := i2.2 _ heS
    generalize hee : eN L0 q = e at hgq heS hS1 hS2 e1 e2 e3 hqp hp2
    have hwE : wE P s x (t0 + i) = (e.1 + x * 4 ^ (23 - e.2.1), e.2.1 + 1) := by
      unfold wE
      rw [hS1]
      rfl
    have hnext : stE P s x (t0 + i + 1) = insA (kidL P x e s 0) S' := by
      rw [stE, hS1]
    obtain ⟨o1, o2⟩ := hE.2.2.2 (t0 + i) hlt
    obtain ⟨r1, r2, r3⟩ := hM.2 q e hgq
    have hll : (L0 ++ K).length = L0.length + K.length := List.length_append
    generalize hA1 : upA A 48 (upd (A 48) (o (t0 + i)) (nI (e.2.1 + 1))) = A1
    generalize hB1 : upA B 47 (vp_updL (B 47) (o (t0 + i)) (lN (e.1 + x * 4 ^ (23 - e.2.1)))) = B1
    have a0 : ∀ k, k ≠ 48 → A1 k = A k := fun k hk => by rw [← hA1, upA_ne _ _ _ hk]
    have b0 : ∀ k, k ≠ 47 → B1 k = B k := fun k hk => by rw [← hB1, upA_ne _ _ _ hk]
    have a48 : A1 48 = upd (A 48) (o (t0 + i)) (nI (e.2.1 + 1)) := by rw [← hA1, upA_same]
    have b47 : B1 47 = vp_updL (B 47) (o (t0 + i)) (lN (e.1 + x * 4 ^ (23 - e.2.1))) := by rw [← hB1, upA_same]
    have hE1 : EdM A1 G P o s t := hE.fr (a0 45 (by omega)) (a0 50 (by omega)) rfl rfl
    have hM1 : OpM A1 B1 G (L0 ++ K) := ⟨hM.1, fun k z hz => by rw [a0 56 (by omega), a0 57 (by omega), b0 55 (by omega)]; exact hM.2 k z hz⟩
    have pre : f_X7_buildEnded_L55 N k24 (m + 1) 44 (nI x) (nI (t0 + i)) (nI p) (nI n) (nI i) (mem A B G fl) = f_X7_buildEnded_L126 N k24 (f_X7_buildEnded_L55 N k24 m) N 44 (nI x) (nI (t0 + i + 1)) (nI p) (nI n) (nI i) (nI q) (nI 0) (mem A1 B1 G fl) := by
      rw [f_X7_buildEnded_L55, if_neg (nI_ge (by omega) (by omega)), gx_44_22, sb, ldI_n (ly58 fl) (by omega) (by decide), sb, h58i, gx_44_7, sb, gx_44_10, sb, ldI_n (ly50 fl) (by omega) (by decide), sb, o1, gx_44_18, sb, ldJ_n (ly55 fl) (by omega) (by decide), sb, r1, gx_44_19, sb, ldI_n (ly56 fl) (by omega) (by decide), sb, r2, s_with (by omega) e1.2.2.1 (by omega), b2s, stJ_n (ly47 fl) (by omega) (by decide), sb, hB1, gx_44_8, sb, gx_44_10, sb, ldI_n (ly50 fl) (by omega) (by decide), sb, o1, gx_44_19, sb, ldI_n (ly56 fl) (by omega) (by decide), sb, r2, show nI e.2.1 + (1 : Int32) = nI (e.2.1 + 1) from nI_1 _, stI_n (ly48 fl) (by omega) (by decide), sb, hA1, nI_1]
      rfl
    have fin : ∀ (A2 : Nat → Nat → Int32) (B2 : Nat → Nat → Int64) (G2 : Nat → Nat → Int32) (K2 : List Ent), FrM2 A1 A2 B1 B2 G G2 → A2 58 = A1 58 → OpM A2 B2 G2 (L0 ++ K2) → K2.length ≤ 4 * (i + 1) → (∀ z, z ∈ K2 → p < z.2.2 ∧ z.2.2 ≤ 300) → (t0 + (i + 1) < t → (stE P s x (t0 + (i + 1))).Perm ((T.drop (i + 1)).map (eN L0) ++ (L0.filter (fun z => decide (p < z.2.2)) ++ K2))) → f_X7_buildEnded_L126 N k24 (f_X7_buildEnded_L55 N k24 m) N 44 (nI x) (nI (t0 + i + 1)) (nI p) (nI n) (nI i) (nI q) (nI 0) (mem A1 B1 G fl) = f_X7_buildEnded_L55 N k24 m 44 (nI x) (nI (t0 + (i + 1))) (nI p) (nI n) (nI (i + 1)) (mem A2 B2 G2 fl) → ∃ A' B' G' L', f_X7_buildEnded_L55 N k24 (m + 1) 44 (nI x) (nI (t0 + i)) (nI p) (nI n) (nI i) (mem A B G fl) = k24 44 (nI x) (nI (t0 + n)) (nI (p + 1)) (mem A' B' G' fl) ∧ OpM A' B' G' L' ∧ (∀ z, z ∈ L' → p < z.2.2) ∧ (t0 + n < t → (stE P s x (t0 + n)).Perm L') ∧ (∀ k, k ≠ 48 → k ≠ 56 → k ≠ 57 → k ≠ 58 → A' k = A k) ∧ (∀ k, k ≠ 47 → k ≠ 55 → B' k = B k) ∧ (∀ k, k ≠ 44 → G' k = G k) ∧ (∀ f, f ≠ 21 → f ≠ 23 → G' 44 f = G 44 f) ∧ (∀ j, t0 + i ≤ j → j < t0 + n → B' 47 (o j) = lN (wE P s x j).1 ∧ A' 48 (o j) = nI (wE P s x j).2) ∧ (∀ y, (∀ j, t0 + i ≤ j → j < t0 + n → o j ≠ y) → B' 47 y = B 47 y ∧ A' 48 y = A 48 y) := by
      intro A2 B2 G2 K2 f1 f2 f3 f4 f5 f6 f7
      obtain ⟨A', B', G', L', c1', c2, c3, c4, c5, c6, c7, c8, c9, c10⟩ := ih (i + 1) m A2 B2 G2 K2 (by omega) (by omega) (hE1.fr (f1.1 45 (by omega) (by omega) (by omega)) (f1.1 50 (by omega) (by omega) (by omega)) (f1.2.2.2 1 (by omega) (by omega)) (f1.2.2.2 3 (by omega) (by omega))) f3 f4 f5 (fun j y hy => by rw [f2, a0 58 (by omega)]; exact h58 j y hy) f6
      refine ⟨A', B', G', L', by rw [pre, f7, c1'], c2, c3, c4, fun k w1 w2 w3 w4 => by rw [c5 k w1 w2 w3 w4, f1.1 k w2 w3 w4, a0 k w1], fun k w1 w2 => by rw [c6 k w1 w2, f1.2.1 k w2, b0 k w1], fun k w => by rw [c7 k w, f1.2.2.1 k w], fun f w1 w2 => by rw [c8 f w1 w2, f1.2.2.2 f w1 w2], fun j w1 w2 => ?_, fun y hy => ?_⟩
      · by_cases hj : j = t0 + i
        · subst hj
          obtain ⟨v1, v2⟩ := c10 (o (t0 + i)) (fun j2 w3 w4 w5 => hinj (t0 + i) j2 (by omega) (by omega) w5.symm)
          rw [v1, v2, f1.2.1 47 (by omega), f1.1 48 (by omega) (by omega) (by omega), a48, b47, upd_eq, vpL_eq, hwE]
          exact ⟨rfl, rfl⟩
        · exact c9 j (by omega) w2
      · obtain ⟨v1, v2⟩ := c10 y (fun j2 w3 w4 => hy j2 (by omega) w4)
        have hne := hy (t0 + i) (Nat.le_refl _) (by omega)
        rw [v1, v2, f1.2.1 47 (by omega), f1.1 48 (by omega) (by omega) (by omega), a48, b47, upd_ne _ _ _ (fun w => hne w.symm), vpL_ne _ _ _ (fun w => hne w.symm)]
        exact ⟨rfl, rfl⟩
    by_cases hlast : t0 + i + 1 < t
    · obtain ⟨A2, B2, G2, k1, k2, k3, k4, k5⟩ := s_kidM (fl := fl) (N := N) (P := P) (o := o) (x := x) (p := p) (n := n) (i := i) (q := q) hs ht hlast e1 (by omega) hqp (by omega) hx k24 (f_X7_buildEnded_L55 N k24 m) s 0 N A1 B1 G (L0 ++ K) (by omega) (by omega) hE1 hM1 (by omega) hgq
      have hkl := kidL_len (P := P) (x := x) (e := e) s 0
      refine fin A2 B2 G2 (K ++ kidL P x e s 0) k3 k4 (by rw [← List.append_assoc]; exact k2) (by rw [List.length_append]; omega) (fun z hz => ?_) (fun _ => ?_) k1
      · rcases List.mem_append.mp hz with hz | hz
        · exact hKl z hz
        · obtain ⟨v, -, b, -, rfl⟩ := kidL_mem s 0 hz
          have hv := hE.2.2.1 v (by omega)
          show p < e.2.2 + P v ∧ e.2.2 + P v ≤ 300
          omega
      · rw [show t0 + (i + 1) = t0 + i + 1 by omega, hnext]
        refine (insA_perm _ _).trans ?_
        refine (hS2.append_right _).trans ?_
        rw [List.append_assoc, List.append_assoc]
    · refine fin A1 B1 G K (FrM2.refl A1 B1 G) rfl hM1 (by omega) hKl (fun w => by omega) ?_
      obtain ⟨N', hN'⟩ : ∃ j, N = j + 1 := ⟨N - 1, by omega⟩
      have := s_kidM0 (fl := fl) (N := N) (P := P) (o := o) (x := x) (p := p) (n := n) (i := i) (q := q) (tt := t0 + i + 1) hs ht (by omega) k24 (f_X7_buildEnded_L55 N k24 m) (B := B1) (by omega) hE1 N'
      rw [← hN'] at this
      exact this
end Em
