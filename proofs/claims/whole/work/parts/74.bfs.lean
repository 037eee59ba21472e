/-! the search for a STEP: sets in the order in which they are found -/
abbrev QL : Type := List (Nat × Nat × Nat)
def bV (o : Nat → Nat → Option Nat) (P n : Nat) : Nat → Nat → QL → Option Bool × QL
  | 0, _, Q => (none, Q)
  | d + 1, v, Q => match mkF (Q.getD n (0, 0, 0)).1 (fun k => o k v) P 0 0 with
    | none => bV o P n d (v + 1) Q
    | some X => if X ∈ Q.map Prod.fst then bV o P n d (v + 1) Q else if Q.length = 2000 then (some false, Q) else if X = 1 then (some true, Q ++ [(X, n, v)]) else bV o P n d (v + 1) (Q ++ [(X, n, v)])
def bN (o : Nat → Nat → Option Nat) (P s : Nat) : Nat → Nat → QL → Option Bool × QL
  | 0, _, Q => (none, Q)
  | f + 1, n, Q => if Q.length ≤ n then (none, Q) else match bV o P n s 0 Q with
    | (none, Q') => bN o P s f (n + 1) Q'
    | (some b, Q') => (some b, Q')
def QI (Q : QL) (P : Nat) : Prop := Q.length ≤ 2000 ∧ ∀ j q, Q[j]? = some q → q.1 < 2 ^ P ∧ (0 < j → q.2.1 < j) ∧ q.2.1 < 2000 ∧ q.2.2 < 4
def MM (A : Nat → Nat → Int32) (B : Nat → Nat → Int64) (G : Nat → Nat → Int32) (Q : QL) : Prop := G 44 50 = nI Q.length ∧ ∀ j q, Q[j]? = some q → (∀ p, p < 9 → B 74 (9 * j + p) = lN (wd q.1 p)) ∧ A 75 j = nI q.2.1 ∧ A 76 j = nI q.2.2
theorem p576 {P X : Nat} (hP : P ≤ 553) (h : X < 2 ^ P) : X < 2 ^ (64 * 9) := Nat.lt_of_lt_of_le h (Nat.pow_le_pow_right (by decide) (by omega))
theorem mkF_lt {X P : Nat} {o : Nat → Option Nat} (ho : ∀ k j, o k = some j → j < P) : ∀ (d k Y Z : Nat), Y < 2 ^ P → mkF X o d k Y = some Z → Z < 2 ^ P := by
  intro d
  induction d with
  | zero => intro k Y Z hY h; obtain rfl := Option.some.inj h; exact hY
  | succ d ih =>
    intro k Y Z hY h
    rw [mkF] at h
    by_cases hx : X.testBit k = true
    · rw [if_pos hx] at h
      cases hok : o k with
      | none => rw [hok] at h; cases h
      | some j =>
        rw [hok] at h
        exact ih (k + 1) _ Z (Nat.or_lt_two_pow hY (Nat.pow_lt_pow_right (by decide) (ho k j hok))) h
    · rw [if_neg hx] at h
      exact ih (k + 1) Y Z hY h
theorem QI.add {Q : QL} {P X n v : Nat} (h : QI Q P) (hl : Q.length < 2000) (hX : X < 2 ^ P) (hn : n < Q.length ∨ Q.length = 0 ∧ n = 0) (hv : v < 4) : QI (Q ++ [(X, n, v)]) P := by
  refine ⟨by rw [List.length_append]; show Q.length + 1 ≤ 2000; omega, fun j q hq => ?_⟩
  by_cases e : j < Q.length
  · rw [List.getElem?_append_left e] at hq
    exact h.2 j q hq
  · have hj : j < (Q ++ [(X, n, v)]).length := (List.getElem?_eq_some_iff.mp hq).1
    rw [List.length_append] at hj
    have hj : j < Q.length + 1 := hj
    have e2 : j = Q.length := by omega
    subst e2
    rw [List.getElem?_append_right (Nat.le_refl _), Nat.sub_self] at hq
    obtain rfl := Option.some.inj hq
    exact ⟨hX, fun _ => by show n < Q.length; omega, by show n < 2000; omega, hv⟩
section Rf
variable {A : Nat → Nat → Int32} {B : Nat → Nat → Int64} {G : Nat → Nat → Int32} {fl : Nat → Bool} {N P : Nat}
/-- is one set the image? -/
theorem s_isSet1 (k4 : Nat → Int32 → Int32 → A_M → Option (Int32 × A_M)) {n q X : Nat} (hn : n < 2000) (hq : ∀ p, p < 9 → B 74 (9 * n + p) = lN (wd q p)) (hI : Im (B 77) X) (hq1 : q < 2 ^ (64 * 9)) (hX1 : X < 2 ^ (64 * 9)) : ∀ (d k m : Nat), k + d = 9 → d + 1 < m → (∀ p, p < k → wd q p = wd X p) → f_X7_isSet_L20 N k4 m 44 1 (nI n) (nI k) (mem A B G fl) = k4 44 (bz (q = X)) (nI (n + 1)) (mem A B G fl) := by
  intro d
  induction d with
  | zero =>
    intro k m h hm hk
    obtain ⟨m, rfl⟩ : ∃ j, m = j + 1 := ⟨m - 1, by omega⟩
    have hk9 : k = 9 := by omega
    subst hk9
    rw [f_X7_isSet_L20, if_pos (show (9 : Int32) ≤ nI 9 by decide), f_X7_isSet_K63, nI_1]
    have : q = X := wd_ext hq1 hX1 hk
    unfold bz
    rw [if_pos this]
  | succ d ih =>
    intro k m h hm hk
    obtain ⟨m, rfl⟩ : ∃ j, m = j + 1 := ⟨m - 1, by omega⟩
    rw [f_X7_isSet_L20, if_neg (show ¬ (9 : Int32) ≤ nI k from nI_ge (b := 9) (by omega) (by omega)), if_neg (show ¬ (1 : Int32) = 0 by decide), gx_44_47, sb, show (9 : Int32) = nI 9 from rfl, pk_mul, nI_add, ldJ_n (ly74 fl) (by omega) (by decide), sb, gx_44_51, sb, ldJ_n (ly77 fl) (by omega) (by decide), sb, hq k (by omega), hI k (by omega)]
    by_cases e : wd q k = wd X k
    · rw [if_pos ((lgE _ _).mpr (by rw [e])), f_X7_isSet_K56, nI_1, ih (k + 1) m (by omega) (by omega) (fun p hp => by
        by_cases e2 : p = k
        · subst e2; exact e
        · exact hk p (by omega))]
    · have hne : q ≠ X := fun g => e (by rw [g])
      rw [if_neg (fun g => e (lN_64 (wd_lt _ _) (wd_lt _ _) ((lgE _ _).mp g))), f_X7_isSet_K56]
      obtain ⟨m, rfl⟩ : ∃ j, m = j + 1 := ⟨m - 1, by omega⟩
      rw [f_X7_isSet_L20]
      unfold bz
      rw [if_neg hne]
      split
      · rw [f_X7_isSet_K63, nI_1]
      · rw [if_pos rfl, f_X7_isSet_K63, nI_1]
theorem s_isSet (hP : P ≤ 553) (hN : 100 < N) {Q : QL} (hQ : QI Q P) (hM : MM A B G Q) {X : Nat} (hI : Im (B 77) X) (hX : X < 2 ^ P) : ∀ (T : QL) (n m : Nat), Q.drop n = T → n + T.length = Q.length → T.length + 1 < m → f_X7_isSet_L4 N m 44 0 (nI n) (mem A B G fl) = some (bz (X ∈ T.map Prod.fst), mem A B G fl) := by
  have hl := hQ.1
  intro T
  induction T with
  | nil =>
    intro n m hT hn hm
    have : ([] : QL).length = 0 := rfl
    obtain ⟨m, rfl⟩ : ∃ j, m = j + 1 := ⟨m - 1, by omega⟩
    rw [f_X7_isSet_L4, gx_44_50, sb, hM.1, if_pos (nI_le (by omega) (by omega))]
    rfl
  | cons q T ih =>
    intro n m hT hn hm
    have hc : (q :: T).length = T.length + 1 := rfl
    obtain ⟨m, rfl⟩ : ∃ j, m = j + 1 := ⟨m - 1, by omega⟩
    have hnl : n < Q.length := by omega
    rw [List.drop_eq_getElem_cons hnl] at hT
    obtain ⟨hq, hT⟩ := List.cons.inj hT
    have hq2 : Q[n]? = some q := by rw [List.getElem?_eq_getElem hnl, hq]
    obtain ⟨m1, -, -⟩ := hM.2 n q hq2
    rw [f_X7_isSet_L4, gx_44_50, sb, hM.1, if_neg (nI_ge (by omega) (by omega)), if_pos rfl, show (0 : Int32) = nI 0 from rfl, s_isSet1 (f_X7_isSet_L4 N m) (by omega) m1 hI (p576 hP (hQ.2 n q hq2).1) (p576 hP hX) 9 0 N (by omega) (by omega) (fun p hp => absurd hp (by omega))]
    by_cases e : q.1 = X
    · obtain ⟨m, rfl⟩ : ∃ j, m = j + 1 := ⟨m - 1, by omega⟩
      have h1 : X ∈ (q :: T).map Prod.fst := by rw [← e]; exact List.mem_map.mpr ⟨q, List.mem_cons_self, rfl⟩
      unfold bz
      rw [if_pos e, if_pos h1, f_X7_isSet_L4, gx_44_50, sb]
      split
      · rfl
      · rw [if_neg (by decide)]; rfl
    · have h0 : bz (q.1 = X) = 0 := bz0 e
      rw [h0, ih (n + 1) m hT (by omega) (by omega)]
      have : X ∈ (q :: T).map Prod.fst ↔ X ∈ T.map Prod.fst := by
        rw [List.map_cons, List.mem_cons]
        exact ⟨fun g => g.elim (fun g => absurd g.symm e) id, Or.inr⟩
      unfold bz
      by_cases g : X ∈ T.map Prod.fst
      · rw [if_pos g, if_pos (this.mpr g)]
      · rw [if_neg g, if_neg (fun q => g (this.mp q))]
theorem wd_1 (p : Nat) : wd 1 p = if p = 0 then 1 else 0 := by
  unfold wd
  split
  · rename_i h; subst h; rfl
  · rename_i h
    rw [Nat.div_eq_of_lt (Nat.one_lt_two_pow (by omega))]
/-- is a set HOME alone? -/
theorem s_isHome1 {n q : Nat} (hn : n < 2000) (hq : ∀ p, p < 9 → B 74 (9 * n + p) = lN (wd q p)) (hq1 : q < 2 ^ (64 * 9)) : ∀ (d k m : Nat) (b : Bool), k + d = 9 → 1 ≤ k → d < m → (b = true ↔ ∀ p, p < k → wd q p = wd 1 p) → f_X7_isHome_L22 N m 44 (nI n) (bz (b = true)) (nI k) (mem A B G fl) = some (bz (q = 1), mem A B G fl) := by
  intro d
  induction d with
  | zero =>
    intro k m b h h1 hm hb
    obtain ⟨m, rfl⟩ : ∃ j, m = j + 1 := ⟨m - 1, by omega⟩
    have hk9 : k = 9 := by omega
    subst hk9
    rw [f_X7_isHome_L22, if_pos (show (9 : Int32) ≤ nI 9 by decide)]
    have hq2 : q = 1 ↔ b = true := ⟨fun g => hb.mpr (fun p _ => by rw [g]), fun g => wd_ext hq1 (Nat.one_lt_two_pow (by decide)) (hb.mp g)⟩
    cases b with
    | true => rw [show bz (q = 1) = 1 from if_pos (hq2.mpr rfl)]; rfl
    | false =>
      have h2 : ¬ q = 1 := fun g => by have := hq2.mp g; cases this
      rw [show bz (q = 1) = 0 from bz0 h2]
      rfl
  | succ d ih =>
    intro k m b h h1 hm hb
    obtain ⟨m, rfl⟩ : ∃ j, m = j + 1 := ⟨m - 1, by omega⟩
    have w1 : wd 1 k = 0 := by rw [wd_1, if_neg (by omega)]
    rw [f_X7_isHome_L22, if_neg (show ¬ (9 : Int32) ≤ nI k from nI_ge (b := 9) (by omega) (by omega))]
    have hstep : ∀ c : Bool, (c = true ↔ (b = true ∧ wd q k = wd 1 k)) → (c = true ↔ ∀ p, p < k + 1 → wd q p = wd 1 p) := by
      intro c hc
      rw [hc, hb]
      constructor
      · rintro ⟨g1, g2⟩ p hp
        by_cases e : p = k
        · subst e; exact g2
        · exact g1 p (by omega)
      · intro g
        exact ⟨fun p hp => g p (by omega), g k (by omega)⟩
    cases b with
    | false =>
      rw [if_pos (by decide), f_X7_isHome_K52, f_X7_isHome_K53, nI_1]
      exact ih (k + 1) m false (by omega) (by omega) (by omega) (hstep false (by simp))
    | true =>
      rw [if_neg (by decide), gx_44_47, sb, show (9 : Int32) = nI 9 from rfl, pk_mul, nI_add, ldJ_n (ly74 fl) (by omega) (by decide), sb, hq k (by omega)]
      by_cases e : wd q k = 0
      · rw [if_pos (show lg_cmp (lN (wd q k)) 0 = 0 from (lgE _ _).mpr (by rw [e]; rfl)), f_X7_isHome_K53, nI_1]
        exact ih (k + 1) m true (by omega) (by omega) (by omega) (hstep true (by rw [w1]; simp [e]))
      · rw [if_neg (show ¬ lg_cmp (lN (wd q k)) 0 = 0 from fun g => e (lN_64 (wd_lt _ _) (show 0 < 2 ^ 64 by decide) ((lgE _ _).mp g))), f_X7_isHome_K52, f_X7_isHome_K53, nI_1]
        exact ih (k + 1) m false (by omega) (by omega) (by omega) (hstep false (by rw [w1]; simp [e]))
theorem s_isHome (hN : 100 < N) {n q : Nat} (hn : n < 2000) (hq : ∀ p, p < 9 → B 74 (9 * n + p) = lN (wd q p)) (hq1 : q < 2 ^ (64 * 9)) : f_X7_isHome N 44 (nI n) (mem A B G fl) = some (bz (q = 1), mem A B G fl) := by
  unfold f_X7_isHome
  have h0 := hq 0 (by omega)
  rw [Nat.add_zero] at h0
  rw [gx_44_47, sb, show (9 : Int32) = nI 9 from rfl, pk_mul, ldJ_n (ly74 fl) (by omega) (by decide), sb, h0]
  have w1 : wd 1 0 = 1 := by decide
  by_cases e : wd q 0 = 1
  · rw [if_pos (show lg_cmp (lN (wd q 0)) 1 = 0 from (lgE _ _).mpr (by rw [e]; rfl)), f_X7_isHome_K19]
    exact s_isHome1 hn hq hq1 8 1 N true (by omega) (by omega) (by omega) ⟨fun _ p hp => by
      have : p = 0 := by omega
      subst this
      rw [e, w1], fun _ => rfl⟩
  · rw [if_neg (show ¬ lg_cmp (lN (wd q 0)) 1 = 0 from fun g => e (lN_64 (wd_lt _ _) (show 1 < 2 ^ 64 by decide) ((lgE _ _).mp g))), f_X7_isHome_K19]
    exact s_isHome1 hn hq hq1 8 1 N false (by omega) (by omega) (by omega) ⟨fun g => (by cases g), fun g => absurd (by rw [g 0 (by omega), w1]) e⟩
/-- a set goes in -/
theorem s_addSet1 {m0 X : Nat} (h0 : m0 < 2000) (hG : G 44 50 = nI m0) (x y : Int32) : ∀ (d k m : Nat) (B : Nat → Nat → Int64), k + d = 9 → d < m → Im (B 77) X →
    ∃ B', f_X7_addSet_L2 N m 44 x y (nI k) (mem A B G fl) = f_X7_addSet_K34 N 44 x y (mem A B' G fl) ∧ (∀ i, i ≠ 74 → B' i = B i) ∧ (∀ p, k ≤ p → p < 9 → B' 74 (9 * m0 + p) = lN (wd X p)) ∧ (∀ j, (∀ p, k ≤ p → p < 9 → j ≠ 9 * m0 + p) → B' 74 j = B 74 j) := by
  intro d
  induction d with
  | zero =>
    intro k m B h hm hI
    obtain ⟨m, rfl⟩ : ∃ j, m = j + 1 := ⟨m - 1, by omega⟩
    exact ⟨B, by rw [f_X7_addSet_L2, if_pos (show (9 : Int32) ≤ nI k from nI_le (a := 9) (by omega) (by omega))], fun _ _ => rfl, fun p h1 h2 => absurd h1 (by omega), fun _ _ => rfl⟩
  | succ d ih =>
    intro k m B h hm hI
    obtain ⟨m, rfl⟩ : ∃ j, m = j + 1 := ⟨m - 1, by omega⟩
    obtain ⟨B', e1, e2, e3, e4⟩ := ih (k + 1) m (upA B 74 (vp_updL (B 74) (9 * m0 + k) (lN (wd X k)))) (by omega) (by omega) (by rw [upA_ne _ _ _ (by omega)]; exact hI)
    refine ⟨B', ?_, fun i hi => by rw [e2 i hi, upA_ne _ _ _ hi], fun p h1 h2 => ?_, fun j hj => ?_⟩
    · rw [f_X7_addSet_L2, if_neg (show ¬ (9 : Int32) ≤ nI k from nI_ge (b := 9) (by omega) (by omega)), gx_44_47, sb, gx_44_50, sb, hG, gx_44_51, sb, ldJ_n (ly77 fl) (by omega) (by decide), sb, hI k (by omega), show (9 : Int32) = nI 9 from rfl, pk_mul, nI_add, stJ_n (ly74 fl) (by omega) (by decide), sb, nI_1, e1]
    · by_cases e : p = k
      · subst e; rw [e4 _ (fun q h1 h2 => by omega), upA_same, vpL_eq]
      · exact e3 p (by omega) h2
    · rw [e4 j (fun p h1 h2 => hj p (by omega) h2), upA_same, vpL_ne _ _ _ (hj k (Nat.le_refl _) (by omega))]
theorem s_addSet (hN : 100 < N) {Q : QL} (hl : Q.length < 2000) (hM : MM A B G Q) {X n v : Nat} (hI : Im (B 77) X) :
    ∃ A' B' G', f_X7_addSet N 44 (nI n) (nI v) (mem A B G fl) = some (mem A' B' G' fl) ∧ MM A' B' G' (Q ++ [(X, n, v)]) ∧ (∀ i, i ≠ 75 → i ≠ 76 → A' i = A i) ∧ (∀ i, i ≠ 74 → B' i = B i) ∧ (∀ i, i ≠ 44 → G' i = G i) ∧ (∀ i, i ≠ 50 → G' 44 i = G 44 i) := by
  obtain ⟨B', e1, e2, e3, e4⟩ := s_addSet1 (A := A) (G := G) (fl := fl) (N := N) (X := X) hl hM.1 (nI n) (nI v) 9 0 N B (by omega) (by omega) hI
  have hl1 : (Q ++ [(X, n, v)]).length = Q.length + 1 := List.length_append
  refine ⟨upA (upA A 75 (upd (A 75) Q.length (nI n))) 76 (upd (A 76) Q.length (nI v)), B', upA G 44 (upd (G 44) 50 (nI (Q.length + 1))), ?_, ⟨?_, fun j q hq => ?_⟩, fun i h1 h2 => by rw [upA_ne _ _ _ h2, upA_ne _ _ _ h1], e2, fun i hi => upA_ne _ _ _ hi, fun i hi => by rw [upA_same, upd_ne _ _ _ hi]⟩
  · unfold f_X7_addSet
    rw [show (0 : Int32) = nI 0 from rfl, e1]
    unfold f_X7_addSet_K34
    rw [gx_44_48, sb, gx_44_50, sb, hM.1, stI_n (ly75 fl) (by omega) (by decide), sb, gx_44_49, sb, gx_44_50, sb, hM.1, stI_n (ly76 fl) (by omega) (by decide), sb, gx_44_50, sb, hM.1, nI_1, px_44_50, sb, upA_ne _ _ _ (show 76 ≠ 75 by omega)]
  · rw [upA_same, upd_eq, hl1]
  · rw [upA_ne _ _ _ (show 75 ≠ 76 by omega), upA_same, upA_same]
    by_cases e : j < Q.length
    · rw [List.getElem?_append_left e] at hq
      obtain ⟨q1, q2, q3⟩ := hM.2 j q hq
      refine ⟨fun p hp => ?_, by rw [upd_ne _ _ _ (by omega)]; exact q2, by rw [upd_ne _ _ _ (by omega)]; exact q3⟩
      rw [e4 _ (fun p2 _ h2 => by omega)]
      exact q1 p hp
    · have hj : j < (Q ++ [(X, n, v)]).length := (List.getElem?_eq_some_iff.mp hq).1
      have e2 : j = Q.length := by omega
      subst e2
      rw [List.getElem?_append_right (Nat.le_refl _), Nat.sub_self] at hq
      obtain rfl := Option.some.inj hq
      exact ⟨fun p hp => e3 p (Nat.zero_le _) hp, upd_eq _ _ _, upd_eq _ _ _⟩
end Rf
