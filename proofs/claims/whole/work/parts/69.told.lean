/-! told -/
/-- up to which length a word's beginnings are those of words ahead of it, and one more -/
def shF (R : Nat → Nat) (i : Nat) : Nat → Nat → Nat → Nat
  | 0, _, f => f
  | d + 1, j, f => shF R i d (j + 1) (max f (al (R i ^^^ R j) + 1))
theorem shF_lt {R : Nat → Nat} {i k : Nat} : ∀ (d j f : Nat), k < shF R i d j f ↔ k < f ∨ ∃ u, j ≤ u ∧ u < j + d ∧ k ≤ al (R i ^^^ R u) := by
  intro d
  induction d with
  | zero => intro j f; exact ⟨Or.inl, fun e => e.elim id (fun ⟨u, h1, h2, _⟩ => by omega)⟩
  | succ d ih =>
    intro j f
    show k < shF R i d (j + 1) (max f (al (R i ^^^ R j) + 1)) ↔ _
    rw [ih]
    constructor
    · rintro (h | ⟨u, h1, h2, h3⟩)
      · by_cases e : k < f
        · exact Or.inl e
        · exact Or.inr ⟨j, Nat.le_refl _, by omega, by omega⟩
      · exact Or.inr ⟨u, by omega, by omega, h3⟩
    · rintro (h | ⟨u, h1, h2, h3⟩)
      · exact Or.inl (by omega)
      · by_cases e : u = j
        · subst e; exact Or.inl (by omega)
        · exact Or.inr ⟨u, by omega, by omega, h3⟩
theorem vw_cnt {R f : Nat} : ∀ (d k : Nat) (L : List (Nat × Nat)), (∀ j, k ≤ j → j < k + d → ((ct R j, j) ∈ L ↔ j < f)) → (vw R d k L).length = L.length + (k + d - max k (min f (k + d))) := by
  intro d
  induction d with
  | zero => intro k L _; show L.length = _; omega
  | succ d ih =>
    intro k L h
    have h0 := h k (Nat.le_refl _) (by omega)
    show (vw R d (k + 1) (vis L (ct R k, k))).length = _
    by_cases hk : k < f
    · have : vis L (ct R k, k) = L := if_pos (h0.mpr hk)
      rw [this, ih (k + 1) L (fun j h1 h2 => h j (by omega) (by omega))]
      omega
    · have hm : (ct R k, k) ∉ L := fun e => hk (h0.mp e)
      have : vis L (ct R k, k) = L ++ [(ct R k, k)] := if_neg hm
      rw [this, ih (k + 1) _ (fun j h1 h2 => by
        rw [List.mem_append, List.mem_singleton]
        constructor
        · rintro (e | e)
          · exact (h j (by omega) (by omega)).mp e
          · have := (Prod.mk.inj e).2
            omega
        · intro e
          exact Or.inl ((h j (by omega) (by omega)).mpr e)), List.length_append]
      show L.length + 1 + _ = _
      omega
/-- the class's count of the places -/
def plN (R n : Nat → Nat) : Nat → Nat → Nat → Nat
  | 0, _, c => c
  | d + 1, i, c => plN R n d (i + 1) (c + (n i - shF R i i 0 0))
theorem pf_ne {R n : Nat → Nat} {t i j : Nat} (h : PF R n t) (hi : i < t) (hj : j < t) (hne : i ≠ j) : al (R i ^^^ R j) < n i ∧ al (R i ^^^ R j) < n j := by
  by_cases e : i < j
  · have := h.2 i j e hj; omega
  · have := h.2 j i (by omega) hi
    rw [Nat.xor_comm] at this
    omega
theorem plN_eq {R n : Nat → Nat} {t : Nat} (hP : PF R n t) (hR : ∀ i, i < t → R i < 4 ^ 24 ∧ n i ≤ 24) : ∀ (d i : Nat) (L : List (Nat × Nat)), i + d = t → (∀ y, y ∈ L ↔ ∃ j k, j < i ∧ k < n j ∧ y = (ct (R j) k, k)) → (vp R n d i L).length = plN R n d i L.length := by
  intro d
  induction d with
  | zero => intro i L _ _; rfl
  | succ d ih =>
    intro i L h hL
    have hsh : shF R i i 0 0 ≤ n i := by
      refine Nat.le_of_not_lt fun hlt => ?_
      rcases (shF_lt i 0 0).mp hlt with h1 | ⟨u, h1, h2, h3⟩
      · omega
      · have := pf_ne hP (show i < t by omega) (show u < t by omega) (by omega)
        omega
    have hc := vw_cnt (R := R i) (f := shF R i i 0 0) (n i) 0 L (fun j _ hj => by
      rw [hL]
      constructor
      · rintro ⟨u, k, h1, h2, h3⟩
        obtain ⟨h4, h5⟩ := Prod.mk.inj h3
        subst h5
        refine (shF_lt i 0 0).mpr (Or.inr ⟨u, Nat.zero_le _, by omega, ?_⟩)
        rw [al_iff (hR i (by omega)).1 (hR u (by omega)).1 (by have := (hR i (by omega)).2; omega), ← ct_eq_iff]
        exact h4
      · intro hj2
        rcases (shF_lt i 0 0).mp hj2 with h1 | ⟨u, h1, h2, h3⟩
        · omega
        · have h4 := pf_ne hP (show i < t by omega) (show u < t by omega) (by omega)
          refine ⟨u, j, by omega, by omega, ?_⟩
          rw [al_iff (hR i (by omega)).1 (hR u (by omega)).1 (by have := (hR i (by omega)).2; omega), ← ct_eq_iff] at h3
          rw [h3])
    show (vp R n d (i + 1) (vw (R i) (n i) 0 L)).length = plN R n d (i + 1) (L.length + (n i - shF R i i 0 0))
    rw [ih (i + 1) _ (by omega) (fun y => by
      rw [vw_mem, hL]
      constructor
      · rintro (⟨j, k, h1, h2, h3⟩ | ⟨k, h1, h2, h3⟩)
        · exact ⟨j, k, by omega, h2, h3⟩
        · exact ⟨i, k, by omega, by omega, h3⟩
      · rintro ⟨j, k, h1, h2, h3⟩
        by_cases e : j = i
        · subst e; exact Or.inr ⟨k, Nat.zero_le _, by omega, h3⟩
        · exact Or.inl ⟨j, k, by omega, h2, h3⟩), hc]
    congr 1
    omega
theorem mx_sh {f a : Nat} (hf : f < 1000) (ha : a < 1000) : mxI (nI f - 1) (nI a) = nI (max f (a + 1)) - 1 := by
  by_cases h : f = 0
  · subst h
    rw [show (nI 0 - 1 : Int32) = -1 by decide, show max 0 (a + 1) = a + 1 by omega, show (1 : Int32) = nI 1 from rfl, pk_sub (by omega), show a + 1 - 1 = a by omega]
    unfold mxI
    rw [if_pos (by rw [Int32.lt_iff_toInt_lt, nI_toInt (by omega), show (-nI 1).toInt = -1 by decide]; omega)]
  · rw [show (1 : Int32) = nI 1 from rfl, pk_sub (by omega), mxI_n (by omega) (by omega), pk_sub (by omega)]
    congr 1
    omega
section Tl
variable {A : Nat → Nat → Int32} {B : Nat → Nat → Int64} {G : Nat → Nat → Int32} {fl : Nat → Bool} {N s t : Nat} {R n : Nat → Nat}
theorem s_plX1 (ht : t ≤ 24) (hW : Ws s t (B 14) (A 15) R n) (k4 : Nat → Int32 → Int32 → A_M → Option (Int32 × A_M)) {i : Nat} (hi : i < t) (x : Int32) : ∀ (d j m f : Nat), j + d = i → d < m → f ≤ 25 → f_X0_places_L17 N k4 m 13 x (nI i) (nI f - 1) (nI j) (mem A B G fl) = k4 13 (x + ((nI (n i) - (1 : Int32)) - (nI (shF R i d j f) - 1))) (nI (i + 1)) (mem A B G fl) := by
  obtain ⟨w1, w2, w3, w4, -, -⟩ := hW i hi
  intro d
  induction d with
  | zero =>
    intro j m f h hm hf
    obtain ⟨m, rfl⟩ : ∃ j, m = j + 1 := ⟨m - 1, by omega⟩
    rw [f_X0_places_L17, if_pos (nI_le (by omega) (by omega)), f_X0_places_K50, gx_13_1, sb, ldI_n (ly15 fl) (by omega) (by decide), sb, w2, nI_1]
    rfl
  | succ d ih =>
    intro j m f h hm hf
    obtain ⟨m, rfl⟩ : ∃ j, m = j + 1 := ⟨m - 1, by omega⟩
    obtain ⟨u1, -, u3, -, -, -⟩ := hW j (by omega)
    have := al_24 (R i ^^^ R j)
    rw [f_X0_places_L17, if_neg (nI_ge (by omega) (by omega)), gx_13_0, sb, ldJ_n (ly14 fl) (by omega) (by decide), sb, w1, sb, ldJ_n (ly14 fl) (by omega) (by decide), sb, u1, s_alike w3 u3, b2s, mx_sh (by omega) (by omega), nI_1, ih (j + 1) m _ (by omega) (by omega) (by omega)]
    rfl
theorem nI_sh {c a f : Nat} (h : f ≤ a) : nI c + ((nI a - (1 : Int32)) - (nI f - 1)) = nI (c + (a - f)) := by
  have : (nI a - (1 : Int32)) - (nI f - 1) = nI (a - f) := by
    by_cases hf : f = 0
    · subst hf
      rw [show (nI 0 - 1 : Int32) = -1 by decide, Int32.sub_neg]
      by_cases ha : a = 0
      · subst ha; decide
      · rw [show (1 : Int32) = nI 1 from rfl, pk_sub (by omega), nI_add]
        congr 1
        omega
    · rw [show (1 : Int32) = nI 1 from rfl, pk_sub (by omega), pk_sub (by omega), pk_sub (by omega)]
      congr 1
      omega
  rw [this, nI_add]
theorem s_plX (ht : t ≤ 24) (hN : 100 < N) (hP : PF R n t) (hW : Ws s t (B 14) (A 15) R n) (hT : G 13 2 = nI t) : ∀ (d i m c : Nat), i + d = t → d < m → f_X0_places_L4 N m 13 (nI c) (nI i) (mem A B G fl) = some (nI (plN R n d i c), mem A B G fl) := by
  intro d
  induction d with
  | zero =>
    intro i m c h hm
    obtain ⟨m, rfl⟩ : ∃ j, m = j + 1 := ⟨m - 1, by omega⟩
    rw [f_X0_places_L4, gx_13_2, sb, hT, if_pos (nI_le (by omega) (by omega))]
    rfl
  | succ d ih =>
    intro i m c h hm
    obtain ⟨m, rfl⟩ : ∃ j, m = j + 1 := ⟨m - 1, by omega⟩
    have hsh : shF R i i 0 0 ≤ n i := by
      refine Nat.le_of_not_lt fun hlt => ?_
      rcases (shF_lt i 0 0).mp hlt with h1 | ⟨u, h1, h2, h3⟩
      · omega
      · have := pf_ne hP (show i < t by omega) (show u < t by omega) (by omega)
        omega
    rw [f_X0_places_L4, gx_13_2, sb, hT, if_neg (nI_ge (by omega) (by omega)), show (-1 : Int32) = nI 0 - 1 by decide, show (0 : Int32) = nI 0 from rfl, s_plX1 ht hW _ (by omega) (nI c) i 0 N 0 (by omega) (by omega) (by omega), nI_sh hsh, ih (i + 1) m _ (by omega) (by omega)]
    rfl
/-- kept codes -/
def kpN (c : Nat → Nat) : Nat → Nat → Nat → Nat
  | 0, _, x => x
  | d + 1, p, x => kpN c d (p + 1) (if 0 < c p then x + 1 else x)
theorem s_kpX {c : Nat → Nat} (hc : ∀ p, p < 8 → G (20 + 3 * p) 2 = nI (c p) ∧ c p ≤ 24) : ∀ (d p m x : Nat), p + d = 8 → d < m → f_X6_keptCodes_L4 N m 0 (nI x) (nI p) (mem A B G fl) = some (nI (kpN c d p x), mem A B G fl) := by
  intro d
  induction d with
  | zero =>
    intro p m x h hm
    obtain ⟨m, rfl⟩ : ∃ j, m = j + 1 := ⟨m - 1, by omega⟩
    rw [f_X6_keptCodes_L4, if_pos (show (8 : Int32) ≤ nI p from nI_le (a := 8) (by omega) (by omega))]
    rfl
  | succ d ih =>
    intro p m x h hm
    obtain ⟨m, rfl⟩ : ∃ j, m = j + 1 := ⟨m - 1, by omega⟩
    obtain ⟨c1, c2⟩ := hc p (by omega)
    rw [f_X6_keptCodes_L4, if_neg (show ¬ (8 : Int32) ≤ nI p from nI_ge (b := 8) (by omega) (by omega)), gx_0_9, sb, ldA8 (by omega), sb, cd_num (cdP fl (by omega)), sb, c1]
    show _ = some (nI (kpN c d (p + 1) (if 0 < c p then x + 1 else x)), _)
    by_cases e : 0 < c p
    · rw [if_neg (nI_nle e (by omega)), f_X6_keptCodes_K25, nI_1, nI_1, ih (p + 1) m _ (by omega) (by omega), if_pos e]
    · rw [if_pos (show nI (c p) ≤ 0 from nI_le (b := 0) (by omega) (by omega)), f_X6_keptCodes_K25, nI_1, ih (p + 1) m _ (by omega) (by omega), if_neg e]
theorem s_kpM {c : Nat → Nat} (hc : ∀ p, p < 8 → A 81 p = nI (c p) ∧ c p ≤ 24) : ∀ (d p m x : Nat), p + d = 8 → d < m → f_X7_told_L106 N m 44 (nI x) (nI p) (mem A B G fl) = some (nI (kpN c d p x), mem A B G fl) := by
  intro d
  induction d with
  | zero =>
    intro p m x h hm
    obtain ⟨m, rfl⟩ : ∃ j, m = j + 1 := ⟨m - 1, by omega⟩
    rw [f_X7_told_L106, if_pos (show (8 : Int32) ≤ nI p from nI_le (a := 8) (by omega) (by omega))]
    rfl
  | succ d ih =>
    intro p m x h hm
    obtain ⟨m, rfl⟩ : ∃ j, m = j + 1 := ⟨m - 1, by omega⟩
    obtain ⟨c1, c2⟩ := hc p (by omega)
    rw [f_X7_told_L106, if_neg (show ¬ (8 : Int32) ≤ nI p from nI_ge (b := 8) (by omega) (by omega)), gx_44_56, sb, ldI_n (ly81 fl) (by omega) (by decide), sb, c1]
    show _ = some (nI (kpN c d (p + 1) (if 0 < c p then x + 1 else x)), _)
    by_cases e : 0 < c p
    · rw [if_neg (nI_nle e (by omega)), f_X7_told_K127, nI_1, nI_1, ih (p + 1) m _ (by omega) (by omega), if_pos e]
    · rw [if_pos (show nI (c p) ≤ 0 from nI_le (b := 0) (by omega) (by omega)), f_X7_told_K127, show (nI x + 0 : Int32) = nI x from nI_add x 0, nI_1, ih (p + 1) m _ (by omega) (by omega), if_neg e]
end Tl
theorem lo_told : LO_told Inv := fun a => LawI.mk (fx := f_X6_told NN 0 a) (fm := f_X7_told NN 44 a) (fun h => ok_X6_told NN h) (fun h => ok_X7_told NN h) (by
  intro z A B G fl hz hR
  obtain ⟨s, t, h1, hc, h3, h4, h5, h6, h7, h8⟩ := id hR
  obtain ⟨n1, n2, n3, n4, n5, n6, n7, n8⟩ := id h1
  unfold f_X6_told f_X7_told
  by_cases a0 : a = 0
  · refine ⟨nI s, A, B, G, A, B, G, ?_, ?_, hR.next⟩
    · rw [if_pos a0, gx_0_10, sb, n1]
    · rw [if_pos a0, gx_44_1, sb, n2]
  simp only [if_neg a0]
  by_cases a1 : a = 1
  · refine ⟨nI t, A, B, G, A, B, G, ?_, ?_, hR.next⟩
    · rw [if_pos a1, gx_0_11, sb, n4]
    · rw [if_pos a1, gx_44_3, sb, n5]
  simp only [if_neg a1]
  by_cases a2 : a = 2
  · obtain ⟨l, l1, l2, -, -⟩ := id h3
    refine ⟨nI l, A, B, G, A, B, G, ?_, ?_, hR.next⟩
    · rw [if_pos a2, gx_0_5, sb, gx_6_2, sb, l1]
    · rw [if_pos a2, gx_44_44, sb, l2]
  simp only [if_neg a2]
  by_cases a3 : a = 3
  · simp only [if_pos a3]
    rcases id hc with ⟨c1, c2⟩ | ⟨c1, c2, c3, c4, c5, -⟩
    · refine ⟨0, A, B, G, A, B, G, ?_, ?_, hR.next⟩
      · rw [ck_0, sb, s_hasCode0 c1, b2s, if_pos rfl]
      · rw [gx_44_4, sb, c2, if_pos rfl]
    · refine ⟨1, A, B, G, A, B, G, ?_, ?_, hR.next⟩
      · rw [ck_0, sb, s_hasCode1 c1 c3 n6, b2s, if_neg (show ¬ (1 : Int32) = 0 by decide)]
      · rw [gx_44_4, sb, c2, if_neg (show ¬ (1 : Int32) = 0 by decide)]
  simp only [if_neg a3]
  by_cases a4 : a = 4
  · simp only [if_pos a4]
    rcases id hc with ⟨c1, c2⟩ | ⟨c1, c2, c3, c4, c5, -⟩
    · refine ⟨0, A, B, G, A, B, G, ?_, ?_, hR.next⟩
      · rw [ck_0, sb, s_hasCode0 c1, b2s, if_pos rfl]
      · rw [gx_44_4, sb, c2, if_pos rfl]
    · obtain ⟨R, n, w1, w2⟩ := ws_both c5
      by_cases hf : fo (badB R n 0 0 t) t 0 = none
      · have hP := pf_of hf
        obtain ⟨A', B', G', e1, e2, e3, e4, e5, e6⟩ := s_findPlaces (fl := fl) (N := NN) (by decide) n6 n3 hP.1 n2 n5 w2
        have hpl := plN_eq hP (fun i hi => ⟨(w1 i hi).2.2.1, (w1 i hi).2.2.2.1⟩) t 0 [] (by omega) (fun y => ⟨fun h => (by cases h), fun ⟨j, k, h, _⟩ => by omega⟩)
        refine ⟨nI (PLS R n t).length, A, B, G, A', B', G', ?_, ?_, hR.frP e2⟩
        · rw [ck_0, sb, s_hasCode1 c1 c3 n6, b2s, if_neg (show ¬ (1 : Int32) = 0 by decide), gx_0_7, sb, ck_13, sb, s_isFreeX n6 w1 c1 (by show _ < 300000; omega), b2s, if_neg (bz1 hf), gx_0_7, sb, ck_13, sb]
          unfold f_X0_places
          rw [show (0 : Int32) = nI 0 from rfl, s_plX n6 (by decide) hP w1 c1 t 0 NN 0 (by omega) (by show _ < 300000; omega), b2s]
          show _ = some (nI (vp R n t 0 []).length, _)
          rw [hpl]
          rfl
        · rw [gx_44_4, sb, c2, if_neg (show ¬ (1 : Int32) = 0 by decide), ck_44, sb, s_isFreeM n6 w2 n5 (by show _ < 300000; omega), b2s, if_neg (bz1 hf), ck_44, sb, e1, sb, gx_44_40, sb, e3.1]
      · refine ⟨0, A, B, G, A, B, G, ?_, ?_, hR.next⟩
        · rw [ck_0, sb, s_hasCode1 c1 c3 n6, b2s, if_neg (show ¬ (1 : Int32) = 0 by decide), gx_0_7, sb, ck_13, sb, s_isFreeX n6 w1 c1 (by show _ < 300000; omega), b2s, if_pos (bz0 hf)]
        · rw [gx_44_4, sb, c2, if_neg (show ¬ (1 : Int32) = 0 by decide), ck_44, sb, s_isFreeM n6 w2 n5 (by show _ < 300000; omega), b2s, if_pos (bz0 hf)]
  simp only [if_neg a4]
  by_cases a5 : a = 5
  · simp only [if_pos a5]
    rcases id h7 with ⟨f0, p1, p2⟩ | ⟨f1, p1, p2⟩
    · refine ⟨0, A, B, G, A, B, G, ?_, ?_, hR.next⟩
      · rw [gn_0_17, sb, if_neg (by rw [f0]; decide)]
      · rw [gx_44_50, sb, p2]
    · refine ⟨G 44 50, A, B, G, A, B, G, ?_, ?_, hR.next⟩
      · rw [gn_0_17, sb, if_pos f1]
        dsimp only
        rw [gx_0_17 f1, sb, ck_98 f1, sb]
        unfold f_X5_setsHad
        rw [gx_98_8 f1, sb, b2s, p1]
      · rw [gx_44_50, sb]
  simp only [if_neg a5]
  by_cases a6 : a = 6
  · simp only [if_pos a6]
    have hc : ∃ c : Nat → Nat, ∀ p, p < 8 → G (20 + 3 * p) 2 = nI (c p) ∧ A 81 p = nI (c p) ∧ c p ≤ 24 := by
      have : ∀ p, ∃ c : Nat, p < 8 → G (20 + 3 * p) 2 = nI c ∧ A 81 p = nI c ∧ c ≤ 24 := by
        intro p
        by_cases hp : p < 8
        · obtain ⟨m, m1, m2, m3, -⟩ := h6 p hp
          exact ⟨m, fun _ => ⟨m2, m3, by omega⟩⟩
        · exact ⟨0, fun h => absurd h hp⟩
      exact ⟨fun p => Classical.choose (this p), fun p hp => Classical.choose_spec (this p) hp⟩
    obtain ⟨c, hc⟩ := hc
    refine ⟨nI (kpN c 8 0 0), A, B, G, A, B, G, ?_, ?_, hR.next⟩
    · rw [ck_0, sb]
      unfold f_X6_keptCodes
      rw [show (0 : Int32) = nI 0 from rfl, s_kpX (fun p hp => ⟨(hc p hp).1, (hc p hp).2.2⟩) 8 0 NN 0 (by omega) (by show _ < 300000; omega), b2s]
    · rw [show (0 : Int32) = nI 0 from rfl, s_kpM (fun p hp => ⟨(hc p hp).2.1, (hc p hp).2.2⟩) 8 0 NN 0 (by omega) (by show _ < 300000; omega)]
  · refine ⟨-2, A, B, G, A, B, G, ?_, ?_, hR.next⟩
    · rw [if_neg a6]
    · rw [if_neg a6])
