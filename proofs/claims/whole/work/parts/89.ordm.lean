/-! ORDERED on both sides -/
section Om
variable {fl : Nat → Bool} {N s t : Nat} {P C : Nat → Nat}
def inQ (q : NdQ) (x : Nat) : Prop := q.1 ≤ x ∧ x ≤ q.2.1
def EnL (t : Nat) (L : List NdQ) : Prop := (∀ q, q ∈ L → q.1 < q.2.1 ∧ q.2.1 < t ∧ q.2.2.1 < 4 ^ 24 ∧ rz q.2.2.1 q.2.2.2 ∧ q.2.2.2 + (q.2.1 - q.1) ≤ 23) ∧ L.Pairwise (fun p q => ∀ x, ¬ (inQ p x ∧ inQ q x))
theorem ms_len {t : Nat} : ∀ (L : List NdQ), (∀ q, q ∈ L → q.1 < q.2.1) → L.length ≤ ms L := by
  intro L
  induction L with
  | nil => intro _; exact Nat.zero_le _
  | cons q L ih =>
    intro h
    have h1 := h q List.mem_cons_self
    have h2 := ih (fun p hp => h p (List.mem_cons_of_mem _ hp))
    show L.length + 1 ≤ q.2.1 - q.1 + ms L
    omega
theorem s_L89 (hN : 100 < N) (hs : 2 ≤ s) (hS : Sml P C s t) : ∀ (μ m : Nat) (A : Nat → Nat → Int32) (B : Nat → Nat → Int64) (G : Nat → Nat → Int32) (L : List NdQ), ms L ≤ μ → μ < m → ms L ≤ 23 → EnL t L → StkM A B G L → NdC A G P C s t → (∀ a b, a < b → b < t → B 60 (24 * a + b) = lN (nd P C s a b)) →
    ∃ A' B' G', f_X7_buildOrdered_L89 N m 44 (mem A B G fl) = some (mem A' B' G' fl) ∧ FrD A A' B B' G G' ∧ (∀ q, q ∈ L → ∀ x, inQ q x → B' 47 x = lN (wA P C s q x).1 ∧ A' 48 x = nI (wA P C s q x).2) ∧ (∀ x, (∀ q, q ∈ L → ¬ inQ q x) → B' 47 x = B 47 x ∧ A' 48 x = A 48 x) := by
  have h24 := hS.2.1
  have h4 := hS.1
  intro μ
  induction μ with
  | zero =>
    intro m A B G L h1 hm h23 hE hM hC h60
    obtain ⟨m, rfl⟩ : ∃ j, m = j + 1 := ⟨m - 1, by omega⟩
    have hl := ms_len (t := t) L (fun q hq => (hE.1 q hq).1)
    have hnil : L = [] := List.length_eq_zero_iff.mp (by omega)
    subst hnil
    refine ⟨A, B, G, ?_, FrD.refl A B G, fun q hq => (by cases hq), fun x _ => ⟨rfl, rfl⟩⟩
    rw [f_X7_buildOrdered_L89, gx_44_33, sb, hM.1, if_pos (by decide)]
  | succ μ ih =>
    intro m A B G L h1 hm h23 hE hM hC h60
    obtain ⟨m, rfl⟩ : ∃ j, m = j + 1 := ⟨m - 1, by omega⟩
    have hl := ms_len (t := t) L (fun q hq => (hE.1 q hq).1)
    rcases List.eq_nil_or_concat L with hnil | ⟨K, q, hK⟩
    · subst hnil
      refine ⟨A, B, G, ?_, FrD.refl A B G, fun q hq => (by cases hq), fun x _ => ⟨rfl, rfl⟩⟩
      rw [f_X7_buildOrdered_L89, gx_44_33, sb, hM.1, if_pos (by decide)]
    · rw [List.concat_eq_append] at hK
      subst hK
      have hl1 : (K ++ [q]).length = K.length + 1 := List.length_append
      obtain ⟨i, j, r, n⟩ := q
      obtain ⟨e1, e2, e3, e4, e5⟩ := hE.1 (i, j, r, n) (List.mem_append_right _ (List.mem_singleton.mpr rfl))
      have hij : i < j := e1
      have hj : j < t := e2
      have hr : r < 4 ^ 24 := e3
      have hz : rz r n := e4
      have hn : n + (j - i) ≤ 23 := e5
      obtain ⟨t1, t2, t3, t4⟩ := hM.2 K.length (i, j, r, n) (by rw [List.getElem?_append_right (Nat.le_refl _), Nat.sub_self]; rfl)
      have hms : ms (K ++ [(i, j, r, n)]) = ms K + (j - i) := by rw [ms_app]; show ms K + (j - i + 0) = _; omega
      unfold EnL at hE
      rw [List.pairwise_append] at hE
      obtain ⟨hE1, hEK, -, hEX⟩ := hE
      -- pop
      generalize hG1 : upA G 44 (upd (G 44) 33 (nI K.length)) = G1
      have g33 : G1 44 33 = nI K.length := by rw [← hG1, upA_same, upd_eq]
      have fr0 : FrD A A B B G G1 := ⟨fun _ _ _ _ _ => rfl, fun _ _ _ _ => rfl, fun k hk => by rw [← hG1, upA_ne _ _ _ hk], fun f hf => by rw [← hG1, upA_same, upd_ne _ _ _ hf]⟩
      have hM1 : StkM A B G1 K := ⟨g33, fun k p hp => hM.2 k p (by rw [List.getElem?_append_left (List.getElem?_eq_some_iff.mp hp).1]; exact hp)⟩
      obtain ⟨B1, d1, d2, d3⟩ := s_findDeals (A := A) (G := G1) (fl := fl) (N := N) hN hS (hC.frD fr0) hij hj B (fun a b g1 g2 g3 g4 => h60 a b g2 (by omega))
      have fr1 : FrD A A B B1 G G1 := fr0.trans ⟨fun _ _ _ _ _ => rfl, fun k _ _ h => d2 k h, fun _ _ => rfl, fun _ _ => rfl⟩
      have hfin : rD P C s (nd P C s) i j (s - 0) i < EV := by rw [Nat.sub_zero, ← nd_eq hij]; exact nd_EV hs hS hj
      have hlK : K.length ≤ 23 := by omega
      obtain ⟨A2, B2, G2, c1', c2, c3, c4⟩ := s_dl12 (fl := fl) (N := N) hN hS hij hj hr hz hn s 0 i N A B1 G1 K (by omega) (Nat.le_refl _) (by omega) (by omega) hfin ⟨hC.frD fr0, d3, fun a b g1 g2 g3 g4 => by rw [d2 60 (by omega)]; exact h60 a b g2 (by omega)⟩ ⟨hM1.1, fun k p hp => by rw [d2 64 (by omega)]; exact hM1.2 k p hp⟩ (by omega)
      obtain ⟨k1, k2, k3, k4, k5⟩ := chl_ok (P := P) (C := C) (s := s) hij hr hz hn h4 (wA P C s) s 0 i (by omega) (Nat.le_refl _) (by omega) hfin
      rw [if_pos rfl, if_neg (show ¬ i = j + 1 by omega)] at k2
      have fr2 := fr1.trans c3
      generalize hch : chl P C s i j r n s 0 i = ch at c2 k1 k2 k3 k4 k5
      have hE' : EnL t (K ++ ch) := by
        refine ⟨fun p hp => ?_, ?_⟩
        · rcases List.mem_append.mp hp with h | h
          · exact hE1 p (List.mem_append_left _ h)
          · obtain ⟨y1, y2, y3, y4, y5, y6, y7⟩ := k1 p h
            exact ⟨y2, by omega, y5, y6, by rw [y7]; omega⟩
        · rw [List.pairwise_append]
          refine ⟨hEK, k3.imp (fun {p q} h x hx => by obtain ⟨⟨_, x2⟩, ⟨x3, _⟩⟩ := hx; omega), fun p hp q hq x hx => ?_⟩
          obtain ⟨y1, y2, y3, -⟩ := k1 q hq
          obtain ⟨x1, x2, x3⟩ := hx
          exact hEX p hp (i, j, r, n) (List.mem_singleton.mpr rfl) x ⟨x1, by show i ≤ x; omega, by show x ≤ j; omega⟩
      have hms2 : ms (K ++ ch) = ms K + ms ch := ms_app _ _
      obtain ⟨A3, B3, G3, f1, f2, f3, f4⟩ := ih m A2 B2 G2 (K ++ ch) (by omega) (by omega) (by omega) hE' c2 (hC.frD fr2) (fun a b g1 g2 => by rw [fr2.2.1 60 (by omega) (by omega) (by omega)]; exact h60 a b g1 g2)
      refine ⟨A3, B3, G3, ?_, fr2.trans f2, fun q hq x hx => ?_, fun x hx => ?_⟩
      · rw [f_X7_buildOrdered_L89, gx_44_33, sb, hM.1, hl1, if_neg (nI_nle (by omega) (by omega)), sb, show (1 : Int32) = nI 1 from rfl, pk_sub (by omega), show K.length + 1 - 1 = K.length by omega, px_44_33, sb, hG1, gx_44_29, sb, gx_44_33, sb, g33, ldI_n (ly62 fl) (by omega) (by decide), sb, t1, gx_44_30, sb, sb, ldI_n (ly63 fl) (by omega) (by decide), sb, t2, gx_44_31, sb, sb, ldJ_n (ly64 fl) (by omega) (by decide), sb, t3, gx_44_32, sb, sb, ldI_n (ly65 fl) (by omega) (by decide), sb, t4, ck_44, sb]
        unfold f_X7_deal
        rw [ck_44, sb, d1, sb, show (0 : Int32) = nI 0 from rfl, c1', sb, f1]
      · rcases List.mem_append.mp hq with h | h
        · exact f3 q (List.mem_append_left _ h) x hx
        · rw [List.mem_singleton] at h
          subst h
          obtain ⟨x1, x2⟩ := hx
          have x1 : i ≤ x := x1
          have x2 : x ≤ j := x2
          have hw := wA_eq (r := r) (n := n) hs hS hij hj x1 x2
          obtain ⟨y1, y2⟩ := k4 x x1 x2
          by_cases hc : ∃ c, c ∈ ch ∧ inQ c x
          · obtain ⟨c, hc1, hc2⟩ := hc
            obtain ⟨z1, z2⟩ := y1 c hc1 hc2.1 hc2.2
            rw [hw, z1]
            exact f3 c (List.mem_append_right _ hc1) x hc2
          · have z1 := y2 (fun c hc1 hc2 => hc ⟨c, hc1, hc2⟩)
            obtain ⟨v1, v2⟩ := f4 x (fun p hp hpx => by
              rcases List.mem_append.mp hp with hp | hp
              · exact hEX p hp (i, j, r, n) (List.mem_singleton.mpr rfl) x ⟨hpx, x1, x2⟩
              · exact hc ⟨p, hp, hpx⟩)
            obtain ⟨v3, v4⟩ := c4 x
            rw [v1, v2, v3, v4, z1, hw]
            exact ⟨rfl, rfl⟩
      · have hout : x < i ∨ j < x := by
          have := hx (i, j, r, n) (List.mem_append_right _ (List.mem_singleton.mpr rfl))
          have h5 : ¬ (i ≤ x ∧ x ≤ j) := this
          omega
        obtain ⟨v1, v2⟩ := f4 x (fun p hp hpx => by
          rcases List.mem_append.mp hp with hp | hp
          · exact hx p (List.mem_append_left _ hp) hpx
          · obtain ⟨y1, y2, y3, -⟩ := k1 p hp
            obtain ⟨x3, x4⟩ := hpx
            omega)
        obtain ⟨v3, v4⟩ := c4 x
        rw [v1, v2, v3, v4, k5 x hout, d2 47 (by omega)]
        exact ⟨rfl, rfl⟩
/-- the cheapest sign -/
def chp (P : Nat → Nat) : Nat → Nat → Nat → Nat
  | 0, _, b => b
  | k + 1, u, b => chp P k (u + 1) (if P u < P b then u else b)
theorem chp_lt {s : Nat} : ∀ (k u b : Nat), u + k = s → b < s → chp P k u b < s := by
  intro k
  induction k with
  | zero => intro u b _ h; exact h
  | succ k ih =>
    intro u b hu hb
    rw [chp]
    by_cases h : P u < P b
    · rw [if_pos h]; exact ih (u + 1) u (by omega) (by omega)
    · rw [if_neg h]; exact ih (u + 1) b (by omega) hb
theorem s_chpX {A : Nat → Nat → Int32} {B : Nat → Nat → Int64} {G : Nat → Nat → Int32} (f2 : fl 2 = true) (hs4 : s ≤ 4) (hG : G 93 4 = nI s) (hA : ∀ u, u < s → A 97 u = nI (P u) ∧ P u ≤ 9) : ∀ (k u b m : Nat), u + k = s → b < s → k < m → f_X4_cheapestSign_L4 N m 93 (nI b) (nI u) (mem A B G fl) = some (nI (chp P k u b), mem A B G fl) := by
  intro k
  induction k with
  | zero =>
    intro u b m hu hb hm
    obtain ⟨m, rfl⟩ : ∃ j, m = j + 1 := ⟨m - 1, by omega⟩
    rw [f_X4_cheapestSign_L4, gx_93_4 f2, sb, hG, if_pos (nI_le (by omega) (by omega))]
    rfl
  | succ k ih =>
    intro u b m hu hb hm
    obtain ⟨m, rfl⟩ : ∃ j, m = j + 1 := ⟨m - 1, by omega⟩
    obtain ⟨a1, a2⟩ := hA u (by omega)
    obtain ⟨b1, b2⟩ := hA b hb
    rw [f_X4_cheapestSign_L4, gx_93_4 f2, sb, hG, if_neg (nI_ge (by omega) (by omega)), gx_93_3 f2, sb, ldI_n (ly97 f2) (by omega) (by decide), sb, sb, ldI_n (ly97 f2) (by omega) (by decide), sb, a1, b1, chp]
    by_cases h : P u < P b
    · rw [if_neg (nI_ge h (by omega)), f_X4_cheapestSign_K29, nI_1, ih (u + 1) u m (by omega) (by omega) (by omega), if_pos h]
    · rw [if_pos (nI_le (by omega) (by omega)), f_X4_cheapestSign_K29, nI_1, ih (u + 1) b m (by omega) hb (by omega), if_neg h]
theorem s_chpM {A : Nat → Nat → Int32} {B : Nat → Nat → Int64} {G : Nat → Nat → Int32} (hs4 : s ≤ 4) (hG : G 44 1 = nI s) (hA : ∀ u, u < s → A 45 u = nI (P u) ∧ P u ≤ 9) : ∀ (k u b m : Nat), u + k = s → b < s → k < m → f_X7_buildOrdered_L12 N m 44 (nI b) (nI u) (mem A B G fl) = f_X7_buildOrdered_K47 N 44 (nI (chp P k u b)) (mem A B G fl) := by
  intro k
  induction k with
  | zero =>
    intro u b m hu hb hm
    obtain ⟨m, rfl⟩ : ∃ j, m = j + 1 := ⟨m - 1, by omega⟩
    rw [f_X7_buildOrdered_L12, gx_44_1, sb, hG, if_pos (nI_le (by omega) (by omega))]
    rfl
  | succ k ih =>
    intro u b m hu hb hm
    obtain ⟨m, rfl⟩ : ∃ j, m = j + 1 := ⟨m - 1, by omega⟩
    obtain ⟨a1, a2⟩ := hA u (by omega)
    obtain ⟨b1, b2⟩ := hA b hb
    rw [f_X7_buildOrdered_L12, gx_44_1, sb, hG, if_neg (nI_ge (by omega) (by omega)), gx_44_0, sb, ldI_n (ly45 fl) (by omega) (by decide), sb, sb, ldI_n (ly45 fl) (by omega) (by decide), sb, a1, b1, chp]
    by_cases h : P u < P b
    · rw [if_neg (nI_ge h (by omega)), f_X7_buildOrdered_K40, nI_1, ih (u + 1) u m (by omega) (by omega) (by omega), if_pos h]
    · rw [if_pos (nI_le (by omega) (by omega)), f_X7_buildOrdered_K40, nI_1, ih (u + 1) b m (by omega) hb (by omega), if_neg h]
end Om
