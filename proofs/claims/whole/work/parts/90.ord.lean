/-! ORDERED: the same words -/
/-- a word of signs below s -/
def Wv (s : Nat) (w : Nat × Nat) : Prop := w.1 < 4 ^ 24 ∧ w.2 ≤ 24 ∧ rz w.1 w.2 ∧ ∀ k, k < w.2 → dg w.1 k < s
theorem Wv.wd {s : Nat} {w : Nat × Nat} (h : Wv s w) : Wd s (lN w.1) (nI w.2) := ⟨w.1, w.2, rfl, rfl, h.1, h.2.1, h.2.2.1, h.2.2.2⟩
theorem Wv.add {s r n u : Nat} (h : Wv s (r, n)) (hn : n ≤ 23) (hu : u < s) (hs : s ≤ 4) : Wv s (r + u * 4 ^ (23 - n), n + 1) := by
  obtain ⟨h1, -, h3, h4⟩ := h
  obtain ⟨z1, z2⟩ := chd_rz (u := u) h1 h3 hn (by omega)
  refine ⟨z1, by show n + 1 ≤ 24; omega, z2, fun k hk => ?_⟩
  have hk : k < n + 1 := hk
  by_cases e : k = n
  · subst e
    show dg (r + u * 4 ^ (23 - k)) k < s
    rw [dg_add_eq (by omega) h3 (by omega)]
    exact hu
  · show dg (r + u * 4 ^ (23 - n)) k < s
    rw [dg_add_lo (by omega) h3 (by omega) (by omega)]
    exact h4 k (by show k < n; omega)
section Ov
variable {fl : Nat → Bool} {N s t : Nat} {P C : Nat → Nat}
theorem dlA_ok (hs4 : s ≤ 4) {f : Nat → Nat → Nat → Nat → Nat → Nat × Nat} {i j r n : Nat} (hij : i < j) (hn : n + (j - i) ≤ 23) (hr : Wv s (r, n)) (h : ∀ a b r' n' x, i ≤ a → a < b → b ≤ j → b - a < j - i → a ≤ x → x ≤ b → n' + (b - a) ≤ 23 → Wv s (r', n') → Wv s (f a b r' n' x)) : ∀ (k u a x : Nat), u + k = s → i ≤ a → a ≤ j + 1 → a ≤ x → x ≤ j → rD P C s (nd P C s) i j (s - u) a < EV → Wv s (dlA P C s f i j r n k u a x) := by
  intro k
  induction k with
  | zero =>
    intro u a x hu ha haj hax hx hf
    exfalso
    rw [show u = s by omega, Nat.sub_self, rD] at hf
    by_cases q : a = j + 1
    · omega
    · rw [if_neg q] at hf; exact absurd hf (Nat.lt_irrefl _)
  | succ k ih =>
    intro u a x hu ha haj hax hx hf
    obtain ⟨p1, p2, -, -⟩ := sp_ok (show u < s by omega) haj hf
    obtain ⟨r1, r2, -⟩ := sp_rest (show u < s by omega) haj hf
    have hw := hr.add (show n ≤ 23 by omega) (show u < s by omega) hs4
    rw [dlA]
    by_cases hxe : x < sp P C s i j u a
    · rw [if_pos hxe]
      by_cases h1 : sp P C s i j u a - a = 1
      · rw [if_pos h1]; exact hw
      · rw [if_neg h1]
        exact h _ _ _ _ _ ha (by omega) (by omega) (by omega) hax (by omega) (by omega) hw
    · rw [if_neg hxe]
      exact ih (u + 1) _ x (by omega) (by omega) p2 (by omega) hx r1
theorem ndA_ok (hs : 2 ≤ s) (hS : Sml P C s t) : ∀ (f i j r n x : Nat), i < j → j < t → j - i < f → i ≤ x → x ≤ j → n + (j - i) ≤ 23 → Wv s (r, n) → Wv s (ndA P C s f i j r n x) := by
  intro f
  induction f with
  | zero => intro i j r n x _ _ h; omega
  | succ f ih =>
    intro i j r n x hij hj hf hx hx2 hn hr
    rw [ndA]
    refine dlA_ok hS.1 hij hn hr (fun a b r' n' x g1 g2 g3 g4 g5 g6 g7 g8 => ih a b r' n' x g2 (by omega) (by omega) g5 g6 g7 g8) s 0 i x (by omega) (Nat.le_refl _) (by omega) hx hx2 ?_
    rw [Nat.sub_zero, ← nd_eq hij]
    exact nd_EV hs hS hj
/-- the words of an ORDERED code -/
def oV (P C : Nat → Nat) (s t x : Nat) : Nat × Nat := if t = 1 then (chp P (s - 1) 1 0 * 4 ^ 23, 1) else wA P C s (0, t - 1, 0, 0) x
theorem Wv0 (s : Nat) : Wv s (0, 0) := ⟨Nat.pow_pos (by decide), Nat.zero_le _, rz_0 0, fun k hk => absurd hk (Nat.not_lt_zero k)⟩
theorem oV_ok (hs : 2 ≤ s) (hS : Sml P C s t) (ht : 0 < t) {x : Nat} (hx : x < t) : Wv s (oV P C s t x) := by
  have h24 := hS.2.1
  unfold oV
  by_cases h1 : t = 1
  · rw [if_pos h1]
    have h := (Wv0 s).add (u := chp P (s - 1) 1 0) (by omega) (chp_lt (s := s) (s - 1) 1 0 (by omega) (by omega)) hS.1
    rw [Nat.zero_add] at h
    exact h
  · rw [if_neg h1]
    exact ndA_ok hs hS 48 0 (t - 1) 0 0 x (by omega) (by omega) (by omega) (Nat.zero_le _) (by omega) (by omega) (Wv0 s)
theorem s_ordX (f2 : fl 2 = true) (hN : 100 < N) (hs : 2 ≤ s) (hS : Sml P C s t) (ht : 0 < t) (hp : ∀ u, u < s → 1 ≤ P u) (hC1 : ∀ x, x < t → 1 ≤ C x) (A : Nat → Nat → Int32) (B : Nat → Nat → Int64) (G : Nat → Nat → Int32) (hP : ∀ u, u < s → A 1 u = nI (P u)) (hC : ∀ i, i < t → A 2 i = nI (C i)) :
    ∃ A' B' G', f_X4_make N 93 16 2 (nI t) 1 (nI s) (mem A B G fl) = some (mem A' B' G' fl) ∧ (∀ k, k ≠ 18 → k ≠ 97 → A' k = A k) ∧ (∀ k, k ≠ 17 → k ≠ 94 → k ≠ 95 → k ≠ 96 → B' k = B k) ∧ (∀ k, k ≠ 16 → k ≠ 93 → G' k = G k) ∧ G' 16 2 = nI t ∧ (∀ x, x < t → B' 17 x = lN (oV P C s t x).1 ∧ A' 18 x = nI (oV P C s t x).2) := by
  have h24 := hS.2.1
  have h4 := hS.1
  have hcd : cdL fl 16 := ⟨ly16 fl, ly17 fl, ly18 fl, by decide⟩
  have hb := s_begin (A := A) (B := B) (G := G) (N := N) hcd (by omega) (nI t)
  generalize hA1 : upA A (16 + 2) (fun j => if 0 ≤ j ∧ j < 24 then 0 else A (16 + 2) j) = A1 at hb
  generalize hB1 : upA B (16 + 1) (fun j => if 0 ≤ j ∧ j < 24 then 0 else B (16 + 1) j) = B1 at hb
  generalize hG1 : upA G 16 (upd (G 16) 2 (nI t)) = G1 at hb
  have a0 : ∀ k, k ≠ 18 → A1 k = A k := fun k hk => by rw [← hA1, upA_ne _ _ _ hk]
  have b0 : ∀ k, k ≠ 17 → B1 k = B k := fun k hk => by rw [← hB1, upA_ne _ _ _ hk]
  have g0 : ∀ k, k ≠ 16 → G1 k = G k := fun k hk => by rw [← hG1, upA_ne _ _ _ hk]
  have g16 : G1 16 2 = nI t := by rw [← hG1, upA_same, upd_eq]
  obtain ⟨A2, B2, G2, w1, w2, w3, w4, w5, w6⟩ := s_weigh (fl := fl) (N := N) (P := P) (C := C) (fr := 0) (to := t - 1) f2 hN hS (by omega) (Nat.zero_le _) (by omega) A1 B1 G1 (fun u hu => by rw [a0 1 (by omega)]; exact hP u hu) (fun i hi => by rw [a0 2 (by omega)]; exact hC i hi)
  by_cases h1 : t = 1
  · have hch := s_chpX (A := A2) (B := B2) (G := G2) (N := N) f2 h4 w5.1 (fun u hu => ⟨w5.2.1 u hu, hS.2.2.1 u hu⟩) (s - 1) 1 0 N (by omega) (by omega) (by omega)
    have hcl := chp_lt (P := P) (s := s) (s - 1) 1 0 (by omega) (by omega)
    have hgw := s_giveWord (A := A2) (B := B2) (G := G2) (N := N) hcd (show 0 < 24 by omega) (lN (0 + chp P (s - 1) 1 0 * 4 ^ (23 - 0))) (nI 1)
    generalize hA3 : upA A2 (16 + 2) (upd (A2 (16 + 2)) 0 (nI 1)) = A3 at hgw
    generalize hB3 : upA B2 (16 + 1) (vp_updL (B2 (16 + 1)) 0 (lN (0 + chp P (s - 1) 1 0 * 4 ^ (23 - 0)))) = B3 at hgw
    refine ⟨A3, B3, G2, ?_, fun k x y => ?_, fun k x y z w => ?_, fun k x y => by rw [w4 k y, g0 k x], by rw [w4 16 (by omega)]; exact g16, fun x hx => ?_⟩
    · unfold f_X4_make
      rw [ck_16, sb, hb, sb, ck_93 f2, sb, show (1 : Int32) = nI 1 from rfl, pk_sub (by omega)]
      rw [show f_X4_weigh N 93 2 (0 : Int32) (nI (t - 1)) 1 (nI s) (mem A1 B1 G1 fl) = _ from w1, sb, if_pos (by rw [h1]), ck_93 f2, sb]
      unfold f_X4_cheapestSign
      rw [show f_X4_cheapestSign_L4 N N 93 (0 : Int32) (1 : Int32) (mem A2 B2 G2 fl) = _ from hch, b2s]
      rw [show f_X6_rowAndSign N (0 : Int64) (0 : Int32) (nI (chp P (s - 1) 1 0)) (mem A2 B2 G2 fl) = _ from s_rowAndSign (R := 0) (k := 0) (by omega) (rz_0 0) (by omega), b2s, ck_16, sb]
      rw [show f_X0_giveWord N 16 (0 : Int32) (lN (0 + chp P (s - 1) 1 0 * 4 ^ (23 - 0))) (nI 1) (mem A2 B2 G2 fl) = _ from hgw, sb]
    · rw [← hA3, upA_ne _ _ _ x, w2 k y, a0 k x]
    · rw [← hB3, upA_ne _ _ _ x, w3 k y z w, b0 k x]
    · have hx0 : x = 0 := by omega
      subst hx0
      unfold oV
      rw [if_pos h1, ← hA3, ← hB3]
      show upA B2 17 _ 17 0 = _ ∧ upA A2 18 _ 18 0 = _
      rw [upA_same, upA_same, vpL_eq, upd_eq, Nat.zero_add, Nat.sub_zero]
      exact ⟨rfl, rfl⟩
  · obtain ⟨A3, B3, d1, d2, d3, d4, d5⟩ := s_dealX (G := G2) (N := N) f2 hN hs hS hp hC1 48 0 (t - 1) 0 0 A2 B2 (by omega) (by omega) (by omega) (by omega) (Nat.pow_pos (by decide)) (rz_0 0) ⟨w5, fun a b x y => w6 a b (Nat.zero_le _) x (by omega)⟩
    refine ⟨A3, B3, G2, ?_, fun k x y => by rw [d2 k x, w2 k y, a0 k x], fun k x y z w => by rw [d3 k x, w3 k y z w, b0 k x], fun k x y => by rw [w4 k y, g0 k x], by rw [w4 16 (by omega)]; exact g16, fun x hx => ?_⟩
    · unfold f_X4_make
      rw [ck_16, sb, hb, sb, ck_93 f2, sb, show (1 : Int32) = nI 1 from rfl, pk_sub (by omega)]
      rw [show f_X4_weigh N 93 2 (0 : Int32) (nI (t - 1)) 1 (nI s) (mem A1 B1 G1 fl) = _ from w1, sb, if_neg (fun q => h1 ((nI_eq (by omega) (by omega)).mp q)), ck_93 f2, sb]
      rw [show f_X4_dealNode N 48 93 16 (0 : Int32) (nI (t - 1)) (0 : Int64) (0 : Int32) (mem A2 B2 G2 fl) = _ from d1, sb]
    · unfold oV
      rw [if_neg h1]
      exact d4 x (Nat.zero_le _) (by omega)
theorem s_ordM (hN : 100 < N) (hs : 2 ≤ s) (hS : Sml P C s t) (ht : 0 < t) (A : Nat → Nat → Int32) (B : Nat → Nat → Int64) (G : Nat → Nat → Int32) (hC : NdC A G P C s t) :
    ∃ A' B' G', f_X7_buildOrdered N 44 (mem A B G fl) = some (mem A' B' G' fl) ∧ (∀ k, k ≠ 48 → k ≠ 62 → k ≠ 63 → k ≠ 65 → A' k = A k) ∧ (∀ k, k ≠ 47 → k ≠ 60 → k ≠ 61 → k ≠ 64 → B' k = B k) ∧ (∀ k, k ≠ 44 → G' k = G k) ∧ (∀ f, f ≠ 33 → G' 44 f = G 44 f) ∧ (∀ x, x < t → B' 47 x = lN (oV P C s t x).1 ∧ A' 48 x = nI (oV P C s t x).2) := by
  have h24 := hS.2.1
  have h4 := hS.1
  by_cases h1 : t = 1
  · have hch := s_chpM (A := A) (B := B) (G := G) (fl := fl) (N := N) h4 hC.1 (fun u hu => ⟨hC.2.2.1 u hu, hS.2.2.1 u hu⟩) (s - 1) 1 0 N (by omega) (by omega) (by omega)
    have hcl := chp_lt (P := P) (s := s) (s - 1) 1 0 (by omega) (by omega)
    refine ⟨upA A 48 (upd (A 48) 0 (nI 1)), upA B 47 (vp_updL (B 47) 0 (lN (0 + chp P (s - 1) 1 0 * 4 ^ (23 - 0)))), G, ?_, fun k a _ _ _ => upA_ne _ _ _ a, fun k a _ _ _ => upA_ne _ _ _ a, fun _ _ => rfl, fun _ _ => rfl, fun x hx => ?_⟩
    · unfold f_X7_buildOrdered
      rw [gx_44_3, sb, hC.2.1, if_pos (by rw [h1]; rfl)]
      rw [show f_X7_buildOrdered_L12 N N 44 (0 : Int32) (1 : Int32) (mem A B G fl) = _ from hch, f_X7_buildOrdered_K47, gx_44_7, sb]
      rw [show f_X7_with N (0 : Int64) (0 : Int32) (nI (chp P (s - 1) 1 0)) (mem A B G fl) = _ from s_with (R := 0) (k := 0) (by omega) (rz_0 0) (by omega), b2s, show (0 : Int32) = nI 0 from rfl, stJ_n (ly47 fl) (by omega) (by decide), sb, gx_44_8, sb, stI_n (ly48 fl) (by omega) (by decide), sb]
      rfl
    · have hx0 : x = 0 := by omega
      subst hx0
      unfold oV
      rw [if_pos h1, upA_same, upA_same, vpL_eq, upd_eq, Nat.zero_add, Nat.sub_zero]
      exact ⟨rfl, rfl⟩
  · obtain ⟨B1, g1, g2, g3⟩ := s_findNodes (A := A) (G := G) (fl := fl) (N := N) hN hS hC B
    generalize hG1 : upA G 44 (upd (G 44) 33 0) = G1
    have fr0 : FrD A A B1 B1 G G1 := ⟨fun _ _ _ _ _ => rfl, fun _ _ _ _ => rfl, fun k hk => by rw [← hG1, upA_ne _ _ _ hk], fun f hf => by rw [← hG1, upA_same, upd_ne _ _ _ hf]⟩
    have hM0 : StkM A B1 G1 [] := ⟨by rw [← hG1, upA_same, upd_eq]; rfl, fun k q hq => (by cases hq)⟩
    obtain ⟨A2, B2, G2, c1', c2, c3, c4, c5, c6⟩ := s_wait (fl := fl) (N := N) (show ([] : List NdQ).length < 100 by decide) hM0 (0, t - 1, 0, 0)
    have fr1 := fr0.trans c3
    have hE : EnL t [((0 : Nat), t - 1, (0 : Nat), (0 : Nat))] := by
      refine ⟨fun q hq => ?_, List.pairwise_singleton _ _⟩
      rw [List.mem_singleton] at hq
      subst hq
      exact ⟨by show 0 < t - 1; omega, by show t - 1 < t; omega, Nat.pow_pos (by decide), rz_0 0, by show 0 + (t - 1 - 0) ≤ 23; omega⟩
    have hms : ms [((0 : Nat), t - 1, (0 : Nat), (0 : Nat))] = t - 1 := by show t - 1 - 0 + 0 = _; omega
    obtain ⟨A3, B3, G3, d1, d2, d3, d4⟩ := s_L89 (fl := fl) (N := N) hN hs hS 23 N A2 B2 G2 [(0, t - 1, 0, 0)] (by omega) (by omega) (by omega) hE c2 (hC.frD fr1) (fun a b x y => by rw [fr1.2.1 60 (by omega) (by omega) (by omega)]; exact g3 a b x y)
    have fr2 := fr1.trans d2
    refine ⟨A3, B3, G3, ?_, fr2.1, fun k x y z w => by rw [fr2.2.1 k x w z, g2 k y z], fr2.2.2.1, fr2.2.2.2, fun x hx => ?_⟩
    · unfold f_X7_buildOrdered
      rw [gx_44_3, sb, hC.2.1, if_neg (show ¬ nI t = (1 : Int32) from fun q => h1 ((nI_eq (b := 1) (by omega) (by omega)).mp q)), ck_44, sb, g1, sb, px_44_33, sb, hG1, gx_44_3, sb, fr0.2.2.2 3 (by omega), hC.2.1, ck_44, sb, show (1 : Int32) = nI 1 from rfl, pk_sub (by omega)]
      rw [show f_X7_wait N 44 (0 : Int32) (nI (t - 1)) (0 : Int64) (0 : Int32) (mem A B1 G1 fl) = _ from c1', sb, d1]
    · unfold oV
      rw [if_neg h1]
      exact d3 (0, t - 1, 0, 0) (List.mem_singleton.mpr rfl) x ⟨Nat.zero_le _, by show x ≤ t - 1; omega⟩
end Ov
