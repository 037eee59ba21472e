/-! cost, write -/
/-- the words of t things, as numbers -/
def Ws (s t : Nat) (b : Nat → Int64) (a : Nat → Int32) (R n : Nat → Nat) : Prop := ∀ i, i < t → b i = lN (R i) ∧ a i = nI (n i) ∧ R i < 4 ^ 24 ∧ n i ≤ 24 ∧ rz (R i) (n i) ∧ ∀ k, k < n i → dg (R i) k < s
theorem ws_of {s t : Nat} {b : Nat → Int64} {a : Nat → Int32} (h : ∀ i, i < t → Wd s (b i) (a i)) : ∃ R n, Ws s t b a R n := by
  refine ⟨fun i => (b i).toBitVec.toNat, fun i => (a i).toNatClampNeg, fun i hi => ?_⟩
  obtain ⟨R, n, e1, e2, h1, h2, h3, h4⟩ := h i hi
  have q1 : (b i).toBitVec.toNat = R := by rw [e1, wb_tn (by have := r48 h1; omega)]
  have q2 : (a i).toNatClampNeg = n := by rw [e2, nI_clamp (by omega)]
  show b i = lN ((b i).toBitVec.toNat) ∧ a i = nI ((a i).toNatClampNeg) ∧ (b i).toBitVec.toNat < 4 ^ 24 ∧ (a i).toNatClampNeg ≤ 24 ∧ rz ((b i).toBitVec.toNat) ((a i).toNatClampNeg) ∧ ∀ k, k < (a i).toNatClampNeg → dg ((b i).toBitVec.toNat) k < s
  rw [q1, q2]
  exact ⟨e1, e2, h1, h2, h3, h4⟩
theorem nat_of {n : Nat} {a : Nat → Int32} {Q : Nat → Prop} (h : ∀ i, i < n → ∃ q, q < 2 ^ 31 ∧ Q q ∧ a i = nI q) : ∃ f : Nat → Nat, ∀ i, i < n → a i = nI (f i) ∧ Q (f i) ∧ f i < 2 ^ 31 := by
  refine ⟨fun i => (a i).toNatClampNeg, fun i hi => ?_⟩
  obtain ⟨q, h1, h2, e⟩ := h i hi
  show a i = nI ((a i).toNatClampNeg) ∧ Q ((a i).toNatClampNeg) ∧ (a i).toNatClampNeg < 2 ^ 31
  rw [e, nI_clamp h1]
  exact ⟨rfl, h2, h1⟩
/-- what d signs from place k on cost -/
def wsum (P : Nat → Nat) (R : Nat) : Nat → Nat → Nat
  | 0, _ => 0
  | d + 1, k => P (dg R k) + wsum P R d (k + 1)
theorem wsum_le {P : Nat → Nat} {R c s : Nat} (hP : ∀ j, j < s → P j ≤ c) : ∀ d k, (∀ j, k ≤ j → j < k + d → dg R j < s) → wsum P R d k ≤ d * c := by
  intro d
  induction d with
  | zero => intro k _; exact Nat.zero_le _
  | succ d ih =>
    intro k h
    have h1 := ih (k + 1) (fun j a b => h j (by omega) (by omega))
    have h2 := hP _ (h k (by omega) (by omega))
    show P (dg R k) + wsum P R d (k + 1) ≤ _
    rw [Nat.add_mul]
    omega
def csum (P C : Nat → Nat) (R n : Nat → Nat) : Nat → Nat → Nat
  | 0, _ => 0
  | d + 1, i => C i * wsum P (R i) (n i) 0 + csum P C R n d (i + 1)
section Co
variable {A : Nat → Nat → Int32} {B : Nat → Nat → Int64} {G : Nat → Nat → Int32} {fl : Nat → Bool} {N s t : Nat} {P C R n : Nat → Nat}
theorem s_costX1 (hs : s ≤ 4) (ht : t ≤ 24) (hP : ∀ j, j < s → A 1 j = nI (P j)) (hP9 : ∀ j, j < s → P j ≤ 9) (hC : ∀ i, i < t → A 2 i = nI (C i)) (hC6 : ∀ i, i < t → C i < 2 ^ 31) (hW : Ws s t (B 14) (A 15) R n) {i : Nat} (hi : i < t) (k4 : Nat → Int64 → Int32 → A_M → Option (Int64 × A_M)) (x : Nat) : ∀ (d k m w : Nat), k + d = n i → d < m → f_X6_costAtHand_L21 N k4 m 0 (lN x) (nI i) (lN w) (nI k) (mem A B G fl) = k4 0 (lN (x + C i * (w + wsum P (R i) d k))) (nI (i + 1)) (mem A B G fl) := by
  obtain ⟨w1, w2, w3, w4, w5, w6⟩ := hW i hi
  have w3' := r48 w3
  intro d
  induction d with
  | zero =>
    intro k m w h1 hm
    obtain ⟨m, rfl⟩ : ∃ j, m = j + 1 := ⟨m - 1, by omega⟩
    rw [f_X6_costAtHand_L21, gx_0_7, sb, gx_13_1, sb, ldI_n (ly15 fl) (by omega) (by decide), sb, w2, if_pos (nI_le (by omega) (by omega))]
    unfold f_X6_costAtHand_K66
    rw [gx_0_1, sb, ldI_n (ly2 fl) (by omega) (by decide), sb, hC i hi, nI_l (hC6 i hi), lN_mul, lN_add, nI_1]
    rfl
  | succ d ih =>
    intro k m w h1 hm
    obtain ⟨m, rfl⟩ : ∃ j, m = j + 1 := ⟨m - 1, by omega⟩
    have hd := w6 k (by omega)
    rw [f_X6_costAtHand_L21, gx_0_7, sb, gx_13_1, sb, ldI_n (ly15 fl) (by omega) (by decide), sb, w2, if_neg (nI_ge (by omega) (by omega)), gx_0_0, sb, sb, gx_13_0, sb, ldJ_n (ly14 fl) (by omega) (by decide), sb, w1, s_signOfRow (by omega) (by omega), b2s, ldI_n (ly1 fl) (by omega) (by decide), sb, hP _ hd, nI_l (by have := hP9 _ hd; omega), lN_add, nI_1, ih (k + 1) m _ (by omega) (by omega)]
    show k4 0 (lN (x + C i * (w + P (dg (R i) k) + wsum P (R i) d (k + 1)))) _ _ = k4 0 (lN (x + C i * (w + (P (dg (R i) k) + wsum P (R i) d (k + 1))))) _ _
    rw [Nat.add_assoc w]
theorem s_costX (hs : s ≤ 4) (ht : t ≤ 24) (hP : ∀ j, j < s → A 1 j = nI (P j)) (hP9 : ∀ j, j < s → P j ≤ 9) (hC : ∀ i, i < t → A 2 i = nI (C i)) (hC6 : ∀ i, i < t → C i < 2 ^ 31) (hW : Ws s t (B 14) (A 15) R n) (hN : 24 < N) (hG : G 13 2 = nI t) : ∀ (d i m x : Nat), i + d = t → d < m → f_X6_costAtHand_L4 N m 0 (lN x) (nI i) (mem A B G fl) = some (lN (x + csum P C R n d i), mem A B G fl) := by
  intro d
  induction d with
  | zero =>
    intro i m x h1 hm
    obtain ⟨m, rfl⟩ : ∃ j, m = j + 1 := ⟨m - 1, by omega⟩
    rw [f_X6_costAtHand_L4, gx_0_7, sb, gx_13_2, sb, hG, if_pos (nI_le (by omega) (by omega))]
    rfl
  | succ d ih =>
    intro i m x h1 hm
    obtain ⟨m, rfl⟩ : ∃ j, m = j + 1 := ⟨m - 1, by omega⟩
    have w4 := (hW i (by omega)).2.2.2.1
    rw [f_X6_costAtHand_L4, gx_0_7, sb, gx_13_2, sb, hG, if_neg (nI_ge (by omega) (by omega)), show (0 : Int64) = lN 0 from rfl, show (0 : Int32) = nI 0 from rfl, s_costX1 hs ht hP hP9 hC hC6 hW (by omega) _ x (n i) 0 N 0 (by omega) (by omega), ih (i + 1) m _ (by omega) (by omega), Nat.zero_add, Nat.add_assoc]
    rfl
theorem s_priceM (hs : s ≤ 4) (ht : t ≤ 24) (hP : ∀ j, j < s → A 45 j = nI (P j)) (hW : Ws s t (B 47) (A 48) R n) {i : Nat} (hi : i < t) : ∀ (d k m w : Nat), k + d = n i → d < m → f_X7_priceOf_L4 N m 44 (nI i) (nI w) (nI k) (mem A B G fl) = some (nI (w + wsum P (R i) d k), mem A B G fl) := by
  obtain ⟨w1, w2, w3, w4, w5, w6⟩ := hW i hi
  have w3' := r48 w3
  intro d
  induction d with
  | zero =>
    intro k m w h1 hm
    obtain ⟨m, rfl⟩ : ∃ j, m = j + 1 := ⟨m - 1, by omega⟩
    rw [f_X7_priceOf_L4, gx_44_8, sb, ldI_n (ly48 fl) (by omega) (by decide), sb, w2, if_pos (nI_le (by omega) (by omega))]
    rfl
  | succ d ih =>
    intro k m w h1 hm
    obtain ⟨m, rfl⟩ : ∃ j, m = j + 1 := ⟨m - 1, by omega⟩
    have hd := w6 k (by omega)
    rw [f_X7_priceOf_L4, gx_44_8, sb, ldI_n (ly48 fl) (by omega) (by decide), sb, w2, if_neg (nI_ge (by omega) (by omega)), gx_44_0, sb, gx_44_7, sb, ldJ_n (ly47 fl) (by omega) (by decide), sb, w1, s_signAt (by omega) (by omega), b2s, ldI_n (ly45 fl) (by omega) (by decide), sb, hP _ hd, nI_add, nI_1, ih (k + 1) m _ (by omega) (by omega), Nat.add_assoc]
    rfl
theorem s_costM (hs : s ≤ 4) (ht : t ≤ 24) (hP : ∀ j, j < s → A 45 j = nI (P j)) (hP9 : ∀ j, j < s → P j ≤ 9) (hC : ∀ i, i < t → A 46 i = nI (C i)) (hC6 : ∀ i, i < t → C i < 2 ^ 31) (hW : Ws s t (B 47) (A 48) R n) (hN : 24 < N) (hG : G 44 3 = nI t) : ∀ (d i m x : Nat), i + d = t → d < m → f_X7_costNow_L4 N m 44 (lN x) (nI i) (mem A B G fl) = some (lN (x + csum P C R n d i), mem A B G fl) := by
  intro d
  induction d with
  | zero =>
    intro i m x h1 hm
    obtain ⟨m, rfl⟩ : ∃ j, m = j + 1 := ⟨m - 1, by omega⟩
    rw [f_X7_costNow_L4, gx_44_3, sb, hG, if_pos (nI_le (by omega) (by omega))]
    rfl
  | succ d ih =>
    intro i m x h1 hm
    obtain ⟨m, rfl⟩ : ∃ j, m = j + 1 := ⟨m - 1, by omega⟩
    have w := hW i (by omega)
    have wl := wsum_le (R := R i) hP9 (n i) 0 (fun j _ hj => w.2.2.2.2.2 j (by omega))
    have e := s_priceM (N := N) (G := G) (fl := fl) hs ht hP hW (show i < t by omega) (n i) 0 N 0 (by omega) (by omega)
    rw [f_X7_costNow_L4, gx_44_3, sb, hG, if_neg (nI_ge (by omega) (by omega)), gx_44_2, sb, ldI_n (ly46 fl) (by omega) (by decide), sb, ck_44, sb]
    unfold f_X7_priceOf
    rw [show (0 : Int32) = nI 0 from rfl, e, b2s, hC i (by omega), nI_l (hC6 i (by omega)), nI_l (by omega), lN_mul, lN_add, nI_1, ih (i + 1) m _ (by omega) (by omega), Nat.zero_add, Nat.add_assoc]
    rfl
end Co
/-- prices and counts as numbers -/
theorem Num.nums {A : Nat → Nat → Int32} {G : Nat → Nat → Int32} {s t : Nat} (h : Num A G s t) : ∃ P C : Nat → Nat, (∀ j, j < s → A 1 j = nI (P j) ∧ A 45 j = nI (P j) ∧ 1 ≤ P j ∧ P j ≤ 9) ∧ (∀ i, i < t → A 2 i = nI (C i) ∧ A 46 i = nI (C i) ∧ 1 ≤ C i ∧ C i ≤ 1000000) := by
  obtain ⟨-, -, -, -, -, -, n7, n8⟩ := h
  obtain ⟨P, hP⟩ := nat_of (n := s) (a := A 1) (Q := fun q => 1 ≤ q ∧ q ≤ 9) (fun i hi => by
    obtain ⟨-, p, h1, h2, e⟩ := n7 i hi
    exact ⟨p, by omega, ⟨h1, h2⟩, e⟩)
  obtain ⟨C, hC⟩ := nat_of (n := t) (a := A 2) (Q := fun q => 1 ≤ q ∧ q ≤ 1000000) (fun i hi => by
    obtain ⟨-, p, h1, h2, e⟩ := n8 i hi
    exact ⟨p, by omega, ⟨h1, h2⟩, e⟩)
  exact ⟨P, C, fun j hj => ⟨(hP j hj).1, by rw [(n7 j hj).1]; exact (hP j hj).1, (hP j hj).2.1⟩, fun i hi => ⟨(hC i hi).1, by rw [(n8 i hi).1]; exact (hC i hi).1, (hC i hi).2.1⟩⟩
/-- the same words on both sides -/
theorem ws_both {A : Nat → Nat → Int32} {B : Nat → Nat → Int64} {s t : Nat} (h : ∀ i, i < t → B 47 i = B 14 i ∧ A 48 i = A 15 i ∧ Wd s (B 14 i) (A 15 i)) : ∃ R n, Ws s t (B 14) (A 15) R n ∧ Ws s t (B 47) (A 48) R n := by
  obtain ⟨R, n, hw⟩ := ws_of (fun i hi => (h i hi).2.2)
  refine ⟨R, n, hw, fun i hi => ?_⟩
  rw [(h i hi).1, (h i hi).2.1]
  exact hw i hi
theorem lo_cost : LO_cost Inv := LawJ.mk (fx := f_X6_cost NN 0) (fm := f_X7_cost NN 44) (fun h => ok_X6_cost NN h) (fun h => ok_X7_cost NN h) (by
  intro z A B G fl hz hR
  obtain ⟨s, t, h1, hc, h3, h4, h5, h6, h7, h8⟩ := id hR
  obtain ⟨n1, n2, n3, n4, n5, n6, n7, n8⟩ := id h1
  unfold f_X6_cost f_X7_cost
  rcases hc with ⟨c1, c2⟩ | ⟨c1, c2, c3, c4, c5, -⟩
  · refine ⟨-3, A, B, G, A, B, G, ?_, ?_, hR.next⟩
    · rw [ck_0, sb, s_hasCode0 c1, b2s, if_pos rfl]
    · rw [gx_44_4, sb, c2, if_pos rfl]
  · obtain ⟨P, C, hP, hC⟩ := h1.nums
    obtain ⟨R, n, w1, w2⟩ := ws_both c5
    refine ⟨lN (0 + csum P C R n t 0), A, B, G, A, B, G, ?_, ?_, hR.next⟩
    · rw [ck_0, sb, s_hasCode1 c1 c3 n6, b2s, if_neg (show ¬ (1 : Int32) = 0 by decide), ck_0, sb]
      unfold f_X6_costAtHand
      rw [show (0 : Int64) = lN 0 from rfl, show (0 : Int32) = nI 0 from rfl, s_costX n3 n6 (fun j hj => (hP j hj).1) (fun j hj => (hP j hj).2.2.2) (fun j hj => (hC j hj).1) (fun j hj => by have := (hC j hj).2.2.2; omega) w1 (by show _ < 300000; omega) c1 t 0 NN 0 (by omega) (by show _ < 300000; omega), b2s]
    · rw [gx_44_4, sb, c2, if_neg (show ¬ (1 : Int32) = 0 by decide), ck_44, sb]
      unfold f_X7_costNow
      rw [show (0 : Int64) = lN 0 from rfl, show (0 : Int32) = nI 0 from rfl, s_costM n3 n6 (fun j hj => (hP j hj).2.1) (fun j hj => (hP j hj).2.2.2) (fun j hj => (hC j hj).2.1) (fun j hj => by have := (hC j hj).2.2.2; omega) w2 (by show _ < 300000; omega) n5 t 0 NN 0 (by omega) (by show _ < 300000; omega), b2s])

theorem upd_twice (f : Nat → Int32) (k : Nat) (x y : Int32) : upd (upd f k x) k y = upd f k y := by
  funext j
  by_cases e : j = k
  · subst e; rw [upd_eq, upd_eq]
  · rw [upd_ne _ _ _ e, upd_ne _ _ _ e, upd_ne _ _ _ e]
section Wr
variable {B : Nat → Nat → Int64} {fl : Nat → Bool} {N L R n i : Nat}
theorem s_writeX (hi : i < 24) (hb : B 14 i = lN R) (hR : R < 2 ^ 48) (hn : n ≤ 24) (hL : L + n ≤ 200) : ∀ (d k m : Nat) (A : Nat → Nat → Int32) (G : Nat → Nat → Int32), k + d = n → d < m → G 6 2 = nI (L + k) → f_X2_writeWord_L24 N m 6 13 (nI i) (nI n) (nI k) (mem A B G fl) = some (1, mem (upA A 7 (pst (A 7) (fun j => nI (dg R j)) L k n)) B (upA G 6 (upd (G 6) 2 (nI (L + n)))) fl) := by
  intro d
  induction d with
  | zero =>
    intro k m A G h1 hm hg
    obtain ⟨m, rfl⟩ : ∃ j, m = j + 1 := ⟨m - 1, by omega⟩
    have hk : k = n := by omega
    subst hk
    rw [f_X2_writeWord_L24, if_pos (nI_le (by omega) (by omega)), pst_end, upA_self]
    have : upd (G 6) 2 (nI (L + k)) = G 6 := by
      funext j
      by_cases e : j = 2
      · subst e; rw [upd_eq, hg]
      · rw [upd_ne _ _ _ e]
    rw [this, upA_self]
  | succ d ih =>
    intro k m A G h1 hm hg
    obtain ⟨m, rfl⟩ : ∃ j, m = j + 1 := ⟨m - 1, by omega⟩
    rw [f_X2_writeWord_L24, if_neg (nI_ge (by omega) (by omega)), gx_13_0, sb, ldJ_n (ly14 fl) (by omega) (by decide), sb, hb, s_signOfRow (by omega) (by omega), b2s, ck_6, sb]
    unfold f_X2_putSign
    rw [gx_6_0, sb, gx_6_2, sb, hg, stI_n (ly7 fl) (by omega) (by decide), sb, gx_6_2, sb, px_6_2, sb, sb, hg, nI_1, nI_1, ih (k + 1) m _ _ (by omega) (by omega) (by rw [upA_same, upd_eq]; rfl), upA_same, upA_same, pst_stepI (A 7) (fun j => nI (dg R j)) (by omega), upA_twice, upA_twice, upd_twice]
theorem s_writeM (hi : i < 24) (hb : B 47 i = lN R) (hR : R < 2 ^ 48) (hn : n ≤ 24) (hL : L + n ≤ 200) : ∀ (d k m : Nat) (A : Nat → Nat → Int32) (G : Nat → Nat → Int32), k + d = n → d < m → A 48 i = nI n → G 44 44 = nI (L + k) → f_X7_writeWord_L2 N m 44 (nI i) (nI k) (mem A B G fl) = some (mem (upA A 72 (pst (A 72) (fun j => nI (dg R j)) L k n)) B (upA G 44 (upd (G 44) 44 (nI (L + n)))) fl) := by
  intro d
  induction d with
  | zero =>
    intro k m A G h1 hm ha hg
    obtain ⟨m, rfl⟩ : ∃ j, m = j + 1 := ⟨m - 1, by omega⟩
    have hk : k = n := by omega
    subst hk
    rw [f_X7_writeWord_L2, gx_44_8, sb, ldI_n (ly48 fl) (by omega) (by decide), sb, ha, if_pos (nI_le (by omega) (by omega)), pst_end, upA_self]
    have : upd (G 44) 44 (nI (L + k)) = G 44 := by
      funext j
      by_cases e : j = 44
      · subst e; rw [upd_eq, hg]
      · rw [upd_ne _ _ _ e]
    rw [this, upA_self]
  | succ d ih =>
    intro k m A G h1 hm ha hg
    obtain ⟨m, rfl⟩ : ∃ j, m = j + 1 := ⟨m - 1, by omega⟩
    rw [f_X7_writeWord_L2, gx_44_8, sb, ldI_n (ly48 fl) (by omega) (by decide), sb, ha, if_neg (nI_ge (by omega) (by omega)), gx_44_43, sb, gx_44_44, sb, gx_44_7, sb, ldJ_n (ly47 fl) (by omega) (by decide), sb, hb, s_signAt (by omega) (by omega), b2s, hg, stI_n (ly72 fl) (by omega) (by decide), sb, gx_44_44, sb, px_44_44, sb, hg, nI_1, nI_1, ih (k + 1) m (upA A 72 (upd (A 72) (L + k) (nI (dg R k)))) (upA G 44 (upd (G 44) 44 (nI (L + k + 1)))) (by omega) (by omega) ha (by rw [upA_same, upd_eq]; rfl), upA_same, upA_same, pst_stepI (A 72) (fun j => nI (dg R j)) (by omega), upA_twice, upA_twice, upd_twice]
end Wr
theorem lo_write : LO_write Inv := fun a => LawI.mk (fx := f_X6_write NN 0 a) (fm := f_X7_write NN 44 a) (fun h => ok_X6_write NN h) (fun h => ok_X7_write NN h) (by
  intro z A B G fl hz hR
  obtain ⟨s, t, h1, hc, h3, h4, h5, h6, h7, h8⟩ := id hR
  obtain ⟨n1, n2, n3, n4, n5, n6, n7, n8⟩ := id h1
  unfold f_X6_write f_X7_write
  by_cases h : 0 ≤ a.toInt ∧ a.toInt < t
  · rcases id hc with ⟨c1, c2⟩ | ⟨c1, c2, c3, c4, c5, -⟩
    · refine ⟨-3, A, B, G, A, B, G, ?_, ?_, hR.next⟩
      · rw [ck_0, sb, s_isThingX n4 (by omega), b2s, if_neg (bz1 h), ck_0, sb, s_hasCode0 c1, b2s, if_pos rfl]
      · rw [ck_44, sb, s_isThingM n5 (by omega), b2s, if_neg (bz1 h), gx_44_4, sb, c2, if_pos rfl]
    · obtain ⟨i, hi, rfl⟩ := ix_of h (by omega)
      obtain ⟨R, n, w1, w2⟩ := ws_both c5
      obtain ⟨v1, v2, v3, v4, v5, v6⟩ := w1 i hi
      obtain ⟨u1, u2, -⟩ := w2 i hi
      obtain ⟨L, l1, l2, l3, l4⟩ := id h3
      have v3' := r48 v3
      by_cases hL : L + n i ≤ 200
      · refine ⟨nI (L + n i), upA A 7 (pst (A 7) (fun j => nI (dg (R i) j)) L 0 (n i)), B, upA G 6 (upd (G 6) 2 (nI (L + n i))), upA (upA A 7 (pst (A 7) (fun j => nI (dg (R i) j)) L 0 (n i))) 72 (pst (A 72) (fun j => nI (dg (R i) j)) L 0 (n i)), B, upA (upA G 6 (upd (G 6) 2 (nI (L + n i)))) 44 (upd (G 44) 44 (nI (L + n i))), ?_, ?_, s, t, h1.congr rfl rfl rfl rfl rfl rfl rfl rfl, hc.congr rfl rfl rfl rfl rfl rfl rfl rfl rfl rfl rfl rfl, ?_, h4.congr rfl rfl rfl rfl, h5.congr rfl rfl rfl rfl, h6.congr (fun p hp => ?_) rfl rfl (fun p hp => ?_) rfl (fun p hp => rfl), h7.congr rfl rfl rfl rfl rfl rfl rfl rfl, h8.congr rfl rfl⟩
        · rw [ck_0, sb, s_isThingX n4 (by omega), b2s, if_neg (bz1 h), ck_0, sb, s_hasCode1 c1 c3 n6, b2s, if_neg (show ¬ (1 : Int32) = 0 by decide), gx_0_5, sb, gx_0_7, sb, ck_6, sb]
          unfold f_X2_writeWord
          rw [gx_13_1, sb, ldI_n (ly15 fl) (by omega) (by decide), sb, gx_6_2, sb, l1, v2, nI_add, if_pos (show nI (L + n i) ≤ 200 from nI_le (b := 200) hL (by decide)), show (0 : Int32) = nI 0 from rfl, s_writeX (by omega) v1 (by omega) v4 hL (n i) 0 NN A G (by omega) (by show _ < 300000; omega) l1, b2s, if_neg (show ¬ (1 : Int32) = nI 0 by decide), gx_0_5, sb, gx_6_2, sb]
          rfl
        · rw [ck_44, sb, s_isThingM (n := t) (by exact n5) (by omega), b2s, if_neg (bz1 h), gx_44_4, sb]
          show (if G 44 4 = 0 then _ else _) = _
          rw [c2, if_neg (show ¬ (1 : Int32) = 0 by decide), gx_44_44, sb, gx_44_8, sb, ldI_n (ly48 fl) (by omega) (by decide), sb]
          show (if G 44 44 + A 48 i ≤ 200 then _ else _) = _
          rw [l2, u2, nI_add, if_pos (show nI (L + n i) ≤ 200 from nI_le (b := 200) hL (by decide)), ck_44, sb]
          unfold f_X7_writeWord
          rw [show (0 : Int32) = nI 0 from rfl, s_writeM (i := i) (R := R i) (n := n i) (L := L) (by omega) u1 (by omega) v4 hL (n i) 0 NN _ _ (by omega) (by show _ < 300000; omega) (by exact u2) (by exact l2), sb, gx_44_44, sb]
          rfl
        · refine ⟨L + n i, rfl, rfl, hL, fun j hj => ?_⟩
          show pst (A 72) (fun j => nI (dg (R i) j)) L 0 (n i) j = pst (A 7) (fun j => nI (dg (R i) j)) L 0 (n i) j ∧ ∃ v, v < 4 ∧ pst (A 7) (fun j => nI (dg (R i) j)) L 0 (n i) j = nI v
          by_cases e : j < L
          · rw [pst_out _ _ (Or.inl e), pst_out _ _ (Or.inl e)]
            exact l4 j e
          · obtain ⟨q, rfl⟩ : ∃ q, j = L + q := ⟨j - L, by omega⟩
            rw [pst_in _ _ (by omega), pst_in _ _ (by omega)]
            exact ⟨rfl, dg (R i) q, dg_lt _ _, rfl⟩
        · rw [upA_ne _ _ _ (by omega), upA_ne _ _ _ (by omega)]
        · rw [upA_ne _ _ _ (by omega), upA_ne _ _ _ (by omega)]
      · refine ⟨-4, A, B, G, A, B, G, ?_, ?_, hR.next⟩
        · rw [ck_0, sb, s_isThingX n4 (by omega), b2s, if_neg (bz1 h), ck_0, sb, s_hasCode1 c1 c3 n6, b2s, if_neg (show ¬ (1 : Int32) = 0 by decide), gx_0_5, sb, gx_0_7, sb, ck_6, sb]
          unfold f_X2_writeWord
          rw [gx_13_1, sb, ldI_n (ly15 fl) (by omega) (by decide), sb, gx_6_2, sb, l1, v2, nI_add, if_neg (show ¬ nI (L + n i) ≤ 200 from nI_ge (a := 200) (by omega) (by omega)), b2s, if_pos rfl]
        · rw [ck_44, sb, s_isThingM n5 (by omega), b2s, if_neg (bz1 h), gx_44_4, sb, c2, if_neg (show ¬ (1 : Int32) = 0 by decide), gx_44_44, sb, gx_44_8, sb, ldI_n (ly48 fl) (by omega) (by decide), sb, l2, u2, nI_add, if_neg (show ¬ nI (L + n i) ≤ 200 from nI_ge (a := 200) (by omega) (by omega))]
  · refine ⟨-1, A, B, G, A, B, G, ?_, ?_, hR.next⟩
    · rw [ck_0, sb, s_isThingX n4 (by omega), b2s, if_pos (bz0 h)]
    · rw [ck_44, sb, s_isThingM n5 (by omega), b2s, if_pos (bz0 h)])
