/-! sign, rank -/
section Sg
variable {fl : Nat → Bool} {N : Nat}
theorem s_signX (hN : 24 < N) : ∀ (d i m : Nat) (A : Nat → Nat → Int32) (B : Nat → Nat → Int64) (G : Nat → Nat → Int32), i + d = 8 → d < m → ∃ A' B' G', f_X6_sign_L59 N m 0 (nI i) (mem A B G fl) = some (G 0 10 - 1, mem A' B' G' fl) ∧ (∀ k, (k < 20 ∨ 44 ≤ k) → A' k = A k ∧ B' k = B k ∧ G' k = G k) ∧ (∀ p, p < i → G' (20 + 3 * p) 2 = G (20 + 3 * p) 2) ∧ (∀ p, i ≤ p → p < 8 → G' (20 + 3 * p) 2 = 0) := by
  intro d
  induction d with
  | zero =>
    intro i m A B G h1 hm
    obtain ⟨m, rfl⟩ : ∃ j, m = j + 1 := ⟨m - 1, by omega⟩
    refine ⟨A, B, G, ?_, fun k hk => ⟨rfl, rfl, rfl⟩, fun p hp => rfl, fun p hp hq => absurd hp (by omega)⟩
    rw [f_X6_sign_L59, if_pos (show (8 : Int32) ≤ nI i from nI_le (a := 8) (by omega) (by omega)), gx_0_10, sb]
  | succ d ih =>
    intro i m A B G h1 hm
    obtain ⟨m, rfl⟩ : ∃ j, m = j + 1 := ⟨m - 1, by omega⟩
    have hi : i < 8 := by omega
    obtain ⟨A', B', G', e, e1, e2, e3⟩ := ih (i + 1) m (upA A (20 + 3 * i + 2) (fun j => if 0 ≤ j ∧ j < 24 then 0 else A (20 + 3 * i + 2) j)) (upA B (20 + 3 * i + 1) (fun j => if 0 ≤ j ∧ j < 24 then 0 else B (20 + 3 * i + 1) j)) (upA G (20 + 3 * i) (upd (G (20 + 3 * i)) 2 0)) (by omega) (by omega)
    refine ⟨A', B', G', ?_, fun k hk => ?_, fun p hp => ?_, fun p hp hq => ?_⟩
    · rw [f_X6_sign_L59, if_neg (show ¬ (8 : Int32) ≤ nI i from nI_ge (b := 8) (by omega) (by decide)), gx_0_9, sb, ldA8 hi, sb, chk_mem (cdP fl hi).1, sb, s_begin (cdP fl hi) hN, sb, nI_1, e, upA_ne _ _ _ (by omega)]
    · obtain ⟨q1, q2, q3⟩ := e1 k hk
      rw [q1, q2, q3, upA_ne _ _ _ (by omega), upA_ne _ _ _ (by omega), upA_ne _ _ _ (by omega)]
      exact ⟨rfl, rfl, rfl⟩
    · rw [e2 p (by omega), upA_ne _ _ _ (by omega)]
    · by_cases h : p = i
      · subst h
        rw [e2 p (by omega), upA_same, upd_eq]
      · exact e3 p (by omega) hq
theorem s_signM {B : Nat → Nat → Int64} {G : Nat → Nat → Int32} : ∀ (d i m : Nat) (A : Nat → Nat → Int32), i + d = 8 → d < m → f_X7_sign_L58 N m 44 (nI i) (mem A B G fl) = some (G 44 1 - 1, mem (upA A 81 (fun j => if i ≤ j ∧ j < 8 then 0 else A 81 j)) B G fl) := by
  intro d
  induction d with
  | zero =>
    intro i m A h1 hm
    obtain ⟨m, rfl⟩ : ∃ j, m = j + 1 := ⟨m - 1, by omega⟩
    rw [f_X7_sign_L58, if_pos (show (8 : Int32) ≤ nI i from nI_le (a := 8) (by omega) (by omega)), gx_44_1, sb]
    congr 3
    have : (fun j => if i ≤ j ∧ j < 8 then (0 : Int32) else A 81 j) = A 81 := by funext j; rw [if_neg (by omega)]
    rw [this, upA_self]
  | succ d ih =>
    intro i m A h1 hm
    obtain ⟨m, rfl⟩ : ∃ j, m = j + 1 := ⟨m - 1, by omega⟩
    rw [f_X7_sign_L58, if_neg (show ¬ (8 : Int32) ≤ nI i from nI_ge (b := 8) (by omega) (by decide)), gx_44_56, sb, stI_n (ly81 fl) (by omega) (by decide), sb, nI_1, ih (i + 1) m _ (by omega) (by omega), upA_same, upA_twice]
    congr 4
    funext j
    by_cases e : j = i
    · subst e
      rw [if_neg (by omega), if_pos (by omega), upd_eq]
    · rw [upd_ne _ _ _ e]
      by_cases e3 : i + 1 ≤ j ∧ j < 8
      · rw [if_pos e3, if_pos (by omega)]
      · rw [if_neg e3, if_neg (by omega)]
end Sg
theorem lo_sign : LO_sign Inv := fun a => LawI.mk (fx := f_X6_sign NN 0 a) (fm := f_X7_sign NN 44 a) (fun h => ok_X6_sign NN h) (fun h => ok_X7_sign NN h) (by
  intro z A B G fl hz hR
  obtain ⟨s, t, h1, hc, h3, h4, h5, h6, h7, h8⟩ := id hR
  obtain ⟨n1, n2, n3, n4, n5, n6, n7, n8⟩ := id h1
  have hin : ∀ M, f_X7_in NN a.toInt64 1 9 M = some (bz (1 ≤ a.toInt ∧ a.toInt ≤ 9), M) := fun M => by
    rw [s_in, i64]
    rfl
  unfold f_X6_sign f_X7_sign
  by_cases h : 1 ≤ a.toInt ∧ a.toInt ≤ 9
  · have a1 : ¬ a < 1 := fun q => by have : a.toInt < 1 := Int32.lt_iff_toInt_lt.mp q; omega
    have a2 : a ≤ 9 := Int32.le_iff_toInt_le.mpr (show a.toInt ≤ 9 from h.2)
    by_cases hs : s < 4
    · obtain ⟨A1, B1, G1, e, e1, e2, e3⟩ := s_signX (fl := fl) (N := NN) (by show _ < 300000; omega) 8 0 NN (upA (upA A 1 (upd (A 1) s a)) 15 (fun j => if 0 ≤ j ∧ j < 24 then 0 else A 15 j)) (upA B 14 (fun j => if 0 ≤ j ∧ j < 24 then 0 else B 14 j)) (upA (upA (upA (upA G 0 (upd (G 0) 10 (nI (s + 1)))) 13 (upd (G 13) 2 0)) 0 (upd (upd (G 0) 10 (nI (s + 1))) 12 0)) 6 (upd (G 6) 2 0)) (by omega) (by show _ < 300000; omega)
      refine ⟨nI s, A1, B1, G1, upA (upA A1 45 (upd (A 45) s a)) 81 (fun j => if 0 ≤ j ∧ j < 8 then 0 else A 81 j), B1, upA G1 44 (upd (upd (upd (G 44) 1 (nI (s + 1))) 4 0) 44 0), ?_, ?_, s + 1, t, ?_, Or.inl ⟨?_, rfl⟩, ?_, h4.congr ?_ ?_ ?_ ?_, h5.congr ?_ ?_ ?_ ?_, ?_, h7.congr ?_ ?_ ?_ ?_ ?_ ?_ ?_ ?_, h8.congr ?_ ?_⟩
      · rw [if_neg a1, if_pos a2, gx_0_10, sb, n1, if_pos (show nI s < 4 from nI_lt (b := 4) hs (by decide)), gx_0_0, sb, sb, stI_n (ly1 fl) hs (by decide), sb, gx_0_10, sb, n1, nI_1, px_0_10, sb, ck_0, sb, s_dropCode (by show _ < 300000; omega), sb, gx_0_5, sb, px_6_2, sb]
        refine Eq.trans e ?_
        show some (nI (s + 1) - 1, _) = _
        rw [nI_pred]
      · have g44 : G1 44 = G 44 := (e1 44 (by omega)).2.2
        have g45 : A1 45 = A 45 := (e1 45 (by omega)).1
        rw [hin, b2s, if_neg (bz1 h), gx_44_1, sb, g44, n2, if_neg (show ¬ nI s = 4 from fun e => by have := (nI_eq (b := 4) (by omega) (by decide)).mp e; omega), gx_44_0, sb, sb, stI_n (ly45 fl) hs (by decide), sb, gx_44_1, sb, px_44_1, sb, px_44_4, sb, px_44_44, sb, show (0 : Int32) = nI 0 from rfl, s_signM 8 0 NN _ (by omega) (by show _ < 300000; omega)]
        simp only [upA_twice, upA_same, g44, g45, n2, nI_1]
        show some (nI (s + 1) - 1, mem (upA (upA A1 45 _) 81 (fun j => if 0 ≤ j ∧ j < 8 then 0 else A1 81 j)) B1 _ fl) = _
        rw [nI_pred, (e1 81 (by omega)).1]
        rfl
      · refine ⟨?_, rfl, by omega, ?_, ?_, n6, fun j hj => ?_, fun j hj => ?_⟩
        · show G1 0 10 = _
          rw [(e1 0 (by omega)).2.2]
          rfl
        · show G1 0 11 = _
          rw [(e1 0 (by omega)).2.2]
          exact n4
        · exact n5
        · show upd (A 45) s a j = A1 1 j ∧ ∃ q, 1 ≤ q ∧ q ≤ 9 ∧ A1 1 j = nI q
          rw [(e1 1 (by omega)).1]
          show upd (A 45) s a j = upd (A 1) s a j ∧ ∃ q, 1 ≤ q ∧ q ≤ 9 ∧ upd (A 1) s a j = nI q
          by_cases e : j = s
          · subst e
            rw [upd_eq, upd_eq]
            obtain ⟨q, hq, rfl⟩ := ix_of (a := a) (n := 10) ⟨by omega, by omega⟩ (by decide)
            rw [nI_toInt (by omega)] at h
            exact ⟨rfl, q, by omega, by omega, rfl⟩
          · rw [upd_ne _ _ _ e, upd_ne _ _ _ e]
            exact n7 j (by omega)
        · show A1 46 j = A1 2 j ∧ ∃ q, 1 ≤ q ∧ q ≤ 1000000 ∧ A1 2 j = nI q
          rw [(e1 46 (by omega)).1, (e1 2 (by omega)).1]
          exact n8 j hj
      · show G1 13 2 = 0
        rw [(e1 13 (by omega)).2.2]
        rfl
      · refine ⟨0, ?_, rfl, by omega, fun i hi => absurd hi (by omega)⟩
        show G1 6 2 = _
        rw [(e1 6 (by omega)).2.2]
        rfl
      all_goals first
        | (rw [upA_ne _ _ _ (by decide), (e1 _ (by omega)).2.2]; rfl)
        | (rw [upA_ne _ _ _ (by decide), upA_ne _ _ _ (by decide), (e1 _ (by omega)).1]; rfl)
        | rfl
        | skip
      refine fun p hp => ⟨0, by omega, ?_, ?_, fun q => absurd q (by omega), fun i hi => absurd hi (by omega)⟩
      · rw [upA_ne _ _ _ (by omega), e3 p (by omega) hp]
        rfl
      · show (if 0 ≤ p ∧ p < 8 then (0 : Int32) else _) = nI 0
        rw [if_pos ⟨by omega, hp⟩]
        rfl
    · have hs4 : s = 4 := by omega
      refine ⟨-4, A, B, G, A, B, G, ?_, ?_, hR.next⟩
      · rw [if_neg a1, if_pos a2, gx_0_10, sb, n1, if_neg (show ¬ nI s < 4 from nI_nlt (b := 4) (by omega) (by omega))]
      · rw [hin, b2s, if_neg (bz1 h), gx_44_1, sb, n2, if_pos (show nI s = 4 by rw [hs4]; rfl)]
  · refine ⟨-2, A, B, G, A, B, G, ?_, ?_, hR.next⟩
    · by_cases a1 : a < 1
      · rw [if_pos a1]
      · have a1' : ¬ a.toInt < 1 := fun q => a1 (Int32.lt_iff_toInt_lt.mpr q)
        rw [if_neg a1, if_neg (show ¬ a ≤ 9 from fun q => by have : a.toInt ≤ 9 := Int32.le_iff_toInt_le.mp q; omega)]
    · rw [hin, b2s, if_pos (bz0 h)])

/-! things by rank: insertion, on both sides alike -/
/-- i goes into the first k of r -/
def ins (c : Nat → Int32) (i : Nat) : Nat → (Nat → Int32) → (Nat → Int32)
  | 0, r => upd r 0 (nI i)
  | k + 1, r => if c i ≤ c (r k).toNatClampNeg then upd r (k + 1) (nI i) else ins c i k (upd r (k + 1) (r k))
/-- i, i + 1 .. go in -/
def rkG (c : Nat → Int32) : Nat → Nat → (Nat → Int32) → (Nat → Int32)
  | 0, _, r => r
  | d + 1, i, r => rkG c d (i + 1) (ins c i i r)
/-- the first k are numbers below n -/
def RkB (r : Nat → Int32) (k n : Nat) : Prop := ∀ j, j < k → ∃ q, q < n ∧ r j = nI q
/-- where i goes -/
theorem ins_sp (c : Nat → Int32) (i : Nat) : ∀ (k : Nat) (r : Nat → Int32), ∃ p, p ≤ k ∧ ins c i k r = (fun j => if j < p then r j else if j = p then nI i else if j ≤ k then r (j - 1) else r j) ∧ (p = 0 ∨ c i ≤ c (r (p - 1)).toNatClampNeg) ∧ ∀ j, p ≤ j → j < k → ¬ c i ≤ c (r j).toNatClampNeg := by
  intro k
  induction k with
  | zero =>
    intro r
    refine ⟨0, Nat.le_refl _, ?_, Or.inl rfl, fun j _ h => absurd h (by omega)⟩
    funext j
    show upd r 0 (nI i) j = _
    by_cases e : j = 0
    · subst e; rw [upd_eq, if_neg (by omega), if_pos rfl]
    · rw [upd_ne _ _ _ e, if_neg (by omega), if_neg e, if_neg (by omega)]
  | succ k ih =>
    intro r
    by_cases h : c i ≤ c (r k).toNatClampNeg
    · refine ⟨k + 1, Nat.le_refl _, ?_, Or.inr h, fun j h1 h2 => absurd h1 (by omega)⟩
      show (if _ then upd r (k + 1) (nI i) else _) = _
      rw [if_pos h]
      funext j
      by_cases e : j = k + 1
      · subst e; rw [upd_eq, if_neg (by omega), if_pos rfl]
      · rw [upd_ne _ _ _ e]
        by_cases e2 : j < k + 1
        · rw [if_pos e2]
        · rw [if_neg e2, if_neg e, if_neg (by omega)]
    · obtain ⟨p, hp, e, e1, e2⟩ := ih (upd r (k + 1) (r k))
      refine ⟨p, by omega, ?_, ?_, fun j h1 h2 => ?_⟩
      · show (if _ then _ else ins c i k (upd r (k + 1) (r k))) = _
        rw [if_neg h, e]
        funext j
        by_cases q1 : j < p
        · rw [if_pos q1, if_pos q1, upd_ne _ _ _ (by omega)]
        · rw [if_neg q1, if_neg q1]
          by_cases q2 : j = p
          · rw [if_pos q2, if_pos q2]
          · rw [if_neg q2, if_neg q2]
            by_cases q3 : j ≤ k
            · rw [if_pos q3, if_pos (by omega), upd_ne _ _ _ (by omega)]
            · rw [if_neg q3]
              by_cases q4 : j = k + 1
              · subst q4
                rw [upd_eq, if_pos (Nat.le_refl _), Nat.add_sub_cancel]
              · rw [upd_ne _ _ _ q4, if_neg (by omega)]
      · rcases e1 with h0 | h0
        · exact Or.inl h0
        · by_cases hp0 : p = 0
          · exact Or.inl hp0
          · rw [upd_ne _ _ _ (by omega)] at h0
            exact Or.inr h0
      · by_cases q : j = k
        · subst q; exact h
        · have := e2 j h1 (by omega)
          rw [upd_ne _ _ _ (by omega)] at this
          exact this
theorem ins_B {c : Nat → Int32} {i n : Nat} {r : Nat → Int32} (hi : i < n) (h : RkB r i n) : RkB (ins c i i r) (i + 1) n := by
  obtain ⟨p, hp, e, -⟩ := ins_sp c i i r
  intro j hj
  rw [e]
  show ∃ q, q < n ∧ (if j < p then r j else if j = p then nI i else if j ≤ i then r (j - 1) else r j) = nI q
  by_cases q1 : j < p
  · rw [if_pos q1]; exact h j (by omega)
  · rw [if_neg q1]
    by_cases q2 : j = p
    · rw [if_pos q2]; exact ⟨i, hi, rfl⟩
    · rw [if_neg q2, if_pos (by omega)]; exact h (j - 1) (by omega)
theorem rkG_B {c : Nat → Int32} {n : Nat} : ∀ (d i : Nat) (r : Nat → Int32), i + d ≤ n → RkB r i n → RkB (rkG c d i r) (i + d) n := by
  intro d
  induction d with
  | zero => intro i r _ h; exact h
  | succ d ih =>
    intro i r h1 h
    have := ih (i + 1) (ins c i i r) (by omega) (ins_B (by omega) h)
    rw [show i + 1 + d = i + (d + 1) by omega] at this
    exact this
/-- only the first places count, and only the counts of the things that are there -/
theorem ins_cg {c c' : Nat → Int32} {i n : Nat} (hc : ∀ j, j < n → c j = c' j) (hi : i < n) (hn : n < 2 ^ 31) : ∀ (k : Nat) (r r' : Nat → Int32), RkB r k n → (∀ j, j < k → r j = r' j) → ∀ j, j ≤ k → ins c i k r j = ins c' i k r' j := by
  intro k
  induction k with
  | zero =>
    intro r r' _ _ j hj
    have : j = 0 := by omega
    subst this
    show upd r 0 (nI i) 0 = upd r' 0 (nI i) 0
    rw [upd_eq, upd_eq]
  | succ k ih =>
    intro r r' hB h j hj
    obtain ⟨q, hq, e⟩ := hB k (by omega)
    show (if c i ≤ c (r k).toNatClampNeg then upd r (k + 1) (nI i) else ins c i k (upd r (k + 1) (r k))) j = (if c' i ≤ c' (r' k).toNatClampNeg then upd r' (k + 1) (nI i) else ins c' i k (upd r' (k + 1) (r' k))) j
    rw [← h k (by omega), e, nI_clamp (by omega), hc i hi, hc q hq]
    by_cases h2 : c' i ≤ c' q
    · rw [if_pos h2, if_pos h2]
      by_cases e2 : j = k + 1
      · subst e2; rw [upd_eq, upd_eq]
      · rw [upd_ne _ _ _ e2, upd_ne _ _ _ e2]; exact h j (by omega)
    · rw [if_neg h2, if_neg h2]
      by_cases e2 : j = k + 1
      · subst e2
        have o : ∀ (c : Nat → Int32) (r : Nat → Int32), ins c i k (upd r (k + 1) (nI q)) (k + 1) = nI q := by
          intro c r
          obtain ⟨p, hp, e5, -⟩ := ins_sp c i k (upd r (k + 1) (nI q))
          rw [e5]
          show (if k + 1 < p then _ else if k + 1 = p then _ else if k + 1 ≤ k then _ else upd r (k + 1) (nI q) (k + 1)) = _
          rw [if_neg (by omega), if_neg (by omega), if_neg (by omega), upd_eq]
        rw [o, o]
      · exact ih _ _ (fun m hm => by rw [upd_ne _ _ _ (by omega)]; exact hB m (by omega)) (fun m hm => by rw [upd_ne _ _ _ (by omega), upd_ne _ _ _ (by omega)]; exact h m (by omega)) j (by omega)
theorem rkG_cg {c c' : Nat → Int32} {n : Nat} (hc : ∀ j, j < n → c j = c' j) (hn : n < 2 ^ 31) : ∀ (d i : Nat) (r r' : Nat → Int32), i + d ≤ n → RkB r i n → (∀ j, j < i → r j = r' j) → ∀ j, j < i + d → rkG c d i r j = rkG c' d i r' j := by
  intro d
  induction d with
  | zero => intro i r r' _ _ h j hj; exact h j hj
  | succ d ih =>
    intro i r r' h1 hB h j hj
    exact ih (i + 1) _ _ (by omega) (ins_B (by omega) hB) (fun j hj => ins_cg hc (by omega) hn i r r' hB h j (by omega)) j (by omega)
section Rk
variable {B : Nat → Nat → Int64} {G : Nat → Nat → Int32} {fl : Nat → Bool} {N a b n : Nat}
theorem s_rkX1 (ha : lay fl a = some (.inl (0, 24))) (hb : lay fl b = some (.inl (0, 24))) (hab : b ≠ a) (hn : n ≤ 24) {i : Nat} (hi : i < n) (k2 : Nat → Nat → Int32 → Int32 → A_M → Option A_M) : ∀ (k m : Nat) (A : Nat → Nat → Int32), k ≤ i → k < m → RkB (A a) k n → f_X6_rankThings_L10 N k2 m a b (nI n) (nI i) (nI k) (mem A B G fl) = k2 a b (nI n) (nI (i + 1)) (mem (upA A a (ins (A b) i k (A a))) B G fl) := by
  intro k
  induction k with
  | zero =>
    intro m A hk hm hB
    obtain ⟨m, rfl⟩ : ∃ j, m = j + 1 := ⟨m - 1, by omega⟩
    rw [f_X6_rankThings_L10, if_pos (show nI 0 ≤ 0 by decide)]
    unfold f_X6_rankThings_K45
    rw [stI_n ha (by omega) (by decide), sb, nI_1]
    rfl
  | succ k ih =>
    intro m A hk hm hB
    obtain ⟨m, rfl⟩ : ∃ j, m = j + 1 := ⟨m - 1, by omega⟩
    obtain ⟨q, hq, e⟩ := hB k (by omega)
    rw [f_X6_rankThings_L10, if_neg (nI_nle (by omega) (by omega)), nI_pred, ldI_n ha (by omega) (by decide), sb, e, ldI_n hb (by omega) (by decide), sb, ldI_n hb (by omega) (by decide), sb]
    show _ = k2 a b (nI n) (nI (i + 1)) (mem (upA A a (if A b i ≤ A b (A a k).toNatClampNeg then upd (A a) (k + 1) (nI i) else ins (A b) i k (upd (A a) (k + 1) (A a k)))) B G fl)
    rw [e, nI_clamp (by omega)]
    by_cases h : A b i ≤ A b q
    · rw [if_pos h, if_pos h]
      unfold f_X6_rankThings_K45
      rw [stI_n ha (by omega) (by decide), sb, nI_1]
    · rw [if_neg h, if_neg h, sb, stI_n ha (by omega) (by decide), sb, show nI (k + 1) + -1 = nI k from pk_m1 k, ih m _ (by omega) (by omega) (fun j hj => by rw [upA_same, upd_ne _ _ _ (by omega)]; exact hB j (by omega)), upA_same, upA_ne _ _ _ hab, upA_twice]
theorem s_rkX (ha : lay fl a = some (.inl (0, 24))) (hb : lay fl b = some (.inl (0, 24))) (hab : b ≠ a) (hn : n ≤ 24) (hN : 24 < N) : ∀ (d i m : Nat) (A : Nat → Nat → Int32), i + d = n → d < m → RkB (A a) i n → f_X6_rankThings_L2 N m a b (nI n) (nI i) (mem A B G fl) = some (mem (upA A a (rkG (A b) d i (A a))) B G fl) := by
  intro d
  induction d with
  | zero =>
    intro i m A h1 hm hB
    obtain ⟨m, rfl⟩ : ∃ j, m = j + 1 := ⟨m - 1, by omega⟩
    rw [f_X6_rankThings_L2, if_pos (nI_le (by omega) (by omega))]
    show _ = some (mem (upA A a (A a)) B G fl)
    rw [upA_self]
  | succ d ih =>
    intro i m A h1 hm hB
    obtain ⟨m, rfl⟩ : ∃ j, m = j + 1 := ⟨m - 1, by omega⟩
    rw [f_X6_rankThings_L2, if_neg (nI_ge (by omega) (by omega)), s_rkX1 ha hb hab hn (by omega) _ i N A (Nat.le_refl _) (by omega) hB, ih (i + 1) m _ (by omega) (by omega) (by rw [upA_same]; exact ins_B (by omega) hB), upA_same, upA_ne _ _ _ hab, upA_twice]
    rfl
theorem s_rkM1 (hb : lay fl b = some (.inl (0, 24))) (hab : b ≠ 50) (hn : n ≤ 24) {i : Nat} (hi : i < n) (k2 : Nat → Nat → Int32 → A_M → Option A_M) : ∀ (k m : Nat) (A : Nat → Nat → Int32), k ≤ i → k < m → RkB (A 50) k n → f_X7_rankBy_L12 N k2 m 44 b (nI i) (nI k) (mem A B G fl) = k2 44 b (nI (i + 1)) (mem (upA A 50 (ins (A b) i k (A 50))) B G fl) := by
  have ha := ly50 fl
  intro k
  induction k with
  | zero =>
    intro m A hk hm hB
    obtain ⟨m, rfl⟩ : ∃ j, m = j + 1 := ⟨m - 1, by omega⟩
    rw [f_X7_rankBy_L12, if_pos (show nI 0 ≤ 0 by decide)]
    unfold f_X7_rankBy_K52
    rw [gx_44_10, sb, stI_n ha (by omega) (by decide), sb, nI_1]
    rfl
  | succ k ih =>
    intro m A hk hm hB
    obtain ⟨m, rfl⟩ : ∃ j, m = j + 1 := ⟨m - 1, by omega⟩
    obtain ⟨q, hq, e⟩ := hB k (by omega)
    rw [f_X7_rankBy_L12, if_neg (nI_nle (by omega) (by omega)), nI_pred, gx_44_10, sb, ldI_n ha (by omega) (by decide), sb, e, ldI_n hb (by omega) (by decide), sb, ldI_n hb (by omega) (by decide), sb]
    show _ = k2 44 b (nI (i + 1)) (mem (upA A 50 (if A b i ≤ A b (A 50 k).toNatClampNeg then upd (A 50) (k + 1) (nI i) else ins (A b) i k (upd (A 50) (k + 1) (A 50 k)))) B G fl)
    rw [e, nI_clamp (by omega)]
    by_cases h : A b i ≤ A b q
    · rw [if_pos h, if_pos h]
      unfold f_X7_rankBy_K52
      rw [gx_44_10, sb, stI_n ha (by omega) (by decide), sb, nI_1]
    · rw [if_neg h, if_neg h, sb, sb, ldI_n ha (by omega) (by decide), sb, e, stI_n ha (by omega) (by decide), sb, show nI (k + 1) + -1 = nI k from pk_m1 k, ih m _ (by omega) (by omega) (fun j hj => by rw [upA_same, upd_ne _ _ _ (by omega)]; exact hB j (by omega)), upA_same, upA_ne _ _ _ hab, upA_twice]
theorem s_rkM (hb : lay fl b = some (.inl (0, 24))) (hab : b ≠ 50) (hn : n ≤ 24) (hN : 24 < N) (hG : G 44 3 = nI n) : ∀ (d i m : Nat) (A : Nat → Nat → Int32), i + d = n → d < m → RkB (A 50) i n → f_X7_rankBy_L2 N m 44 b (nI i) (mem A B G fl) = some (mem (upA A 50 (rkG (A b) d i (A 50))) B G fl) := by
  intro d
  induction d with
  | zero =>
    intro i m A h1 hm hB
    obtain ⟨m, rfl⟩ : ∃ j, m = j + 1 := ⟨m - 1, by omega⟩
    rw [f_X7_rankBy_L2, gx_44_3, sb, hG, if_pos (nI_le (by omega) (by omega))]
    show _ = some (mem (upA A 50 (A 50)) B G fl)
    rw [upA_self]
  | succ d ih =>
    intro i m A h1 hm hB
    obtain ⟨m, rfl⟩ : ∃ j, m = j + 1 := ⟨m - 1, by omega⟩
    rw [f_X7_rankBy_L2, gx_44_3, sb, hG, if_neg (nI_ge (by omega) (by omega)), s_rkM1 hb hab hn (by omega) _ i N A (Nat.le_refl _) (by omega) hB, ih (i + 1) m _ (by omega) (by omega) (by rw [upA_same]; exact ins_B (by omega) hB), upA_same, upA_ne _ _ _ hab, upA_twice]
    rfl
end Rk
theorem RkB0 (r : Nat → Int32) (n : Nat) : RkB r 0 n := fun j hj => absurd hj (by omega)
theorem lo_rank : LO_rank Inv := fun a => LawI.mk (fx := f_X6_rank NN 0 a) (fm := f_X7_rank NN 44 a) (fun h => ok_X6_rank NN h) (fun h => ok_X7_rank NN h) (by
  intro z A B G fl hz hR
  obtain ⟨s, t, h1, hc, h3, h4, h5, h6, h7, h8⟩ := id hR
  obtain ⟨n1, n2, n3, n4, n5, n6, n7, n8⟩ := id h1
  unfold f_X6_rank f_X7_rank
  by_cases h : 0 ≤ a.toInt ∧ a.toInt < t
  · obtain ⟨i, hi, rfl⟩ := ix_of h (by omega)
    refine ⟨rkG (A 2) t 0 (A 3) i, upA A 3 (rkG (A 2) t 0 (A 3)), B, G, upA (upA A 3 (rkG (A 2) t 0 (A 3))) 50 (rkG (A 46) t 0 (A 50)), B, G, ?_, ?_, s, t, h1.congr rfl rfl rfl rfl rfl rfl rfl rfl, hc.congr rfl rfl rfl rfl rfl rfl rfl rfl rfl rfl rfl rfl, h3.congr rfl rfl rfl rfl, h4.congr rfl rfl rfl rfl, h5.congr rfl rfl rfl rfl, h6.congr (fun p hp => rfl) rfl rfl (fun p hp => ?_) rfl (fun p hp => rfl), h7.congr rfl rfl rfl rfl rfl rfl rfl rfl, h8.congr rfl rfl⟩
    · rw [ck_0, sb, s_isThingX n4 (by omega), b2s, if_neg (bz1 h), gx_0_2, sb, gx_0_1, sb, gx_0_11, sb, n4]
      unfold f_X6_rankThings
      rw [show (0 : Int32) = nI 0 from rfl, s_rkX (ly3 fl) (ly2 fl) (by decide) n6 (by show _ < 300000; omega) t 0 NN A (by omega) (by show _ < 300000; omega) (RkB0 _ _), sb, gx_0_2, sb, ldI_n (ly3 fl) (by omega) (by decide), sb]
      rfl
    · rw [gx_44_3, sb, n5, s_in0 (by omega), b2s, if_neg (bz1 h), gx_44_2, sb, ck_44, sb]
      unfold f_X7_rankBy
      rw [show (0 : Int32) = nI 0 from rfl, s_rkM (ly46 fl) (by decide) n6 (by show _ < 300000; omega) n5 t 0 NN _ (by omega) (by show _ < 300000; omega) (RkB0 _ _), sb, gx_44_10, sb, ldI_n (ly50 fl) (by omega) (by decide), sb]
      show some (rkG (A 46) t 0 (A 50) i, _) = _
      rw [rkG_cg (c := A 46) (c' := A 2) (n := t) (fun j hj => (n8 j hj).1) (by omega) t 0 (A 50) (A 3) (by omega) (RkB0 _ _) (fun j hj => absurd hj (by omega)) i (by omega)]
      rfl
    · rw [upA_ne _ _ _ (by omega), upA_ne _ _ _ (by omega)]
  · refine ⟨-1, A, B, G, A, B, G, ?_, ?_, hR.next⟩
    · rw [ck_0, sb, s_isThingX n4 (by omega), b2s, if_pos (bz0 h)]
    · rw [gx_44_3, sb, n5, s_in0 (by omega), b2s, if_pos (bz0 h)])
