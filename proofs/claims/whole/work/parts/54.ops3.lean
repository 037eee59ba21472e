/-! own, add -/
theorem Wd0 (s : Nat) : Wd s 0 0 := ⟨0, 0, rfl, rfl, Nat.pow_pos (by decide), by decide, rz_0 0, fun k hk => absurd hk (by omega)⟩
section Ow
variable {A : Nat → Nat → Int32} {B : Nat → Nat → Int64} {G : Nat → Nat → Int32} {fl : Nat → Bool} {N s t : Nat}
theorem s_hasST (h1 : G 0 10 = nI s) (h2 : G 0 11 = nI t) (hs : s ≤ 4) (ht : t ≤ 24) : f_X6_hasSignsAndThings N 0 (mem A B G fl) = some (bz (2 ≤ s ∧ 0 < t), mem A B G fl) := by
  unfold f_X6_hasSignsAndThings
  rw [gx_0_10, sb, h1]
  by_cases e1 : s < 2
  · rw [if_pos (show nI s < 2 from nI_lt (b := 2) e1 (by decide)), bz_f (by omega)]
  · rw [if_neg (show ¬ nI s < 2 from nI_nlt (b := 2) (by omega) (by omega)), gx_0_11, sb, h2]
    by_cases e2 : t < 1
    · rw [if_pos (show nI t < 1 from nI_lt (b := 1) e2 (by decide)), bz_f (by omega)]
    · rw [if_neg (show ¬ nI t < 1 from nI_nlt (b := 1) (by omega) (by omega)), bz_t (by omega)]
theorem s_canBegin (h1 : G 44 1 = nI s) (h2 : G 44 3 = nI t) (hs : s ≤ 4) (ht : t ≤ 24) : f_X7_canBegin N 44 (mem A B G fl) = some (bz (2 ≤ s ∧ 0 < t), mem A B G fl) := by
  unfold f_X7_canBegin
  rw [gx_44_1, sb, h1]
  by_cases e1 : s < 2
  · rw [if_pos (show nI s < 2 from nI_lt (b := 2) e1 (by decide)), bz_f (by omega)]
  · rw [if_neg (show ¬ nI s < 2 from nI_nlt (b := 2) (by omega) (by omega)), gx_44_3, sb, h2]
    by_cases e2 : 0 < t
    · rw [if_neg (nI_nle e2 (by omega)), bz_t (by omega)]
    · rw [if_pos (show nI t ≤ 0 by rw [show t = 0 by omega]; decide), bz_f (by omega)]
/-- what comes() makes of the reference's fields -/
def cmG (g : Nat → Int32) : Nat → Int32 := upd (upd (upd g 4 1) 5 0) 6 0
theorem s_comes : f_X7_comes N 44 (mem A B G fl) = some (mem A B (upA G 44 (cmG (G 44))) fl) := by
  unfold f_X7_comes
  rw [px_44_4, sb, px_44_5, sb, px_44_6, sb]
  congr 2
  funext a
  by_cases e : a = 44
  · subst e
    simp only [upA_same]
    rfl
  · simp only [upA_ne _ _ _ e]
theorem s_ownM (h2 : G 44 3 = nI t) (ht : t ≤ 24) : ∀ (d i m : Nat) (A : Nat → Nat → Int32) (B : Nat → Nat → Int64), i + d = t → d < m → f_X7_own_L12 N m 44 (nI i) (mem A B G fl) = some (nI t, mem (upA A 48 (fun j => if i ≤ j ∧ j < t then 0 else A 48 j)) (upA B 47 (fun j => if i ≤ j ∧ j < t then 0 else B 47 j)) (upA G 44 (upd (cmG (G 44)) 5 1)) fl) := by
  intro d
  induction d with
  | zero =>
    intro i m A B h1 hm
    obtain ⟨m, rfl⟩ : ∃ j, m = j + 1 := ⟨m - 1, by omega⟩
    rw [f_X7_own_L12, gx_44_3, sb, h2, if_pos (nI_le (by omega) (by omega)), ck_44, sb, s_comes, sb, px_44_5, sb, gx_44_3, sb]
    have e1 : upA (upA G 44 (cmG (G 44))) 44 (upd (upA G 44 (cmG (G 44)) 44) 5 1) = upA G 44 (upd (cmG (G 44)) 5 1) := by
      funext a
      by_cases e : a = 44
      · subst e; simp only [upA_same]
      · simp only [upA_ne _ _ _ e]
    have e2 : upA A 48 (fun j => if i ≤ j ∧ j < t then 0 else A 48 j) = A := by
      funext a
      by_cases e : a = 48
      · subst e
        rw [upA_same]
        funext j
        rw [if_neg (by omega)]
      · rw [upA_ne _ _ _ e]
    have e3 : upA B 47 (fun j => if i ≤ j ∧ j < t then 0 else B 47 j) = B := by
      funext a
      by_cases e : a = 47
      · subst e
        rw [upA_same]
        funext j
        rw [if_neg (by omega)]
      · rw [upA_ne _ _ _ e]
    rw [e1, e2, e3]
    show some (G 44 3, _) = _
    rw [h2]
  | succ d ih =>
    intro i m A B h1 hm
    obtain ⟨m, rfl⟩ : ∃ j, m = j + 1 := ⟨m - 1, by omega⟩
    rw [f_X7_own_L12, gx_44_3, sb, h2, if_neg (nI_ge (by omega) (by omega)), gx_44_7, sb, stJ_n (ly47 fl) (by omega) (by decide), sb, gx_44_8, sb, stI_n (ly48 fl) (by omega) (by decide), sb, nI_1, ih (i + 1) m _ _ (by omega) (by omega)]
    have e2 : upA (upA A 48 (upd (A 48) i 0)) 48 (fun j => if i + 1 ≤ j ∧ j < t then 0 else upA A 48 (upd (A 48) i 0) 48 j) = upA A 48 (fun j => if i ≤ j ∧ j < t then 0 else A 48 j) := by
      funext a
      by_cases e : a = 48
      · subst e
        rw [upA_same, upA_same, upA_same]
        funext j
        by_cases e2 : j = i
        · subst e2
          rw [if_neg (by omega), if_pos (by omega), upd_eq]
        · rw [upd_ne _ _ _ e2]
          by_cases e3 : i + 1 ≤ j ∧ j < t
          · rw [if_pos e3, if_pos (by omega)]
          · rw [if_neg e3, if_neg (by omega)]
      · rw [upA_ne _ _ _ e, upA_ne _ _ _ e, upA_ne _ _ _ e]
    have e3 : upA (upA B 47 (vp_updL (B 47) i 0)) 47 (fun j => if i + 1 ≤ j ∧ j < t then 0 else upA B 47 (vp_updL (B 47) i 0) 47 j) = upA B 47 (fun j => if i ≤ j ∧ j < t then 0 else B 47 j) := by
      funext a
      by_cases e : a = 47
      · subst e
        rw [upA_same, upA_same, upA_same]
        funext j
        by_cases e2 : j = i
        · subst e2
          rw [if_neg (by omega), if_pos (by omega), vpL_eq]
        · rw [vpL_ne _ _ _ e2]
          by_cases e3 : i + 1 ≤ j ∧ j < t
          · rw [if_pos e3, if_pos (by omega)]
          · rw [if_neg e3, if_neg (by omega)]
      · rw [upA_ne _ _ _ e, upA_ne _ _ _ e, upA_ne _ _ _ e]
    rw [e2, e3]
end Ow
theorem lo_own : LO_own Inv := LawI.mk (fx := f_X6_own NN 0) (fm := f_X7_own NN 44) (fun h => ok_X6_own NN h) (fun h => ok_X7_own NN h) (by
  intro z A B G fl hz hR
  obtain ⟨s, t, h1, hc, h3, h4, h5, h6, h7, h8⟩ := id hR
  obtain ⟨n1, n2, n3, n4, n5, n6, n7, n8⟩ := id h1
  unfold f_X6_own f_X7_own
  by_cases h : 2 ≤ s ∧ 0 < t
  · refine ⟨nI t, (upA A 15 (fun j => if 0 ≤ j ∧ j < 24 then 0 else A 15 j)), (upA B 14 (fun j => if 0 ≤ j ∧ j < 24 then 0 else B 14 j)), (upA (upA G 13 (upd (G 13) 2 (nI t))) 0 (upd (G 0) 12 1)), (upA (upA A 15 (fun j => if 0 ≤ j ∧ j < 24 then 0 else A 15 j)) 48 (fun j => if 0 ≤ j ∧ j < t then 0 else A 48 j)), (upA (upA B 14 (fun j => if 0 ≤ j ∧ j < 24 then 0 else B 14 j)) 47 (fun j => if 0 ≤ j ∧ j < t then 0 else B 47 j)), (upA (upA (upA G 13 (upd (G 13) 2 (nI t))) 0 (upd (G 0) 12 1)) 44 (upd (cmG (G 44)) 5 1)), ?_, ?_, s, t, h1.congr rfl rfl rfl rfl rfl rfl rfl rfl, ?_, h3.congr rfl rfl rfl rfl, h4.congr rfl rfl rfl rfl, h5.congr rfl rfl rfl rfl, h6.congr (fun p hp => ?_) rfl rfl (fun p hp => ?_) rfl (fun p hp => ?_), h7.congr rfl rfl rfl rfl rfl rfl rfl rfl, h8.congr rfl rfl⟩
    · rw [ck_0, sb, s_hasST n1 n4 n3 n6, b2s, if_neg (bz1 h), gx_0_7, sb, gx_0_11, sb, n4, ck_13, sb, s_begin (cd13 fl) (by show _ < 300000; omega), sb, px_0_12, sb, gx_0_11, sb]
      show some (G 0 11, _) = _
      rw [n4]
      rfl
    · rw [ck_44, sb, s_canBegin (G := (upA (upA G 13 (upd (G 13) 2 (nI t))) 0 (upd (G 0) 12 1))) (s := s) (t := t) n2 n5 n3 n6, b2s, if_neg (bz1 h), show (0 : Int32) = nI 0 from rfl]
      exact s_ownM (G := (upA (upA G 13 (upd (G 13) 2 (nI t))) 0 (upd (G 0) 12 1))) n5 n6 t 0 NN _ _ (by omega) (by show _ < 300000; omega)
    · refine Or.inr ⟨rfl, rfl, h.2, h.1, fun i hi => ?_, Or.inr (Or.inl ⟨rfl, rfl, rfl⟩)⟩
      show (if 0 ≤ i ∧ i < t then (0 : Int64) else _) = (if 0 ≤ i ∧ i < 24 then (0 : Int64) else _) ∧ (if 0 ≤ i ∧ i < t then (0 : Int32) else _) = (if 0 ≤ i ∧ i < 24 then (0 : Int32) else _) ∧ Wd s (if 0 ≤ i ∧ i < 24 then (0 : Int64) else _) (if 0 ≤ i ∧ i < 24 then (0 : Int32) else _)
      rw [if_pos (by omega), if_pos (by omega), if_pos (by omega), if_pos (by omega)]
      exact ⟨rfl, rfl, Wd0 s⟩
    · rw [upA_ne _ _ _ (by omega), upA_ne _ _ _ (by omega), upA_ne _ _ _ (by omega)]
    · rw [upA_ne _ _ _ (by omega), upA_ne _ _ _ (by omega)]
    · rw [upA_ne _ _ _ (by omega), upA_ne _ _ _ (by omega)]
  · refine ⟨-3, A, B, G, A, B, G, ?_, ?_, hR.next⟩
    · rw [ck_0, sb, s_hasST n1 n4 n3 n6, b2s, if_pos (bz0 h)]
    · rw [ck_44, sb, s_canBegin n2 n5 n3 n6, b2s, if_pos (bz0 h)])

theorem lo_add : LO_add Inv := fun a v => LawI.mk (fx := f_X6_add NN 0 a v) (fm := f_X7_add NN 44 a v) (fun h => ok_X6_add NN h) (fun h => ok_X7_add NN h) (by
  intro z A B G fl hz hR
  obtain ⟨s, t, h1, hc, h3, h4, h5, h6, h7, h8⟩ := id hR
  obtain ⟨n1, n2, n3, n4, n5, n6, n7, n8⟩ := id h1
  unfold f_X6_add f_X7_add
  by_cases h : 0 ≤ a.toInt ∧ a.toInt < t
  · by_cases h2 : 0 ≤ v.toInt ∧ v.toInt < s
    · rcases hc with ⟨c1, c2⟩ | ⟨c1, c2, c3, c4, c5, c6⟩
      · refine ⟨-3, A, B, G, A, B, G, ?_, ?_, hR.next⟩
        · rw [ck_0, sb, s_isThingX n4 (by omega), b2s, if_neg (bz1 h), ck_0, sb, s_isSignX n1 (by omega), b2s, if_neg (bz1 h2), ck_0, sb, s_hasCode0 c1, b2s, if_pos rfl]
        · rw [ck_44, sb, s_isThingM n5 (by omega), b2s, if_neg (bz1 h), ck_44, sb, s_isSignM n2 (by omega), b2s, if_neg (bz1 h2), gx_44_4, sb, c2, if_pos rfl]
      · have hno : G 0 12 ≠ 1 → G 44 5 = 0 → ∃ r A1 B1 G1 A2 B2 G2, f_X6_add NN 0 a v (mem A B G fl) = some (r, mem A1 B1 G1 fl) ∧ f_X7_add NN 44 a v (mem A1 B1 G1 fl) = some (r, mem A2 B2 G2 fl) ∧ Rv (z + 1) A2 B2 G2 fl := by
          intro q1 q2
          unfold f_X6_add f_X7_add
          refine ⟨-3, A, B, G, A, B, G, ?_, ?_, hR.next⟩
          · rw [ck_0, sb, s_isThingX n4 (by omega), b2s, if_neg (bz1 h), ck_0, sb, s_isSignX n1 (by omega), b2s, if_neg (bz1 h2), ck_0, sb, s_hasCode1 c1 c3 n6, b2s, if_neg (show ¬ (1 : Int32) = 0 by decide), gx_0_12, sb, if_neg q1]
          · rw [ck_44, sb, s_isThingM n5 (by omega), b2s, if_neg (bz1 h), ck_44, sb, s_isSignM n2 (by omega), b2s, if_neg (bz1 h2), gx_44_4, sb, c2, if_neg (show ¬ (1 : Int32) = 0 by decide), gx_44_5, sb, q2, if_pos rfl]
        rcases c6 with ⟨m1, m2, m3⟩ | ⟨m1, m2, m3⟩ | ⟨m1, m2, m3, -, -, m6⟩
        · exact hno (by rw [m1]; decide) m2
        · obtain ⟨i, hi, rfl⟩ := ix_of h (by omega)
          obtain ⟨w, hw, rfl⟩ := ix_of h2 (by omega)
          obtain ⟨w1, w2, R, n, e1, e2, hR1, hn, hrz, hdg⟩ := c5 i hi
          by_cases hn24 : n < 24
          · refine ⟨nI (n + 1), upA A 15 (upd (A 15) i (nI (n + 1))), upA B 14 (vp_updL (B 14) i (lN (R + w * 4 ^ (23 - n)))), G, upA (upA A 15 (upd (A 15) i (nI (n + 1)))) 48 (upd (A 48) i (nI (n + 1))), upA (upA B 14 (vp_updL (B 14) i (lN (R + w * 4 ^ (23 - n))))) 47 (vp_updL (B 47) i (lN (R + w * 4 ^ (23 - n)))), G, ?_, ?_, s, t, h1.congr rfl rfl rfl rfl rfl rfl rfl rfl, ?_, h3.congr rfl rfl rfl rfl, h4.congr rfl rfl rfl rfl, h5.congr rfl rfl rfl rfl, h6.congr (fun p hp => rfl) rfl rfl (fun p hp => ?_) rfl (fun p hp => ?_), h7.congr rfl rfl rfl rfl rfl rfl rfl rfl, h8.congr rfl rfl⟩
            · rw [ck_0, sb, s_isThingX n4 (by omega), b2s, if_neg (bz1 h), ck_0, sb, s_isSignX n1 (by omega), b2s, if_neg (bz1 h2), ck_0, sb, s_hasCode1 c1 c3 n6, b2s, if_neg (show ¬ (1 : Int32) = 0 by decide), gx_0_12, sb, if_pos m1, gx_0_7, sb, gx_13_1, sb, ldI_n (ly15 fl) (by omega) (by decide), sb, e2, if_pos (show nI n < 24 from nI_lt (b := 24) hn24 (by decide))]
              have l1 : ldI (mem A B G fl) 15 (nI i) = some (nI n) := by rw [ldI_n (ly15 fl) (by omega) (by decide), e2]
              have l2 : ldJ (mem A B G fl) 14 (nI i) = some (lN R) := by rw [ldJ_n (ly14 fl) (by omega) (by decide), e1]
              simp only [sb, gx_13_0, gx_13_1, l1, l2, s_rowAndSign hn24 hrz (show w < 4 by omega), b2s, gx_0_7, ck_13, nI_1, s_giveWord (cd13 fl) (show i < 24 by omega)]
              rw [ldI_n (ly15 fl) (by omega) (by decide), sb]
              show some (upd (A 15) i (nI (n + 1)) i, _) = _
              rw [upd_eq]
            · rw [ck_44, sb, s_isThingM n5 (by omega), b2s, if_neg (bz1 h), ck_44, sb, s_isSignM n2 (by omega), b2s, if_neg (bz1 h2), gx_44_4, sb, c2, if_neg (show ¬ (1 : Int32) = 0 by decide), gx_44_5, sb, m2, if_neg (show ¬ (1 : Int32) = 0 by decide), gx_44_8, sb, ldI_n (ly48 fl) (by omega) (by decide), sb]
              have ea : upA A 15 (upd (A 15) i (nI (n + 1))) 48 = A 48 := rfl
              have eb : upA B 14 (vp_updL (B 14) i (lN (R + w * 4 ^ (23 - n)))) 47 = B 47 := rfl
              rw [ea, w2, e2, if_neg (show ¬ nI n = 24 from fun e => by have := (nI_eq (b := 24) (by omega) (by decide)).mp e; omega)]
              have l1 : ldI (mem (upA A 15 (upd (A 15) i (nI (n + 1)))) (upA B 14 (vp_updL (B 14) i (lN (R + w * 4 ^ (23 - n))))) G fl) 48 (nI i) = some (nI n) := by rw [ldI_n (ly48 fl) (by omega) (by decide), ea, w2, e2]
              have l2 : ldJ (mem (upA A 15 (upd (A 15) i (nI (n + 1)))) (upA B 14 (vp_updL (B 14) i (lN (R + w * 4 ^ (23 - n))))) G fl) 47 (nI i) = some (lN R) := by rw [ldJ_n (ly47 fl) (by omega) (by decide), eb, w1, e1]
              simp only [sb, gx_44_7, gx_44_8, l1, l2, s_with hn24 hrz (show w < 4 by omega), b2s]
              rw [stJ_n (ly47 fl) (by omega) (by decide)]
              simp only [sb, gx_44_8]
              rw [ldI_n (ly48 fl) (by omega) (by decide)]
              simp only [sb]
              rw [stI_n (ly48 fl) (by omega) (by decide)]
              simp only [sb, gx_44_8]
              rw [ldI_n (ly48 fl) (by omega) (by decide), sb, ea, eb, w2, e2, nI_1]
              show some (upd (A 48) i (nI (n + 1)) i, _) = _
              rw [upd_eq]
            · refine Or.inr ⟨c1, c2, c3, c4, fun j hj => ?_, Or.inr (Or.inl ⟨m1, m2, m3⟩)⟩
              show vp_updL (B 47) i _ j = vp_updL (B 14) i _ j ∧ upd (A 48) i _ j = upd (A 15) i _ j ∧ Wd s (vp_updL (B 14) i _ j) (upd (A 15) i _ j)
              by_cases e : j = i
              · subst e
                rw [vpL_eq, vpL_eq, upd_eq, upd_eq]
                refine ⟨rfl, rfl, R + w * 4 ^ (23 - n), n + 1, rfl, rfl, row_add_lt hn24 hR1 hrz (by omega), by omega, rz_add hn24 hrz, fun k hk => ?_⟩
                by_cases ek : k = n
                · subst ek
                  rw [dg_add_eq hn24 hrz (by omega)]
                  exact hw
                · rw [dg_add_lo hn24 hrz (by omega) (by omega)]
                  exact hdg k (by omega)
              · rw [vpL_ne _ _ _ e, vpL_ne _ _ _ e, upd_ne _ _ _ e, upd_ne _ _ _ e]
                exact c5 j hj
            · rw [upA_ne _ _ _ (by omega), upA_ne _ _ _ (by omega)]
            · rw [upA_ne _ _ _ (by omega), upA_ne _ _ _ (by omega)]
          · have hn2 : n = 24 := by omega
            refine ⟨-4, A, B, G, A, B, G, ?_, ?_, hR.next⟩
            · rw [ck_0, sb, s_isThingX n4 (by omega), b2s, if_neg (bz1 h), ck_0, sb, s_isSignX n1 (by omega), b2s, if_neg (bz1 h2), ck_0, sb, s_hasCode1 c1 c3 n6, b2s, if_neg (show ¬ (1 : Int32) = 0 by decide), gx_0_12, sb, if_pos m1, gx_0_7, sb, gx_13_1, sb, ldI_n (ly15 fl) (by omega) (by decide), sb, e2, if_neg (show ¬ nI n < 24 from nI_nlt (b := 24) (by omega) (by omega))]
            · rw [ck_44, sb, s_isThingM n5 (by omega), b2s, if_neg (bz1 h), ck_44, sb, s_isSignM n2 (by omega), b2s, if_neg (bz1 h2), gx_44_4, sb, c2, if_neg (show ¬ (1 : Int32) = 0 by decide), gx_44_5, sb, m2, if_neg (show ¬ (1 : Int32) = 0 by decide), gx_44_8, sb, ldI_n (ly48 fl) (by omega) (by decide), sb, w2, e2, if_pos (show nI n = 24 by rw [hn2]; rfl)]
        · exact hno (by rw [m1]; decide) m2
    · refine ⟨-1, A, B, G, A, B, G, ?_, ?_, hR.next⟩
      · rw [ck_0, sb, s_isThingX n4 (by omega), b2s, if_neg (bz1 h), ck_0, sb, s_isSignX n1 (by omega), b2s, if_pos (bz0 h2)]
      · rw [ck_44, sb, s_isThingM n5 (by omega), b2s, if_neg (bz1 h), ck_44, sb, s_isSignM n2 (by omega), b2s, if_pos (bz0 h2)]
  · refine ⟨-1, A, B, G, A, B, G, ?_, ?_, hR.next⟩
    · rw [ck_0, sb, s_isThingX n4 (by omega), b2s, if_pos (bz0 h)]
    · rw [ck_44, sb, s_isThingM n5 (by omega), b2s, if_pos (bz0 h)])
