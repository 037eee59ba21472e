/-! keep, back -/
section Kp
variable {G : Nat → Nat → Int32} {fl : Nat → Bool} {N p t : Nat}
theorem x24 (p i : Nat) : (24 : Int32) * nI p + nI i = nI (24 * p + i) := by rw [show (24 : Int32) = nI 24 from rfl, pk_mul, nI_add]
/-- f with what g holds from o + i on to o + t -/
def pst {α : Type} (f g : Nat → α) (o i t : Nat) : Nat → α := fun j => if o + i ≤ j ∧ j < o + t then g (j - o) else f j
theorem pst_end {α : Type} (f g : Nat → α) (o i : Nat) : pst f g o i i = f := by funext j; unfold pst; rw [if_neg (by omega)]
theorem pst_in {α : Type} (f g : Nat → α) {o t j : Nat} (h : j < t) : pst f g o 0 t (o + j) = g j := by unfold pst; rw [if_pos (by omega)]; congr 1; omega
theorem pst_out {α : Type} (f g : Nat → α) {o t j : Nat} (h : j < o ∨ o + t ≤ j) : pst f g o 0 t j = f j := by unfold pst; rw [if_neg (by omega)]
theorem pst_stepI (f g : Nat → Int32) {o i t : Nat} (h : i < t) : pst (upd f (o + i) (g i)) g o (i + 1) t = pst f g o i t := by
  funext j
  unfold pst
  by_cases e : j = o + i
  · subst e
    rw [if_neg (by omega), if_pos (by omega), upd_eq]
    congr 1
    omega
  · rw [upd_ne _ _ _ e]
    by_cases e3 : o + (i + 1) ≤ j ∧ j < o + t
    · rw [if_pos e3, if_pos (by omega)]
    · rw [if_neg e3, if_neg (by omega)]
theorem pst_stepJ (f g : Nat → Int64) {o i t : Nat} (h : i < t) : pst (vp_updL f (o + i) (g i)) g o (i + 1) t = pst f g o i t := by
  funext j
  unfold pst
  by_cases e : j = o + i
  · subst e
    rw [if_neg (by omega), if_pos (by omega), vpL_eq]
    congr 1
    omega
  · rw [vpL_ne _ _ _ e]
    by_cases e3 : o + (i + 1) ≤ j ∧ j < o + t
    · rw [if_pos e3, if_pos (by omega)]
    · rw [if_neg e3, if_neg (by omega)]
theorem upA_twice {α : Type} (F : Nat → α) (k : Nat) (f g : α) : upA (upA F k f) k g = upA F k g := by
  funext a
  by_cases e : a = k
  · subst e; rw [upA_same, upA_same]
  · rw [upA_ne _ _ _ e, upA_ne _ _ _ e, upA_ne _ _ _ e]
theorem upA_self {α : Type} (F : Nat → α) (k : Nat) : upA F k (F k) = F := by
  funext a
  by_cases e : a = k
  · subst e; rw [upA_same]
  · rw [upA_ne _ _ _ e]
theorem s_keepM (hp : p < 8) (h2 : G 44 3 = nI t) (ht : t ≤ 24) : ∀ (d i m : Nat) (A : Nat → Nat → Int32) (B : Nat → Nat → Int64), i + d = t → d < m → f_X7_keep_L26 N m 44 (nI p) (nI i) (mem A B G fl) = some (1, mem (upA (upA A 80 (pst (A 80) (A 48) (24 * p) i t)) 81 (upd (A 81) p (nI t))) (upA B 79 (pst (B 79) (B 47) (24 * p) i t)) G fl) := by
  intro d
  induction d with
  | zero =>
    intro i m A B h1 hm
    obtain ⟨m, rfl⟩ : ∃ j, m = j + 1 := ⟨m - 1, by omega⟩
    have hit : i = t := by omega
    subst hit
    rw [f_X7_keep_L26, gx_44_3, sb, h2, if_pos (nI_le (by omega) (by omega)), gx_44_56, sb, sb, stI_n (ly81 fl) hp (by decide), sb, pst_end, pst_end, upA_self, upA_self]
  | succ d ih =>
    intro i m A B h1 hm
    obtain ⟨m, rfl⟩ : ∃ j, m = j + 1 := ⟨m - 1, by omega⟩
    rw [f_X7_keep_L26, gx_44_3, sb, h2, if_neg (nI_ge (by omega) (by omega)), gx_44_54, sb, gx_44_7, sb, ldJ_n (ly47 fl) (by omega) (by decide), sb, x24, stJ_n (ly79 fl) (by omega) (by decide), sb, gx_44_55, sb, gx_44_8, sb, ldI_n (ly48 fl) (by omega) (by decide), sb, stI_n (ly80 fl) (by omega) (by decide), sb, nI_1, ih (i + 1) m _ _ (by omega) (by omega)]
    have e1 : upA A 80 (upd (A 80) (24 * p + i) (A 48 i)) 48 = A 48 := rfl
    have e2 : upA B 79 (vp_updL (B 79) (24 * p + i) (B 47 i)) 47 = B 47 := rfl
    have e3 : upA A 80 (upd (A 80) (24 * p + i) (A 48 i)) 81 = A 81 := rfl
    rw [e1, e2, e3, upA_same, upA_same, pst_stepI _ _ (by omega), pst_stepJ _ _ (by omega), upA_twice, upA_twice]
theorem s_backM (hp : p < 8) (h2 : G 44 3 = nI t) (ht : t ≤ 24) : ∀ (d i m : Nat) (A : Nat → Nat → Int32) (B : Nat → Nat → Int64), i + d = t → d < m → f_X7_back_L41 N m 44 (nI p) (nI i) (mem A B G fl) = some (1, mem (upA A 48 (pst (A 48) (fun j => A 80 (24 * p + j)) 0 i t)) (upA B 47 (pst (B 47) (fun j => B 79 (24 * p + j)) 0 i t)) (upA G 44 (cmG (G 44))) fl) := by
  intro d
  induction d with
  | zero =>
    intro i m A B h1 hm
    obtain ⟨m, rfl⟩ : ∃ j, m = j + 1 := ⟨m - 1, by omega⟩
    have hit : i = t := by omega
    subst hit
    rw [f_X7_back_L41, gx_44_3, sb, h2, if_pos (nI_le (by omega) (by omega)), ck_44, sb, s_comes, sb, pst_end, pst_end, upA_self, upA_self]
  | succ d ih =>
    intro i m A B h1 hm
    obtain ⟨m, rfl⟩ : ∃ j, m = j + 1 := ⟨m - 1, by omega⟩
    rw [f_X7_back_L41, gx_44_3, sb, h2, if_neg (nI_ge (by omega) (by omega)), gx_44_7, sb, gx_44_54, sb, x24, ldJ_n (ly79 fl) (by omega) (by decide), sb, stJ_n (ly47 fl) (by omega) (by decide), sb, gx_44_8, sb, gx_44_55, sb, ldI_n (ly80 fl) (by omega) (by decide), sb, stI_n (ly48 fl) (by omega) (by decide), sb, nI_1, ih (i + 1) m _ _ (by omega) (by omega)]
    have e1 : upA A 48 (upd (A 48) i (A 80 (24 * p + i))) 80 = A 80 := rfl
    have e2 : upA B 47 (vp_updL (B 47) i (B 79 (24 * p + i))) 79 = B 79 := rfl
    have q1 := pst_stepI (A 48) (fun j => A 80 (24 * p + j)) (o := 0) (i := i) (t := t) (by omega)
    have q2 := pst_stepJ (B 47) (fun j => B 79 (24 * p + j)) (o := 0) (i := i) (t := t) (by omega)
    rw [Nat.zero_add] at q1 q2
    rw [e1, e2, upA_same, upA_same, q1, q2, upA_twice, upA_twice]
end Kp
theorem cpy_in {α : Type} (f g : Nat → α) {j : Nat} (h : j < 24) : va_cpy f g 0 0 24 j = f j := by rw [pk_cpy_in (by omega) (by omega)]; congr 1; omega
theorem lo_keep : LO_keep Inv := fun a => LawI.mk (fx := f_X6_keep NN 0 a) (fm := f_X7_keep NN 44 a) (fun h => ok_X6_keep NN h) (fun h => ok_X7_keep NN h) (by
  intro z A B G fl hz hR
  obtain ⟨s, t, h1, hc, h3, h4, h5, h6, h7, h8⟩ := id hR
  obtain ⟨n1, n2, n3, n4, n5, n6, n7, n8⟩ := id h1
  unfold f_X6_keep f_X7_keep
  by_cases h : 0 ≤ a.toInt ∧ a.toInt < (8 : Nat)
  · obtain ⟨p, hp, rfl⟩ := ix_of h (by decide)
    rcases id hc with ⟨c1, c2⟩ | ⟨c1, c2, c3, c4, c5, c6⟩
    · refine ⟨-3, A, B, G, A, B, G, ?_, ?_, hR.next⟩
      · rw [s_isPlace, b2s, if_neg (bz1 h), ck_0, sb, s_hasCode0 c1, b2s, if_pos rfl]
      · rw [s_in07, b2s, if_neg (bz1 h), gx_44_4, sb, c2, if_pos rfl]
    · generalize hA1 : upA A (20 + 3 * p + 2) (va_cpy (A 15) (A (20 + 3 * p + 2)) 0 0 24) = A1
      generalize hB1 : upA B (20 + 3 * p + 1) (va_cpy (B 14) (B (20 + 3 * p + 1)) 0 0 24) = B1
      generalize hG1 : upA G (20 + 3 * p) (upd (G (20 + 3 * p)) 2 (G 13 2)) = G1
      have qA : ∀ k, k ≠ 22 + 3 * p → A1 k = A k := fun k hk => by rw [← hA1, upA_ne _ _ _ (by omega)]
      have qB : ∀ k, k ≠ 21 + 3 * p → B1 k = B k := fun k hk => by rw [← hB1, upA_ne _ _ _ (by omega)]
      have qG : ∀ k, k ≠ 20 + 3 * p → G1 k = G k := fun k hk => by rw [← hG1, upA_ne _ _ _ (by omega)]
      have rA : ∀ j, j < 24 → A1 (22 + 3 * p) j = A 15 j := fun j hj => by rw [← hA1, show 22 + 3 * p = 20 + 3 * p + 2 by omega, upA_same, cpy_in _ _ hj]
      have rB : ∀ j, j < 24 → B1 (21 + 3 * p) j = B 14 j := fun j hj => by rw [← hB1, show 21 + 3 * p = 20 + 3 * p + 1 by omega, upA_same, cpy_in _ _ hj]
      have rG : G1 (20 + 3 * p) 2 = nI t := by rw [← hG1, upA_same, upd_eq, c1]
      generalize hA2 : upA (upA A1 80 (pst (A1 80) (A1 48) (24 * p) 0 t)) 81 (upd (A1 81) p (nI t)) = A2
      generalize hB2 : upA B1 79 (pst (B1 79) (B1 47) (24 * p) 0 t) = B2
      have uA : ∀ k, k ≠ 80 → k ≠ 81 → A2 k = A1 k := fun k hk hk2 => by rw [← hA2, upA_ne _ _ _ hk2, upA_ne _ _ _ hk]
      have uB : ∀ k, k ≠ 79 → B2 k = B1 k := fun k hk => by rw [← hB2, upA_ne _ _ _ hk]
      have v80 : A2 80 = pst (A 80) (A 48) (24 * p) 0 t := by rw [← hA2, upA_ne _ _ _ (by decide), upA_same, qA 80 (by omega), qA 48 (by omega)]
      have v81 : A2 81 = upd (A 81) p (nI t) := by rw [← hA2, upA_same, qA 81 (by omega)]
      have v79 : B2 79 = pst (B 79) (B 47) (24 * p) 0 t := by rw [← hB2, upA_same, qB 79 (by omega), qB 47 (by omega)]
      refine ⟨1, A1, B1, G1, A2, B2, G1, ?_, ?_, s, t, h1.congr ?_ ?_ ?_ ?_ ?_ ?_ ?_ ?_, hc.congr ?_ ?_ ?_ ?_ ?_ ?_ ?_ ?_ ?_ ?_ ?_ ?_, h3.congr ?_ ?_ ?_ ?_, h4.congr ?_ ?_ ?_ ?_, h5.congr ?_ ?_ ?_ ?_, ?_, h7.congr ?_ ?_ ?_ ?_ ?_ ?_ ?_ ?_, h8.congr ?_ ?_⟩
      · rw [s_isPlace, b2s, if_neg (bz1 h), ck_0, sb, s_hasCode1 c1 c3 n6, b2s, if_neg (show ¬ (1 : Int32) = 0 by decide), gx_0_9, sb, ldA8 hp, sb, gx_0_7, sb, chk_mem (cdP fl hp).1, sb, s_take (cdP fl hp) (cd13 fl) (by omega), sb, hA1, hB1, hG1]
      · rw [s_in07, b2s, if_neg (bz1 h), gx_44_4, sb, qG 44 (by omega), c2, if_neg (show ¬ (1 : Int32) = 0 by decide), show (0 : Int32) = nI 0 from rfl, s_keepM hp (by rw [qG 44 (by omega)]; exact n5) n6 t 0 NN A1 B1 (by omega) (by show _ < 300000; omega), hA2, hB2]
      all_goals first
        | (rw [qG _ (by omega)]; done)
        | (rw [uA _ (by decide) (by decide), qA _ (by omega)]; done)
        | (rw [uB _ (by decide), qB _ (by omega)]; done)
        | skip
      intro q hq
      by_cases e : q = p
      · subst e
        refine ⟨t, Nat.le_refl _, rG, by rw [v81, upd_eq], fun _ => c4, fun i hi => ?_⟩
        rw [v79, v80, uA _ (by omega) (by omega), uB _ (by omega), rA i (by omega), rB i (by omega), pst_in _ _ hi, pst_in _ _ hi]
        exact c5 i hi
      · obtain ⟨n, p1, p2, p3, p4, p5⟩ := h6 q hq
        refine ⟨n, p1, by rw [qG _ (by omega)]; exact p2, by rw [v81, upd_ne _ _ _ e]; exact p3, p4, fun i hi => ?_⟩
        rw [v79, v80, uA _ (by omega) (by omega), uB _ (by omega), qA _ (by omega), qB _ (by omega), pst_out _ _ (by omega), pst_out _ _ (by omega)]
        exact p5 i hi
  · refine ⟨-1, A, B, G, A, B, G, ?_, ?_, hR.next⟩
    · rw [s_isPlace, b2s, if_pos (bz0 h)]
    · rw [s_in07, b2s, if_pos (bz0 h)])
