/-! build: what is asked first -/
def CanK (pr : Nat → Nat) (s t : Nat) (a : Int32) : Prop := if a = 0 then MayF pr s t else (2 ≤ s ∧ 0 < t ∧ (a = 1 → ∀ u, u < s → pr u = 1))
section Bk
variable {A : Nat → Nat → Int32} {B : Nat → Nat → Int64} {G : Nat → Nat → Int32} {fl : Nat → Bool} {N s t : Nat} {pr : Nat → Nat}
theorem s_canK (hN : 10 < N) (h1 : G 0 10 = nI s) (h2 : G 0 11 = nI t) (hs : s ≤ 4) (ht : t ≤ 24) (hp : ∀ u, u < s → A 1 u = nI (pr u) ∧ 1 ≤ pr u ∧ pr u ≤ 9) (a : Int32) : ∃ v, f_X6_canBuild N 0 a (mem A B G fl) = some (v, mem A B G fl) ∧ (v = 0 ↔ ¬ CanK pr s t a) := by
  by_cases a0 : a = 0
  · subst a0
    unfold CanK
    rw [if_pos rfl]
    exact s_canX hN h1 h2 hs ht (fun u hu => ⟨(hp u hu).1, (hp u hu).2.2⟩)
  · unfold f_X6_canBuild CanK
    rw [ck_0, sb, s_hasST2 h1 h2 hs ht, b2s, show (if a = 0 then MayF pr s t else (2 ≤ s ∧ 0 < t ∧ (a = 1 → ∀ u, u < s → pr u = 1))) = (2 ≤ s ∧ 0 < t ∧ (a = 1 → ∀ u, u < s → pr u = 1)) from if_neg a0]
    by_cases hst : 2 ≤ s ∧ 0 < t
    · rw [if_neg (bz1 hst), if_neg a0]
      by_cases a1 : a = 1
      · rw [if_pos a1, ck_0, sb, s_dear hN h1 hs (fun u hu => ⟨(hp u hu).1, (hp u hu).2.2⟩), b2s]
        have h9 : deP pr s ≤ 9 := (deP_le s).mpr (fun v hv => (hp v hv).2.2)
        have hge : 1 ≤ deP pr s := by
          have := (deP_le (pr := pr) s).mp (Nat.le_refl (deP pr s)) 0 (by omega)
          have := (hp 0 (by omega)).2.1
          omega
        by_cases hd : deP pr s = 1
        · rw [if_pos (show nI (deP pr s) = (1 : Int32) by rw [hd]; rfl)]
          refine ⟨1, rfl, fun q => absurd q (by decide), fun q => absurd ⟨hst.1, hst.2, fun _ u hu => ?_⟩ q⟩
          have := (deP_le (pr := pr) s).mp (Nat.le_of_eq hd) u hu
          have := (hp u hu).2.1
          omega
        · rw [if_neg (show ¬ nI (deP pr s) = (1 : Int32) from fun q => hd ((nI_eq (b := 1) (by omega) (by decide)).mp q))]
          refine ⟨0, rfl, fun _ q => hd ?_, fun _ => rfl⟩
          have := (deP_le (pr := pr) (c := 1) s).mpr (fun u hu => by have := q.2.2 a1 u hu; omega)
          omega
      · rw [if_neg a1]
        exact ⟨1, rfl, fun q => absurd q (by decide), fun q => absurd ⟨hst.1, hst.2, fun h => absurd h a1⟩ q⟩
    · rw [if_pos (bz0 hst)]
      exact ⟨0, rfl, fun _ q => hst ⟨q.1, q.2.1⟩, fun _ => rfl⟩
theorem s_bL65 (g1 : G 44 1 = nI s) (hs : s ≤ 4) (hp : ∀ u, u < s → A 45 u = nI (pr u) ∧ 1 ≤ pr u ∧ pr u ≤ 9) (a x : Int32) : ∀ (d u m : Nat) (v : Int32), u + d = s → d < m → ∃ v', f_X7_build_L65 N m 44 a x v (nI u) (mem A B G fl) = f_X7_build_K106 N 44 a x v' (mem A B G fl) ∧ (v' = 0 ↔ v = 0 ∨ (a = 1 ∧ ¬ ∀ w, u ≤ w → w < s → pr w = 1)) := by
  intro d
  induction d with
  | zero =>
    intro u m v h hm
    obtain ⟨m, rfl⟩ : ∃ j, m = j + 1 := ⟨m - 1, by omega⟩
    refine ⟨v, ?_, fun q => Or.inl q, fun q => ?_⟩
    · rw [f_X7_build_L65, gx_44_1, sb, g1, if_pos (nI_le (by omega) (by omega))]
    · rcases q with q | ⟨-, q⟩
      · exact q
      · exact absurd (fun w h1 h2 => by omega) q
  | succ d ih =>
    intro u m v h hm
    obtain ⟨m, rfl⟩ : ∃ j, m = j + 1 := ⟨m - 1, by omega⟩
    rw [f_X7_build_L65, gx_44_1, sb, g1, if_neg (nI_ge (by omega) (by omega))]
    unfold f_X7_build_K94 f_X7_build_K98 f_X7_build_K99
    rw [nI_1]
    by_cases hv : v = 0
    · rw [if_pos hv]
      obtain ⟨v', e1, e2⟩ := ih (u + 1) m 0 (by omega) (by omega)
      exact ⟨v', e1, fun _ => Or.inl hv, fun _ => e2.mpr (Or.inl rfl)⟩
    · rw [if_neg hv]
      by_cases a1 : a = 1
      · rw [if_pos a1, gx_44_0, sb, ldI_n (ly45 fl) (by omega) (by decide), sb, (hp u (by omega)).1]
        by_cases h1 : pr u = 1
        · rw [if_pos (show nI (pr u) = (1 : Int32) by rw [h1]; rfl)]
          obtain ⟨v', e1, e2⟩ := ih (u + 1) m 1 (by omega) (by omega)
          refine ⟨v', e1, fun q => ?_, fun q => ?_⟩
          · rcases e2.mp q with q | ⟨q1, q2⟩
            · exact absurd q (by decide)
            · exact Or.inr ⟨q1, fun q3 => q2 (fun w h1 h2 => q3 w (by omega) h2)⟩
          · rcases q with q | ⟨q1, q2⟩
            · exact absurd q hv
            · refine e2.mpr (Or.inr ⟨q1, fun q3 => q2 (fun w h2 h3 => ?_)⟩)
              by_cases e : w = u
              · rw [e]; exact h1
              · exact q3 w (by omega) h3
        · rw [if_neg (show ¬ nI (pr u) = (1 : Int32) from fun q => h1 ((nI_eq (b := 1) (by have := (hp u (by omega)).2.2; omega) (by decide)).mp q))]
          obtain ⟨v', e1, e2⟩ := ih (u + 1) m 0 (by omega) (by omega)
          exact ⟨v', e1, fun _ => Or.inr ⟨a1, fun q => h1 (q u (Nat.le_refl _) (by omega))⟩, fun _ => e2.mpr (Or.inl rfl)⟩
      · rw [if_neg a1]
        obtain ⟨v', e1, e2⟩ := ih (u + 1) m 1 (by omega) (by omega)
        refine ⟨v', e1, fun q => ?_, fun q => ?_⟩
        · rcases e2.mp q with q | ⟨q1, q2⟩
          · exact absurd q (by decide)
          · exact absurd q1 a1
        · rcases q with q | ⟨q1, -⟩
          · exact absurd q hv
          · exact absurd q1 a1
/-- the reference asks the same -/
theorem s_K46 (hN : 10 < N) (g1 : G 44 1 = nI s) (g3 : G 44 3 = nI t) (hs : s ≤ 4) (ht : t ≤ 24) (hp : ∀ u, u < s → A 45 u = nI (pr u) ∧ 1 ≤ pr u ∧ pr u ≤ 9) (a x : Int32) : ∃ v, f_X7_build_K46 N 44 a x (mem A B G fl) = f_X7_build_K106 N 44 a x v (mem A B G fl) ∧ (v = 0 ↔ ¬ CanK pr s t a) := by
  unfold f_X7_build_K46 CanK f_X7_build_K61
  by_cases a0 : a = 0
  · rw [if_pos a0, if_pos a0, ck_44, sb]
    obtain ⟨v, e1, e2⟩ := s_mayM (A := A) (B := B) (G := G) (fl := fl) hN g1 g3 hs ht (fun u hu => ⟨(hp u hu).1, (hp u hu).2.2⟩)
    rw [e1, b2s, show (0 : Int32) = nI 0 from rfl]
    obtain ⟨v', e3, e4⟩ := s_bL65 (A := A) (B := B) (G := G) (fl := fl) (N := N) g1 hs hp a x s 0 N v (by omega) (by omega)
    refine ⟨v', e3, fun q => ?_, fun q => e4.mpr (Or.inl (e2.mpr q))⟩
    rcases e4.mp q with q | ⟨q1, -⟩
    · exact e2.mp q
    · rw [a0] at q1; exact absurd q1 (by decide)
  · rw [if_neg a0, if_neg a0, ck_44, sb, s_canBegin g1 g3 hs ht, b2s, show (0 : Int32) = nI 0 from rfl]
    obtain ⟨v', e3, e4⟩ := s_bL65 (A := A) (B := B) (G := G) (fl := fl) (N := N) g1 hs hp a x s 0 N (bz (2 ≤ s ∧ 0 < t)) (by omega) (by omega)
    refine ⟨v', e3, fun q => ?_, fun q => ?_⟩
    · rcases e4.mp q with q | ⟨q1, q2⟩
      · intro h
        exact bz1 ⟨h.1, h.2.1⟩ q
      · exact fun h => q2 (fun w _ hw => h.2.2 q1 w hw)
    · refine e4.mpr ?_
      by_cases hst : 2 ≤ s ∧ 0 < t
      · by_cases h1 : a = 1
        · exact Or.inr ⟨h1, fun h => q ⟨hst.1, hst.2, fun _ u hu => h u (Nat.zero_le _) hu⟩⟩
        · exact absurd ⟨hst.1, hst.2, fun h => absurd h h1⟩ q
      · exact Or.inl (bz0 hst)
theorem s_bL122 (g3 : G 44 3 = nI t) (ht : t ≤ 24) (a x : Int32) : ∀ (d i m : Nat) (A : Nat → Nat → Int32) (B : Nat → Nat → Int64), i + d = t → d < m → ∃ A' B', f_X7_build_L122 N m 44 a x (nI i) (mem A B G fl) = f_X7_build_K165 N 44 a x (mem A' B' G fl) ∧ (∀ k, k ≠ 67 → A' k = A k) ∧ (∀ k, k ≠ 66 → B' k = B k) := by
  intro d
  induction d with
  | zero =>
    intro i m A B h hm
    obtain ⟨m, rfl⟩ : ∃ j, m = j + 1 := ⟨m - 1, by omega⟩
    refine ⟨A, B, ?_, fun _ _ => rfl, fun _ _ => rfl⟩
    rw [f_X7_build_L122, gx_44_3, sb, g3, if_pos (nI_le (by omega) (by omega))]
  | succ d ih =>
    intro i m A B h hm
    obtain ⟨m, rfl⟩ : ∃ j, m = j + 1 := ⟨m - 1, by omega⟩
    obtain ⟨A', B', e1, e2, e3⟩ := ih (i + 1) m (upA A 67 (upd (A 67) i (A 48 i))) (upA B 66 (vp_updL (B 66) i (B 47 i))) (by omega) (by omega)
    refine ⟨A', B', ?_, fun k hk => by rw [e2 k hk, upA_ne _ _ _ hk], fun k hk => by rw [e3 k hk, upA_ne _ _ _ hk]⟩
    rw [f_X7_build_L122, gx_44_3, sb, g3, if_neg (nI_ge (by omega) (by omega)), gx_44_34, sb, gx_44_7, sb, ldJ_n (ly47 fl) (by omega) (by decide), sb, stJ_n (ly66 fl) (by omega) (by decide), sb, gx_44_35, sb, gx_44_8, sb, ldI_n (ly48 fl) (by omega) (by decide), sb, stI_n (ly67 fl) (by omega) (by decide), sb, nI_1]
    exact e1
end Bk
