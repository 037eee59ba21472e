/-! hear -/
theorem neg3q (q : Nat) : -((-nI q) - 1) - (1 : Int32) = nI q := by
  rw [Int32.neg_sub, Int32.sub_neg, Int32.add_comm, Int32.add_sub_cancel]
section Hr
variable {l : Nat → Nat} {L : Nat} {F : (Nat → Nat) → Nat → Nat × Nat} {s t : Nat} {pr : Nat → Nat} {fl : Nat → Bool}
def hrAll (l : Nat → Nat) (L : Nat) (F : (Nat → Nat) → Nat → Nat × Nat) (t : Nat) : Nat → Nat → Nat → (Nat → Nat) → (Nat → Int32) → (Nat → Int32) × Nat × Nat × Option Nat
  | 0, p, c, _, it => (it, c, p, none)
  | f + 1, p, c, C, it => if L ≤ p then (it, c, p, none) else match rdF (rwF l p (min 24 (L - p))) (min 24 (L - p)) (fun i => (F C i).1) (fun i => (F C i).2) t with
    | some j => hrAll l L F t f (p + (F C j).2) (c + 1) (fun i => if i = j then C i + 1 else C i) (upd it c (nI j))
    | none => (it, c, p, some (p + fmx (rwF l p (min 24 (L - p))) (min 24 (L - p)) (fun i => (F C i).1) (fun i => (F C i).2) t 0 0))
theorem hrAll_S (f p c : Nat) (C : Nat → Nat) (it : Nat → Int32) : hrAll l L F t (f + 1) p c C it = if L ≤ p then (it, c, p, none) else match rdF (rwF l p (min 24 (L - p))) (min 24 (L - p)) (fun i => (F C i).1) (fun i => (F C i).2) t with
    | some j => hrAll l L F t f (p + (F C j).2) (c + 1) (fun i => if i = j then C i + 1 else C i) (upd it c (nI j))
    | none => (it, c, p, some (p + fmx (rwF l p (min 24 (L - p))) (min 24 (L - p)) (fun i => (F C i).1) (fun i => (F C i).2) t 0 0)) := rfl
theorem hrAll_cg : ∀ (f p c : Nat) (C : Nat → Nat) (it it' : Nat → Int32), (∀ j, j < c → it j = it' j) → (hrAll l L F t f p c C it).2 = (hrAll l L F t f p c C it').2 ∧ ∀ j, j < (hrAll l L F t f p c C it).2.1 → (hrAll l L F t f p c C it).1 j = (hrAll l L F t f p c C it').1 j := by
  intro f
  induction f with
  | zero => intro p c C it it' h; exact ⟨rfl, h⟩
  | succ f ih =>
    intro p c C it it' h
    rw [hrAll_S, hrAll_S]
    by_cases hLp : L ≤ p
    · rw [if_pos hLp, if_pos hLp]
      exact ⟨rfl, h⟩
    · rw [if_neg hLp, if_neg hLp]
      cases hr : rdF (rwF l p (min 24 (L - p))) (min 24 (L - p)) (fun i => (F C i).1) (fun i => (F C i).2) t with
      | none => exact ⟨rfl, h⟩
      | some j =>
        refine ih (p + (F C j).2) (c + 1) _ _ _ (fun k hk => ?_)
        by_cases e : k = c
        · subst e; rw [upd_eq, upd_eq]
        · rw [upd_ne _ _ _ e, upd_ne _ _ _ e]; exact h k (by omega)
/-- what the words keep to -/
def FOk (pr : Nat → Nat) (s t : Nat) (F : (Nat → Nat) → Nat → Nat × Nat) : Prop := ∀ C : Nat → Nat, (∀ i, i < t → 1 ≤ C i ∧ C i ≤ 1000000) → (∀ i, i < t → Wv s (F C i)) ∧ PF (fun i => (F C i).1) (fun i => (F C i).2) t ∧ LmSp pr C s t 0 True (F C) ∧ RfSp pr C s t 0 True (F C)
theorem s_hrX (f1 : fl 1 = true) (hF : FOk pr s t F) (ht : t ≤ 24) (hL : L ≤ 200) : ∀ (f c p m : Nat) (A : Nat → Nat → Int32) (B : Nat → Nat → Int64) (G : Nat → Nat → Int32) (C : Nat → Nat) (sp : Nat), c + f = 201 → f < m → c ≤ p → c ≤ 200 → p ≤ L → G 0 10 = nI s → G 0 11 = nI t → (∀ u, u < s → A 1 u = nI (pr u)) → (∀ i, i < t → A 5 i = nI (C i) ∧ 1 ≤ C i ∧ C i ≤ c + 1) → G 6 2 = nI L → (∀ j, j < L → A 7 j = nI (l j) ∧ l j < 4) → G 6 4 = nI p → G 6 3 = nI c → G 82 7 = nI sp → (∀ j, j < 7200 → ∃ q, q ≤ sp ∧ A 84 j = nI q) → sp + f < 2 ^ 30 →
    ∃ A' B' G', f_X6_hear_A_L28 NN m 0 (nI c) (mem A B G fl) = some (rdV (hrAll l L F t f p c C (A 8)), mem A' B' G' fl) ∧ A' 8 = (hrAll l L F t f p c C (A 8)).1 ∧ (∀ k, k ≠ 5 → k ≠ 8 → k ≠ 18 → k ≠ 84 → k ≠ 86 → k ≠ 87 → k ≠ 88 → k ≠ 91 → k ≠ 92 → A' k = A k) ∧ (∀ k, k ≠ 17 → k ≠ 83 → k ≠ 85 → k ≠ 90 → B' k = B k) ∧ (∀ k, k ≠ 6 → k ≠ 16 → k ≠ 82 → k ≠ 89 → G' k = G k) ∧ (∀ g, g ≠ 3 → g ≠ 4 → G' 6 g = G 6 g) ∧ G' 6 3 = nI (hrAll l L F t f p c C (A 8)).2.1 ∧ (hrAll l L F t f p c C (A 8)).2.1 ≤ 200 ∧ (∃ sp', sp' ≤ sp + f ∧ G' 82 7 = nI sp' ∧ ∀ j, j < 7200 → ∃ q, q ≤ sp' ∧ A' 84 j = nI q) := by
  intro f
  induction f with
  | zero => intro c p m A B G C sp h1 _ _ h4; omega
  | succ f ih =>
    intro c p m A B G C sp h1 hm hcp hc200 hpL n1 n4 hp hC hg hA hg4 hg3 g7 a84 hsp
    obtain ⟨m, rfl⟩ : ∃ j, m = j + 1 := ⟨m - 1, by omega⟩
    rw [hrAll_S]
    by_cases hLp : L ≤ p
    · rw [if_pos hLp]
      refine ⟨A, B, G, ?_, rfl, fun _ _ _ _ _ _ _ _ _ _ => rfl, fun _ _ _ _ _ => rfl, fun _ _ _ _ _ => rfl, fun _ _ _ => rfl, hg3, by show c ≤ 200; exact hc200, sp, by omega, g7, a84⟩
      show _ = some (nI c, mem A B G fl)
      rw [f_X6_hear_A_L28]
      have hend : ((gR (mem A B G fl) 0 6 5).bind fun v74 => (gI (mem A B G fl) v74 2 3).bind fun v77 => some (v77, mem A B G fl)) = some (nI c, mem A B G fl) := by rw [gx_0_5, sb, gx_6_3, sb, hg3]
      by_cases h200 : (200 : Int32) ≤ nI c
      · rw [if_pos h200, hend]
      · rw [if_neg h200, gx_0_5, sb, ck_6, sb]
        unfold f_X2_goesOn
        rw [gx_6_4, sb, gx_6_2, sb, hg4, hg, if_pos (show nI L ≤ nI p from nI_le hLp (by omega)), b2s, if_pos rfl]
        exact hend
    · rw [if_neg hLp]
      have hCv : ∀ i, i < t → 1 ≤ C i ∧ C i ≤ 1000000 := fun i hi => ⟨(hC i hi).2.1, by have := (hC i hi).2.2; omega⟩
      obtain ⟨w1, w2, w3, -⟩ := hF C hCv
      obtain ⟨A1, B1, G1, r, e1, e2, e3, e4, e5, e6, e7⟩ := w3 fl A B G 16 5 sp f1 (cd16 fl) (by decide) (ly5 fl) (by decide) (by decide) n1 n4 hp (fun i hi => (hC i hi).1) g7 a84 (by omega)
      obtain ⟨-, x2, x3, x4⟩ : True ∧ r = 1 ∧ G1 16 = upd (G 16) 2 (nI t) ∧ ∀ j, j < t → B1 17 j = lN (F C j).1 ∧ A1 18 j = nI (F C j).2 := by
        rcases e7 with h | ⟨h, -⟩
        · exact h
        · exact absurd trivial h
      have hws : Ws s t (B1 (16 + 1)) (A1 (16 + 2)) (fun i => (F C i).1) (fun i => (F C i).2) := fun i hi => ⟨(x4 i hi).1, (x4 i hi).2, (w1 i hi).1, (w1 i hi).2.1, (w1 i hi).2.2.1, (w1 i hi).2.2.2⟩
      have a1 : ∀ k, k ≠ 84 → k ≠ 86 → k ≠ 87 → k ≠ 88 → k ≠ 91 → k ≠ 92 → k ≠ 18 → A1 k = A k := e2
      have a18 : A1 8 = A 8 := a1 8 (by omega) (by omega) (by omega) (by omega) (by omega) (by omega) (by omega)
      have g16 : G1 6 = G 6 := e4 6 (by omega) (by omega) (by omega)
      have eR := s_readX (s := s) (l := l) (L := L) (N := NN) (A := A1) (B := B1) (G := G1) (p := p) (c := c) (cd16 fl) (Or.inr rfl) ht hws (by rw [x3, upd_eq]) (by decide) hL (by rw [g16]; exact hg) (fun j hj => by rw [a1 7 (by omega) (by omega) (by omega) (by omega) (by omega) (by omega) (by omega)]; exact hA j hj) (by omega) (by rw [g16]; exact hg4) (by rw [g16]; exact hg3) (by omega)
      have eX : f_X6_hear_A_L28 NN (m + 1) 0 (nI c) (mem A B G fl) = bnd2 (f_X2_readWord NN 6 16 (mem A1 B1 G1 fl)) fun v67 M67 => if 0 ≤ v67 then ((gR M67 0 6 4).bind fun v78 => (ldI M67 v78 v67).bind fun v83 => (stI M67 v78 v67 (v83 + (1 : Int32))).bind fun M86 => f_X6_hear_A_L28 NN m 0 (nI c + 1) M86) else (some (v67, M67)) := by
        rw [f_X6_hear_A_L28, if_neg (show ¬ (200 : Int32) ≤ nI c from nI_ge (b := 200) (by omega) (by decide)), gx_0_5, sb, ck_6, sb]
        unfold f_X2_goesOn f_X6_makeByLevels_A
        rw [gx_6_4, sb, gx_6_2, sb, hg4, hg, if_neg (show ¬ nI L ≤ nI p from nI_ge (by omega) (by omega)), b2s, if_neg (show ¬ (1 : Int32) = 0 by decide), gx_0_8, sb, gx_0_4, sb, ck_0, sb, gx_0_15 f1, sb, show (0 : Int32) = nI 0 from rfl, e1, b2s, gx_0_5, sb, gx_0_8, sb, ck_6, sb]
      rw [eX, eR]
      cases hr : rdF (rwF l p (min 24 (L - p))) (min 24 (L - p)) (fun i => (F C i).1) (fun i => (F C i).2) t with
      | none =>
        have hFm : fmx (rwF l p (min 24 (L - p))) (min 24 (L - p)) (fun i => (F C i).1) (fun i => (F C i).2) t 0 0 ≤ L - p := fmx_le (by omega) t 0 0 (by omega)
        dsimp only
        refine ⟨A1, B1, G1, ?_, a18, fun k _ _ b3 b4 b5 b6 b7 b8 b9 => a1 k b4 b5 b6 b7 b8 b9 b3, fun k b1 b2 b3 b4 => e3 k b2 b3 b4 b1, fun k b1 b2 b3 b4 => e4 k b3 b4 b2, fun g _ _ => by rw [g16], by rw [g16]; exact hg3, hc200, sp + 1, by omega, e5, e6⟩
        rw [b2s, if_neg (neg100 _ (by omega))]
        rfl
      | some j =>
        obtain ⟨hj, hja⟩ := rd_lt hr
        have hj0 : 0 < (F C j).2 := w2.1 j hj
        dsimp only
        have a5 : upA A1 8 (upd (A1 8) c (nI j)) 5 = A 5 := by rw [upA_ne _ _ _ (by decide), a1 5 (by omega) (by omega) (by omega) (by omega) (by omega) (by omega) (by omega)]
        generalize hA3 : upA (upA A1 8 (upd (A1 8) c (nI j))) 5 (upd (A 5) j (nI (C j + 1))) = A3
        generalize hG3 : upA G1 6 (upd (upd (G1 6) 4 (nI (p + (F C j).2))) 3 (nI (c + 1))) = G3
        have a3 : ∀ k, k ≠ 5 → k ≠ 8 → A3 k = A1 k := fun k b1 b2 => by rw [← hA3, upA_ne _ _ _ b1, upA_ne _ _ _ b2]
        have a38 : A3 8 = upd (A 8) c (nI j) := by rw [← hA3, upA_ne _ _ _ (by decide), upA_same, a18]
        have a35 : ∀ i, i < t → A3 5 i = nI (if i = j then C i + 1 else C i) := fun i hi => by
          rw [← hA3, upA_same]
          by_cases e : i = j
          · rw [if_pos e, e, upd_eq]
          · rw [if_neg e, upd_ne _ _ _ e]; exact (hC i hi).1
        have g3 : ∀ k, k ≠ 6 → G3 k = G1 k := fun k b1 => by rw [← hG3, upA_ne _ _ _ b1]
        have g36 : ∀ g, g ≠ 3 → g ≠ 4 → G3 6 g = G 6 g := fun g b1 b2 => by rw [← hG3, upA_same, upd_ne _ _ _ b1, upd_ne _ _ _ b2, g16]
        have g364 : G3 6 4 = nI (p + (F C j).2) := by rw [← hG3, upA_same, upd_ne _ _ _ (by decide), upd_eq]
        have g363 : G3 6 3 = nI (c + 1) := by rw [← hG3, upA_same, upd_eq]
        have g30 : G3 0 = G 0 := by rw [g3 0 (by decide), e4 0 (by omega) (by omega) (by omega)]
        obtain ⟨A', B', G', i1, i2, i3, i4, i5, i6, i7, i8, sp', i9, i10, i11⟩ := ih (c + 1) (p + (F C j).2) m A3 B1 G3 (fun i => if i = j then C i + 1 else C i) (sp + 1) (by omega) (by omega) (by omega) (by omega) (by omega) (by rw [g30]; exact n1) (by rw [g30]; exact n4) (fun u hu => by rw [a3 1 (by decide) (by decide), a1 1 (by omega) (by omega) (by omega) (by omega) (by omega) (by omega) (by omega)]; exact hp u hu) (fun i hi => ⟨a35 i hi, by
          have := (hC i hi).2
          show 1 ≤ (if i = j then C i + 1 else C i) ∧ (if i = j then C i + 1 else C i) ≤ c + 1 + 1
          by_cases e : i = j
          · rw [if_pos e]; omega
          · rw [if_neg e]; omega⟩) (by rw [g36 2 (by decide) (by decide)]; exact hg) (fun q hq => by rw [a3 7 (by decide) (by decide), a1 7 (by omega) (by omega) (by omega) (by omega) (by omega) (by omega) (by omega)]; exact hA q hq) g364 g363 (by rw [g3 82 (by decide)]; exact e5) (fun q hq => by rw [a3 84 (by decide) (by decide)]; exact e6 q hq) (by omega)
        rw [a38] at i1 i2 i7 i8
        refine ⟨A', B', G', ?_, i2, fun k b1 b2 b3 b4 b5 b6 b7 b8 b9 => by rw [i3 k b1 b2 b3 b4 b5 b6 b7 b8 b9, a3 k b1 b2, a1 k b4 b5 b6 b7 b8 b9 b3], fun k b1 b2 b3 b4 => by rw [i4 k b1 b2 b3 b4, e3 k b2 b3 b4 b1], fun k b1 b2 b3 b4 => by rw [i5 k b1 b2 b3 b4, g3 k b1, e4 k b3 b4 b2], fun g b1 b2 => by rw [i6 g b1 b2, g36 g b1 b2], i7, i8, sp', by omega, i10, i11⟩
        rw [b2s, if_pos (nI_pos' (by omega)), gx_0_4, sb, ldI_n (ly5 fl) (by omega) (by decide), sb, a5, (hC j hj).1, show nI (C j) + (1 : Int32) = nI (C j + 1) from nI_add (C j) 1, stI_n (ly5 fl) (by omega) (by decide), sb, a5, hA3, nI_1, i1]
/-! the reference -/
theorem s_hL165 {G : Nat → Nat → Int32} (g3 : G 44 3 = nI t) (ht : t ≤ 24) (x2 : Int32) : ∀ (d i m : Nat) (A : Nat → Nat → Int32) (B : Nat → Nat → Int64), i + d = t → d < m → ∃ A' B', f_X7_hear_L165 NN m 44 x2 (nI i) (mem A B G fl) = some ((if 0 ≤ x2 then (-100 : Int32) - x2 else G 44 46), mem A' B' G fl) ∧ (∀ k, k ≠ 48 → A' k = A k) ∧ (∀ k, k ≠ 47 → B' k = B k) ∧ (∀ j, i ≤ j → j < t → B' 47 j = B 66 j ∧ A' 48 j = A 67 j) ∧ (∀ j, j < i → B' 47 j = B 47 j ∧ A' 48 j = A 48 j) := by
  intro d
  induction d with
  | zero =>
    intro i m A B h hm
    obtain ⟨m, rfl⟩ : ∃ j, m = j + 1 := ⟨m - 1, by omega⟩
    refine ⟨A, B, ?_, fun _ _ => rfl, fun _ _ => rfl, fun j h1 h2 => by omega, fun _ _ => ⟨rfl, rfl⟩⟩
    rw [f_X7_hear_L165, gx_44_3, sb, g3, if_pos (nI_le (by omega) (by omega)), gx_44_46, sb]
    by_cases q : 0 ≤ x2
    · rw [if_pos q, if_pos q]
    · rw [if_neg q, if_neg q]
  | succ d ih =>
    intro i m A B h hm
    obtain ⟨m, rfl⟩ : ∃ j, m = j + 1 := ⟨m - 1, by omega⟩
    obtain ⟨A', B', e1, e2, e3, e4, e5⟩ := ih (i + 1) m (upA A 48 (upd (A 48) i (A 67 i))) (upA B 47 (vp_updL (B 47) i (B 66 i))) (by omega) (by omega)
    refine ⟨A', B', ?_, fun k hk => by rw [e2 k hk, upA_ne _ _ _ hk], fun k hk => by rw [e3 k hk, upA_ne _ _ _ hk], fun j h1 h2 => ?_, fun j hj => ?_⟩
    · rw [f_X7_hear_L165, gx_44_3, sb, g3, if_neg (nI_ge (by omega) (by omega)), gx_44_7, sb, gx_44_34, sb, ldJ_n (ly66 fl) (by omega) (by decide), sb, stJ_n (ly47 fl) (by omega) (by decide), sb, gx_44_8, sb, gx_44_35, sb, ldI_n (ly67 fl) (by omega) (by decide), sb, stI_n (ly48 fl) (by omega) (by decide), sb, nI_1]
      exact e1
    · by_cases q : j = i
      · subst q
        obtain ⟨u1, u2⟩ := e5 j (by omega)
        rw [u1, u2, upA_same, upA_same, upd_eq]
        exact ⟨if_pos rfl, rfl⟩
      · obtain ⟨u1, u2⟩ := e4 j (by omega) h2
        rw [u1, u2, upA_ne _ _ _ (by decide), upA_ne _ _ _ (by decide)]
        exact ⟨rfl, rfl⟩
    · obtain ⟨u1, u2⟩ := e5 j (by omega)
      rw [u1, u2, upA_same, upA_same, upd_ne _ _ _ (by omega)]
      exact ⟨if_neg (by omega), rfl⟩
theorem s_hL12 {G : Nat → Nat → Int32} (g3 : G 44 3 = nI t) (ht : t ≤ 24) : ∀ (d i m : Nat) (A : Nat → Nat → Int32) (B : Nat → Nat → Int64), i + d = t → d < m → ∃ A' B', f_X7_hear_L12 NN m 44 (nI i) (mem A B G fl) = f_X7_hear_K57 NN 44 (mem A' B' G fl) ∧ (∀ k, k ≠ 67 → k ≠ 59 → A' k = A k) ∧ (∀ k, k ≠ 66 → B' k = B k) ∧ (∀ j, i ≤ j → j < t → B' 66 j = B 47 j ∧ A' 67 j = A 48 j ∧ A' 59 j = 1) ∧ (∀ j, j < i → B' 66 j = B 66 j ∧ A' 67 j = A 67 j ∧ A' 59 j = A 59 j) := by
  intro d
  induction d with
  | zero =>
    intro i m A B h hm
    obtain ⟨m, rfl⟩ : ∃ j, m = j + 1 := ⟨m - 1, by omega⟩
    refine ⟨A, B, ?_, fun _ _ _ => rfl, fun _ _ => rfl, fun j h1 h2 => by omega, fun _ _ => ⟨rfl, rfl, rfl⟩⟩
    rw [f_X7_hear_L12, gx_44_3, sb, g3, if_pos (nI_le (by omega) (by omega))]
  | succ d ih =>
    intro i m A B h hm
    obtain ⟨m, rfl⟩ : ∃ j, m = j + 1 := ⟨m - 1, by omega⟩
    obtain ⟨A', B', e1, e2, e3, e4, e5⟩ := ih (i + 1) m (upA (upA A 67 (upd (A 67) i (A 48 i))) 59 (upd (A 59) i 1)) (upA B 66 (vp_updL (B 66) i (B 47 i))) (by omega) (by omega)
    refine ⟨A', B', ?_, fun k h1 h2 => by rw [e2 k h1 h2, upA_ne _ _ _ h2, upA_ne _ _ _ h1], fun k hk => by rw [e3 k hk, upA_ne _ _ _ hk], fun j h1 h2 => ?_, fun j hj => ?_⟩
    · rw [f_X7_hear_L12, gx_44_3, sb, g3, if_neg (nI_ge (by omega) (by omega)), gx_44_34, sb, gx_44_7, sb, ldJ_n (ly47 fl) (by omega) (by decide), sb, stJ_n (ly66 fl) (by omega) (by decide), sb, gx_44_35, sb, gx_44_8, sb, ldI_n (ly48 fl) (by omega) (by decide), sb, stI_n (ly67 fl) (by omega) (by decide), sb, gx_44_24, sb, stI_n (ly59 fl) (by omega) (by decide), sb, nI_1, upA_ne _ _ _ (show (59 : Nat) ≠ 67 by decide)]
      exact e1
    · by_cases q : j = i
      · subst q
        obtain ⟨u1, u2, u3⟩ := e5 j (by omega)
        rw [u1, u2, u3, upA_same, upA_same, upA_ne _ _ _ (show (67 : Nat) ≠ 59 by decide), upA_same, upd_eq, upd_eq]
        exact ⟨if_pos rfl, rfl, rfl⟩
      · obtain ⟨u1, u2, u3⟩ := e4 j (by omega) h2
        rw [u1, u2, u3, upA_ne _ _ _ (show (47 : Nat) ≠ 66 by decide), upA_ne _ _ _ (show (48 : Nat) ≠ 59 by decide), upA_ne _ _ _ (show (48 : Nat) ≠ 67 by decide)]
        exact ⟨rfl, rfl, rfl⟩
    · obtain ⟨u1, u2, u3⟩ := e5 j (by omega)
      rw [u1, u2, u3, upA_same, upA_same, upA_ne _ _ _ (show (67 : Nat) ≠ 59 by decide), upA_same, upd_ne _ _ _ (by omega), upd_ne _ _ _ (by omega)]
      exact ⟨if_neg (by omega), rfl, rfl⟩
def hrX (D : (Nat → Int32) × Nat × Nat × Option Nat) : Int32 := match D.2.2.2 with
  | some q => nI q
  | none => -1
theorem s_hrM (hF : FOk pr s t F) (ht : t ≤ 24) (hL : L ≤ 200) : ∀ (f c p m : Nat) (A : Nat → Nat → Int32) (B : Nat → Nat → Int64) (G : Nat → Nat → Int32) (C : Nat → Nat), c + f = 201 → f + 1 < m → c ≤ p → c ≤ 200 → p ≤ L → G 44 1 = nI s → G 44 3 = nI t → (∀ u, u < s → A 45 u = nI (pr u)) → (∀ i, i < t → A 59 i = nI (C i) ∧ 1 ≤ C i ∧ C i ≤ c + 1) → G 44 44 = nI L → (∀ j, j < L → A 72 j = nI (l j) ∧ l j < 4) → G 44 46 = nI c →
    ∃ A' B' G', f_X7_hear_L66 NN m 44 (nI p) (-1) (mem A B G fl) = f_X7_hear_K163 NN 44 (hrX (hrAll l L F t f p c C (A 73))) (mem A' B' G' fl) ∧ (∀ q, (hrAll l L F t f p c C (A 73)).2.2.2 = some q → q ≤ 200) ∧ A' 73 = (hrAll l L F t f p c C (A 73)).1 ∧ (∀ k, k ≠ 48 → k ≠ 50 → k ≠ 52 → k ≠ 54 → k ≠ 56 → k ≠ 57 → k ≠ 58 → k ≠ 59 → k ≠ 73 → A' k = A k) ∧ (∀ k, k ≠ 47 → k ≠ 51 → k ≠ 53 → k ≠ 55 → B' k = B k) ∧ (∀ k, k ≠ 44 → G' k = G k) ∧ (∀ g, g ≠ 14 → g ≠ 15 → g ≠ 16 → g ≠ 21 → g ≠ 23 → g ≠ 25 → g ≠ 26 → g ≠ 46 → G' 44 g = G 44 g) ∧ G' 44 46 = nI (hrAll l L F t f p c C (A 73)).2.1 := by
  intro f
  induction f with
  | zero => intro c p m A B G C h1 _ _ h4; omega
  | succ f ih =>
    intro c p m A B G C h1 hm hcp hc200 hpL n2 n5 hp hC hg hA hg3
    obtain ⟨m, rfl⟩ : ∃ j, m = j + 1 := ⟨m - 1, by omega⟩
    rw [hrAll_S]
    by_cases hLp : L ≤ p
    · rw [if_pos hLp]
      refine ⟨A, B, G, ?_, fun q hq => (by cases hq), rfl, fun _ _ _ _ _ _ _ _ _ _ => rfl, fun _ _ _ _ _ => rfl, fun _ _ => rfl, fun _ _ _ _ _ _ _ _ _ => rfl, hg3⟩
      rw [f_X7_hear_L66, gx_44_44, sb, hg, if_pos (nI_le hLp (by omega))]
      rfl
    · rw [if_neg hLp]
      have hCv : ∀ i, i < t → 1 ≤ C i ∧ C i ≤ 1000000 := fun i hi => ⟨(hC i hi).2.1, by have := (hC i hi).2.2; omega⟩
      obtain ⟨w1, w2, -, w4⟩ := hF C hCv
      obtain ⟨A1, B1, G1, r, d1, d2, d3, d4, d5, d6⟩ := w4 fl A B G 59 (ly59 fl) (by decide) n2 n5 hp (fun i hi => (hC i hi).1)
      obtain ⟨-, x2, x3⟩ : True ∧ r = 1 ∧ ∀ j, j < t → B1 47 j = lN (F C j).1 ∧ A1 48 j = nI (F C j).2 := by
        rcases d6 with h | ⟨h, -⟩
        · exact h
        · exact absurd trivial h
      rw [if_pos rfl] at d1
      have hws : Ws s t (B1 47) (A1 48) (fun i => (F C i).1) (fun i => (F C i).2) := fun i hi => ⟨(x3 i hi).1, (x3 i hi).2, (w1 i hi).1, (w1 i hi).2.1, (w1 i hi).2.2.1, (w1 i hi).2.2.2⟩
      have b44 : ∀ g, g = 1 ∨ g = 3 ∨ g = 44 ∨ g = 46 → G1 44 g = G 44 g := fun g hg => d5 g (by omega) (by omega) (by omega) (by omega) (by omega) (by omega) (by omega)
      have bA : ∀ k, k = 45 ∨ k = 59 ∨ k = 72 ∨ k = 73 → A1 k = A k := fun k hk => d2 k (by omega) (by omega) (by omega) (by omega) (by omega) (by omega) (by omega)
      have eR := s_atM (fl := fl) (N := NN) (A := A1) (B := B1) (G := G1) (l := l) (L := L) (p := p) ht hws w2 (by rw [b44 3 (by decide)]; exact n5) (by decide) hL (by rw [b44 44 (by decide)]; exact hg) (fun j hj => by rw [bA 72 (by omega)]; exact hA j hj) (by omega)
      have eM : f_X7_hear_L66 NN (m + 1) 44 (nI p) (-1) (mem A B G fl) = bnd2 (f_X7_wordAt NN 44 (nI p) (mem A1 B1 G1 fl)) fun v95 M95 => f_X7_hear_K102 NN (f_X7_hear_L66 NN m) 44 (nI p) (-1) v95 M95 := by
        rw [f_X7_hear_L66, gx_44_44, sb, hg, if_neg (nI_ge (by omega) (by omega)), if_neg (show ¬ (0 : Int32) ≤ -1 by decide), gx_44_24, sb, ck_44, sb, show (24 : Int32) = nI 24 from rfl, d1, b2s, x2, if_neg (show ¬ (1 : Int32) = 0 by decide), ck_44, sb]
      rw [eM, eR, b2s]
      cases hr : rdF (rwF l p (min 24 (L - p))) (min 24 (L - p)) (fun i => (F C i).1) (fun i => (F C i).2) t with
      | none =>
        have hFm : fmx (rwF l p (min 24 (L - p))) (min 24 (L - p)) (fun i => (F C i).1) (fun i => (F C i).2) t 0 0 ≤ L - p := fmx_le (by omega) t 0 0 (by omega)
        dsimp only
        refine ⟨A1, B1, G1, ?_, fun q hq => by have := Option.some.inj hq; omega, bA 73 (by omega), fun k b1 b2 b3 b4 b5 b6 b7 _ _ => d2 k b1 b2 b3 b4 b5 b6 b7, d3, d4, fun g b1 b2 b3 b4 b5 b6 b7 _ => d5 g b1 b2 b3 b4 b5 b6 b7, by rw [b44 46 (by decide)]; exact hg3⟩
        unfold f_X7_hear_K102 f_X7_hear_K160
        obtain ⟨m, rfl⟩ : ∃ j, m = j + 1 := ⟨m - 1, by omega⟩
        rw [if_neg (neg1q _ (by omega)), neg3q, f_X7_hear_L66, gx_44_44, sb, b44 44 (by decide), hg, if_neg (nI_ge (by omega) (by omega)), if_pos (nI_pos' (by omega))]
        rfl
      | some j =>
        obtain ⟨hj, hja⟩ := rd_lt hr
        have hj0 : 0 < (F C j).2 := w2.1 j hj
        dsimp only
        generalize hA3 : upA (upA A1 73 (upd (A1 73) c (nI j))) 59 (upd (A 59) j (nI (C j + 1))) = A3
        generalize hG3 : upA G1 44 (upd (G1 44) 46 (nI (c + 1))) = G3
        have a3 : ∀ k, k ≠ 59 → k ≠ 73 → A3 k = A1 k := fun k b1 b2 => by rw [← hA3, upA_ne _ _ _ b1, upA_ne _ _ _ b2]
        have a373 : A3 73 = upd (A 73) c (nI j) := by rw [← hA3, upA_ne _ _ _ (by decide), upA_same, bA 73 (by omega)]
        have a359 : ∀ i, i < t → A3 59 i = nI (if i = j then C i + 1 else C i) := fun i hi => by
          rw [← hA3, upA_same]
          by_cases e : i = j
          · rw [if_pos e, e, upd_eq]
          · rw [if_neg e, upd_ne _ _ _ e]; exact (hC i hi).1
        have g3 : ∀ k, k ≠ 44 → G3 k = G1 k := fun k b1 => by rw [← hG3, upA_ne _ _ _ b1]
        have g344 : ∀ g, g ≠ 46 → G3 44 g = G1 44 g := fun g b1 => by rw [← hG3, upA_same, upd_ne _ _ _ b1]
        have g346 : G3 44 46 = nI (c + 1) := by rw [← hG3, upA_same, upd_eq]
        have a59 : upA A1 73 (upd (A1 73) c (nI j)) 59 = A 59 := by rw [upA_ne _ _ _ (by decide), bA 59 (by omega)]
        obtain ⟨A', B', G', i1, i2, i3, i4, i5, i6, i7, i8⟩ := ih (c + 1) (p + (F C j).2) m A3 B1 G3 (fun i => if i = j then C i + 1 else C i) (by omega) (by omega) (by omega) (by omega) (by omega) (by rw [g344 1 (by decide), b44 1 (by decide)]; exact n2) (by rw [g344 3 (by decide), b44 3 (by decide)]; exact n5) (fun u hu => by rw [a3 45 (by decide) (by decide), bA 45 (by omega)]; exact hp u hu) (fun i hi => ⟨a359 i hi, by
          have := (hC i hi).2
          show 1 ≤ (if i = j then C i + 1 else C i) ∧ (if i = j then C i + 1 else C i) ≤ c + 1 + 1
          by_cases e : i = j
          · rw [if_pos e]; omega
          · rw [if_neg e]; omega⟩) (by rw [g344 44 (by decide), b44 44 (by decide)]; exact hg) (fun q hq => by rw [a3 72 (by decide) (by decide), bA 72 (by omega)]; exact hA q hq) g346
        rw [a373] at i1 i2 i3 i8
        refine ⟨A', B', G', ?_, i2, i3, fun k b1 b2 b3 b4 b5 b6 b7 b8 b9 => by rw [i4 k b1 b2 b3 b4 b5 b6 b7 b8 b9, a3 k b8 b9, d2 k b1 b2 b3 b4 b5 b6 b7], fun k b1 b2 b3 b4 => by rw [i5 k b1 b2 b3 b4, d3 k b1 b2 b3 b4], fun k b1 => by rw [i6 k b1, g3 k b1, d4 k b1], fun g b1 b2 b3 b4 b5 b6 b7 b8 => by rw [i7 g b1 b2 b3 b4 b5 b6 b7 b8, g344 g b8, d5 g b1 b2 b3 b4 b5 b6 b7], i8⟩
        unfold f_X7_hear_K102 f_X7_hear_K160
        rw [if_pos (nI_pos' (by omega)), gx_44_45, sb, gx_44_46, sb, b44 46 (by decide), hg3, stI_n (ly73 fl) (by omega) (by decide), sb, gx_44_46, sb, b44 46 (by decide), hg3, nI_1, px_44_46, sb, hG3, gx_44_24, sb, ldI_n (ly59 fl) (by omega) (by decide), sb, a59, (hC j hj).1, show nI (C j) + (1 : Int32) = nI (C j + 1) from nI_add (C j) 1, stI_n (ly59 fl) (by omega) (by decide), sb, a59, hA3, gx_44_8, sb, ldI_n (ly48 fl) (by omega) (by decide), sb, a3 48 (by decide) (by decide), (x3 j hj).2, nI_add]
        exact i1
end Hr
theorem hr_val {D : (Nat → Int32) × Nat × Nat × Option Nat} (h : ∀ q, D.2.2.2 = some q → q ≤ 200) : (if 0 ≤ hrX D then (-100 : Int32) - hrX D else nI D.2.1) = rdV D := by
  obtain ⟨a, b, c, d⟩ := D
  cases d with
  | none =>
    show (if (0 : Int32) ≤ -1 then _ else _) = _
    rw [if_neg (show ¬ (0 : Int32) ≤ -1 by decide)]
    rfl
  | some q =>
    have := h q rfl
    show (if 0 ≤ nI q then (-100 : Int32) - nI q else _) = (-100 : Int32) - nI q
    rw [if_pos (nI_pos' (by omega))]
theorem h_core {z : Nat} {A : Nat → Nat → Int32} {B : Nat → Nat → Int64} {G : Nat → Nat → Int32} {fl : Nat → Bool} {s t m : Nat} (hz : z < 1536) (hps : Parts z A B G fl s t) (f1 : fl 1 = true) {P : Nat → Nat} (hP : ∀ j, j < s → A 1 j = nI (P j) ∧ A 45 j = nI (P j) ∧ 1 ≤ P j ∧ P j ≤ 9) (hM : MayF P s t) (hm : 201 < m) :
    ∃ r A1 B1 G1 A4 B4 G4, f_X6_hear_A_L28 NN m 0 0 (mem (upA A 5 (oneF (A 5))) B (upA G 6 (upd (upd (G 6) 4 0) 3 0)) fl) = some (r, mem A1 B1 G1 fl) ∧ f_X7_hear NN 44 (mem A1 B1 G1 fl) = some (r, mem A4 B4 G4 fl) ∧ Rv (z + 1) A4 B4 G4 fl := by
  obtain ⟨h1, hc, h3, h4, h5, h6, h7, h8⟩ := hps
  obtain ⟨n1, n2, n3, n4, n5, n6, n7, n8⟩ := id h1
  obtain ⟨F, hF⟩ := free_F hM n3 n6 (fun u hu => ⟨(hP u hu).2.2.1, (hP u hu).2.2.2⟩)
  obtain ⟨sp, sp1, sp2, sp3⟩ := h8 f1
  obtain ⟨L, l1, l2, l3, l4⟩ := id h3
  obtain ⟨l, hl⟩ := nat_of (n := L) (a := A 7) (Q := fun q => q < 4) (fun i hi => by
    obtain ⟨-, v, h, e⟩ := l4 i hi
    exact ⟨v, by omega, h, e⟩)
  generalize hA0 : upA A 5 (oneF (A 5)) = A0
  generalize hG0 : upA G 6 (upd (upd (G 6) 4 0) 3 0) = G0
  have a0 : ∀ k, k ≠ 5 → A0 k = A k := fun k hk => by rw [← hA0, upA_ne _ _ _ hk]
  have a05 : ∀ i, i < t → A0 5 i = nI 1 := fun i hi => by
    rw [← hA0, upA_same]
    exact if_pos (by omega)
  have g0 : ∀ k, k ≠ 6 → G0 k = G k := fun k hk => by rw [← hG0, upA_ne _ _ _ hk]
  have g06 : ∀ g, g ≠ 3 → g ≠ 4 → G0 6 g = G 6 g := fun g b1 b2 => by rw [← hG0, upA_same, upd_ne _ _ _ b1, upd_ne _ _ _ b2]
  obtain ⟨A1, B1, G1, e1, e2, e3, e4, e5, e6, e7, e8, sp', e9, e10, e11⟩ := s_hrX (fl := fl) (l := l) (L := L) (F := F) (pr := P) (s := s) (t := t) f1 hF n6 l3 201 0 0 m A0 B G0 (fun _ => 1) sp (by omega) hm (by omega) (by omega) (by omega) (by rw [g0 0 (by decide)]; exact n1) (by rw [g0 0 (by decide)]; exact n4) (fun u hu => by rw [a0 1 (by decide)]; exact (hP u hu).1) (fun i hi => ⟨a05 i hi, by omega, by omega⟩) (by rw [g06 2 (by decide) (by decide)]; exact l1) (fun j hj => by rw [a0 7 (by decide)]; exact ⟨(hl j hj).1, (hl j hj).2.1⟩) (by rw [← hG0, upA_same]; rfl) (by rw [← hG0, upA_same]; rfl) (by rw [g0 82 (by decide)]; exact sp2) (fun j hj => by rw [a0 84 (by decide)]; exact sp3 j hj) (by omega)
  have cA : ∀ k, k ≤ 4 ∨ k = 7 ∨ k = 15 ∨ (19 ≤ k ∧ k ≤ 81) ∨ 98 ≤ k → A1 k = A k := fun k hk => by rw [e3 k (by omega) (by omega) (by omega) (by omega) (by omega) (by omega) (by omega) (by omega) (by omega), a0 k (by omega)]
  have cB : ∀ k, k = 14 ∨ (19 ≤ k ∧ k ≤ 81) → B1 k = B k := fun k hk => e4 k (by omega) (by omega) (by omega) (by omega)
  have cG : ∀ k, k = 0 ∨ k = 13 ∨ (19 ≤ k ∧ k ≤ 81) ∨ 98 ≤ k → G1 k = G k := fun k hk => by rw [e5 k (by omega) (by omega) (by omega) (by omega), g0 k (by omega)]
  have c44 : G1 44 = G 44 := cG 44 (by omega)
  -- the reference
  obtain ⟨v, v1, v2⟩ := s_mayM (A := A1) (B := B1) (G := G1) (fl := fl) (N := NN) (s := s) (t := t) (pr := P) (by decide) (by rw [c44]; exact n2) (by rw [c44]; exact n5) n3 n6 (fun u hu => by rw [cA 45 (by omega)]; exact ⟨(hP u hu).2.1, (hP u hu).2.2.2⟩)
  obtain ⟨A2, B2, k1, k2, k3, k4, -⟩ := s_hL12 (fl := fl) (G := G1) (t := t) (by rw [c44]; exact n5) n6 t 0 NN A1 B1 (by omega) (by show _ < 300000; omega)
  generalize hG2 : upA G1 44 (upd (G1 44) 46 0) = G2
  have g2 : ∀ k, k ≠ 44 → G2 k = G1 k := fun k hk => by rw [← hG2, upA_ne _ _ _ hk]
  have g244 : ∀ g, g ≠ 46 → G2 44 g = G 44 g := fun g hg => by rw [← hG2, upA_same, upd_ne _ _ _ hg, c44]
  have a273 : A2 73 = A 73 := by rw [k2 73 (by decide) (by decide), cA 73 (by omega)]
  obtain ⟨A3, B3, G3, d1, d2, d3, d4, d5, d6, d7, d8⟩ := s_hrM (fl := fl) (l := l) (L := L) (F := F) (pr := P) (s := s) (t := t) hF n6 l3 201 0 0 NN A2 B2 G2 (fun _ => 1) (by omega) (by decide) (by omega) (by omega) (by omega) (by rw [g244 1 (by decide)]; exact n2) (by rw [g244 3 (by decide)]; exact n5) (fun u hu => by rw [k2 45 (by decide) (by decide), cA 45 (by omega)]; exact (hP u hu).2.1) (fun i hi => ⟨(k4 i (Nat.zero_le _) hi).2.2, by omega, by omega⟩) (by rw [g244 44 (by decide)]; exact l2) (fun j hj => by
    rw [k2 72 (by decide) (by decide), cA 72 (by omega), (l4 j hj).1]
    exact ⟨(hl j hj).1, (hl j hj).2.1⟩) (by rw [← hG2, upA_same]; rfl)
  have g344 : ∀ g, g = 1 ∨ g = 3 ∨ g = 4 ∨ g = 5 ∨ g = 6 ∨ g = 36 ∨ g = 37 ∨ g = 44 ∨ g = 50 ∨ g = 53 → G3 44 g = G 44 g := fun g hg => by rw [d7 g (by omega) (by omega) (by omega) (by omega) (by omega) (by omega) (by omega) (by omega), g244 g (by omega)]
  obtain ⟨A4, B4, y1, y2, y3, y4, -⟩ := s_hL165 (fl := fl) (G := G3) (t := t) (by rw [g344 3 (by decide)]; exact n5) n6 (hrX (hrAll l L F t 201 0 0 (fun _ => 1) (A2 73))) t 0 NN A3 B3 (by omega) (by show _ < 300000; omega)
  rw [d8, hr_val d2] at y1
  have hcg := hrAll_cg (l := l) (L := L) (F := F) (t := t) 201 0 0 (fun _ => 1) (A0 8) (A2 73) (fun j hj => absurd hj (by omega))
  have eM : f_X7_hear NN 44 (mem A1 B1 G1 fl) = some (rdV (hrAll l L F t 201 0 0 (fun _ => 1) (A2 73)), mem A4 B4 G3 fl) := by
    unfold f_X7_hear
    rw [ck_44, sb, v1, b2s, if_neg (fun q => v2.mp q hM), show (0 : Int32) = nI 0 from rfl, k1]
    unfold f_X7_hear_K57
    rw [px_44_46, sb, hG2, show (0 : Int32) = nI 0 from rfl, d1]
    unfold f_X7_hear_K163
    exact y1
  have qA : ∀ k, k ≤ 4 ∨ k = 7 ∨ k = 15 ∨ (19 ≤ k ∧ k ≤ 46) ∨ k = 49 ∨ k = 72 ∨ (78 ≤ k ∧ k ≤ 81) ∨ 98 ≤ k → A4 k = A k := fun k hk => by rw [y2 k (by omega), d4 k (by omega) (by omega) (by omega) (by omega) (by omega) (by omega) (by omega) (by omega) (by omega), k2 k (by omega) (by omega), cA k (by omega)]
  have qB : ∀ k, k = 14 ∨ (19 ≤ k ∧ k ≤ 43) ∨ k = 79 → B4 k = B k := fun k hk => by rw [y3 k (by omega), d5 k (by omega) (by omega) (by omega) (by omega), k3 k (by omega), cB k (by omega)]
  have qG : ∀ k, k = 0 ∨ k = 13 ∨ (19 ≤ k ∧ k ≤ 43) ∨ 98 ≤ k → G3 k = G k := fun k hk => by rw [d6 k (by omega), g2 k (by omega), cG k (by omega)]
  have q6 : G3 6 = G1 6 := by rw [d6 6 (by decide), g2 6 (by decide)]
  have qw : ∀ j, j < t → B4 47 j = B 47 j ∧ A4 48 j = A 48 j := fun j hj => by
    obtain ⟨u1, u2⟩ := y4 j (Nat.zero_le _) hj
    obtain ⟨u3, u4, -⟩ := k4 j (Nat.zero_le _) hj
    rw [u1, u2, d5 66 (by omega) (by omega) (by omega) (by omega), d4 67 (by omega) (by omega) (by omega) (by omega) (by omega) (by omega) (by omega) (by omega) (by omega), u3, u4, cB 47 (by omega), cA 48 (by omega)]
    exact ⟨rfl, rfl⟩
  refine ⟨rdV (hrAll l L F t 201 0 0 (fun _ => 1) (A2 73)), A1, B1, G1, A4, B4, G3, by rw [← rdV_eq hcg.1]; exact e1, eM, s, t, ?_⟩
  obtain ⟨r1, r2, r3, r4⟩ := rv_rest (A' := A4) (B' := B4) (G' := G3) (fl' := fl) h1 h5 h6 h7 (fun k hk => qA k (by omega)) (fun k hk => qB k (by omega)) (fun k hk => qG k (by omega)) (fun g hg => by rw [qG 0 (by omega)]) (fun g hg => g344 g (by omega)) rfl
  refine ⟨r1, ?_, h3.congr ?_ ?_ ?_ ?_, ⟨(hrAll l L F t 201 0 0 (fun _ => 1) (A0 8)).2.1, ?_, ?_, e8, fun i hi => ?_⟩, r2, r3, r4, fun _ => ⟨sp', by omega, ?_, ?_⟩⟩
  · have hc := hc.next
    unfold CodeOk MayFree at hc ⊢
    rw [qG 13 (by omega), qG 0 (by omega), g344 4 (by decide), g344 5 (by decide), g344 6 (by decide), qA 15 (by omega), qA 1 (by omega), qA 4 (by omega), qA 49 (by omega), qB 14 (by omega)]
    rcases hc with h | ⟨w1, w2, w3, w4, w5, w6⟩
    · exact Or.inl h
    · refine Or.inr ⟨w1, w2, w3, w4, fun i hi => ?_, w6⟩
      rw [(qw i hi).1, (qw i hi).2]
      exact w5 i hi
  · rw [q6, e6 2 (by decide) (by decide), g06 2 (by decide) (by decide)]
  · exact g344 44 (by decide)
  · exact qA 72 (by omega)
  · exact qA 7 (by omega)
  · rw [q6]; exact e7
  · rw [d8, hcg.1]
  · rw [y2 73 (by decide), d3, y2 8 (by decide), d4 8 (by omega) (by omega) (by omega) (by omega) (by omega) (by omega) (by omega) (by omega) (by omega), k2 8 (by decide) (by decide), e2]
    exact (hcg.2 i hi).symm
  · rw [d6 82 (by decide), g2 82 (by decide)]; exact e10
  · intro j hj
    rw [y2 84 (by decide), d4 84 (by omega) (by omega) (by omega) (by omega) (by omega) (by omega) (by omega) (by omega) (by omega), k2 84 (by decide) (by decide)]
    exact e11 j hj
theorem hr_BA : ∀ (m x0 : Nat) (x1 : Int32) (M : A_M), f_X6_hear_B_L28A NN m x0 x1 M = f_X6_hear_A_L28 NN m x0 x1 M := by
  intro m
  induction m with
  | zero => intro x0 x1 M; rfl
  | succ m ih =>
    intro x0 x1 M
    have : f_X6_hear_B_L28A NN m = f_X6_hear_A_L28 NN m := by
      funext a b c
      exact ih a b c
    rw [f_X6_hear_B_L28A, f_X6_hear_A_L28, this]
/-- nothing to hear: no maker is made -/
theorem h_none {z : Nat} {A : Nat → Nat → Int32} {B : Nat → Nat → Int64} {G : Nat → Nat → Int32} {fl : Nat → Bool} {s t : Nat} (hps : Parts z A B G fl s t) {P : Nat → Nat} (hP : ∀ j, j < s → A 1 j = nI (P j) ∧ A 45 j = nI (P j) ∧ 1 ≤ P j ∧ P j ≤ 9) (hM : MayF P s t) (hL : G 6 2 = nI 0) :
    ∃ r A1 B1 G1 A4 B4 G4, f_X6_hear_A_L28 NN NN 0 0 (mem (upA A 5 (oneF (A 5))) B (upA G 6 (upd (upd (G 6) 4 0) 3 0)) fl) = some (r, mem A1 B1 G1 fl) ∧ f_X7_hear NN 44 (mem A1 B1 G1 fl) = some (r, mem A4 B4 G4 fl) ∧ Rv (z + 1) A4 B4 G4 fl := by
  obtain ⟨h1, hc, h3, h4, h5, h6, h7, h8⟩ := hps
  obtain ⟨n1, n2, n3, n4, n5, n6, n7, n8⟩ := id h1
  obtain ⟨L, l1, l2, l3, l4⟩ := id h3
  have hL0 : L = 0 := (nI_eq (a := L) (b := 0) (by omega) (by omega)).mp (l1.symm.trans hL)
  subst hL0
  generalize hA0 : upA A 5 (oneF (A 5)) = A0
  generalize hG0 : upA G 6 (upd (upd (G 6) 4 0) 3 0) = G0
  have a0 : ∀ k, k ≠ 5 → A0 k = A k := fun k hk => by rw [← hA0, upA_ne _ _ _ hk]
  have g0 : ∀ k, k ≠ 6 → G0 k = G k := fun k hk => by rw [← hG0, upA_ne _ _ _ hk]
  have g06 : ∀ g, g ≠ 3 → g ≠ 4 → G0 6 g = G 6 g := fun g b1 b2 => by rw [← hG0, upA_same, upd_ne _ _ _ b1, upd_ne _ _ _ b2]
  have g064 : G0 6 4 = nI 0 := by rw [← hG0, upA_same]; rfl
  have g063 : G0 6 3 = nI 0 := by rw [← hG0, upA_same]; rfl
  have c44 : G0 44 = G 44 := g0 44 (by decide)
  have eX : f_X6_hear_A_L28 NN NN 0 0 (mem A0 B G0 fl) = some (nI 0, mem A0 B G0 fl) := by
    show f_X6_hear_A_L28 NN (299999 + 1) 0 0 (mem A0 B G0 fl) = _
    rw [f_X6_hear_A_L28, if_neg (show ¬ (200 : Int32) ≤ 0 by decide), gx_0_5, sb, ck_6, sb]
    unfold f_X2_goesOn
    rw [gx_6_4, sb, gx_6_2, sb, g064, g06 2 (by decide) (by decide), l1, if_pos (nI_le (Nat.le_refl 0) (by decide)), b2s, if_pos rfl, gx_0_5, sb, gx_6_3, sb, g063]
  obtain ⟨v, v1, v2⟩ := s_mayM (A := A0) (B := B) (G := G0) (fl := fl) (N := NN) (s := s) (t := t) (pr := P) (by decide) (by rw [c44]; exact n2) (by rw [c44]; exact n5) n3 n6 (fun u hu => by rw [a0 45 (by decide)]; exact ⟨(hP u hu).2.1, (hP u hu).2.2.2⟩)
  obtain ⟨A2, B2, k1, k2, k3, k4, -⟩ := s_hL12 (fl := fl) (G := G0) (t := t) (by rw [c44]; exact n5) n6 t 0 NN A0 B (by omega) (by show _ < 300000; omega)
  generalize hG2 : upA G0 44 (upd (G0 44) 46 0) = G2
  have g2 : ∀ k, k ≠ 44 → G2 k = G0 k := fun k hk => by rw [← hG2, upA_ne _ _ _ hk]
  have g244 : ∀ g, g ≠ 46 → G2 44 g = G 44 g := fun g hg => by rw [← hG2, upA_same, upd_ne _ _ _ hg, c44]
  have g246 : G2 44 46 = nI 0 := by rw [← hG2, upA_same]; rfl
  obtain ⟨A4, B4, y1, y2, y3, y4, -⟩ := s_hL165 (fl := fl) (G := G2) (t := t) (by rw [g244 3 (by decide)]; exact n5) n6 (-1) t 0 NN A2 B2 (by omega) (by show _ < 300000; omega)
  rw [if_neg (show ¬ (0 : Int32) ≤ -1 by decide), g246] at y1
  have eM : f_X7_hear NN 44 (mem A0 B G0 fl) = some (nI 0, mem A4 B4 G2 fl) := by
    unfold f_X7_hear
    rw [ck_44, sb, v1, b2s, if_neg (fun q => v2.mp q hM), show (0 : Int32) = nI 0 from rfl, k1]
    unfold f_X7_hear_K57
    rw [px_44_46, sb, hG2]
    show f_X7_hear_L66 NN (299999 + 1) 44 0 (-1) (mem A2 B2 G2 fl) = _
    rw [f_X7_hear_L66, gx_44_44, sb, g244 44 (by decide), l2, if_pos (show nI 0 ≤ (0 : Int32) by decide)]
    unfold f_X7_hear_K163
    exact y1
  have qA : ∀ k, k ≠ 5 → k ≠ 48 → k ≠ 59 → k ≠ 67 → A4 k = A k := fun k b1 b2 b3 b4 => by rw [y2 k b2, k2 k b4 b3, a0 k b1]
  have qB : ∀ k, k ≠ 47 → k ≠ 66 → B4 k = B k := fun k b1 b2 => by rw [y3 k b1, k3 k b2]
  have qG : ∀ k, k ≠ 6 → k ≠ 44 → G2 k = G k := fun k b1 b2 => by rw [g2 k b2, g0 k b1]
  have qw : ∀ j, j < t → B4 47 j = B 47 j ∧ A4 48 j = A 48 j := fun j hj => by
    obtain ⟨u1, u2⟩ := y4 j (Nat.zero_le _) hj
    obtain ⟨u3, u4, -⟩ := k4 j (Nat.zero_le _) hj
    rw [u1, u2, u3, u4, a0 48 (by omega)]
    exact ⟨rfl, rfl⟩
  refine ⟨nI 0, A0, B, G0, A4, B4, G2, eX, eM, s, t, ?_⟩
  obtain ⟨r1, r2, r3, r4⟩ := rv_rest (A' := A4) (B' := B4) (G' := G2) (fl' := fl) h1 h5 h6 h7 (fun k hk => qA k (by omega) (by omega) (by omega) (by omega)) (fun k hk => qB k (by omega) (by omega)) (fun k hk => qG k (by omega) (by omega)) (fun g hg => by rw [qG 0 (by omega) (by omega)]) (fun g hg => g244 g (by omega)) rfl
  refine ⟨r1, ?_, h3.congr ?_ ?_ ?_ ?_, ⟨0, ?_, g246, by omega, fun i hi => absurd hi (by omega)⟩, r2, r3, r4, h8.congr ?_ ?_⟩
  · have hc := hc.next
    unfold CodeOk MayFree at hc ⊢
    rw [qG 13 (by omega) (by omega), qG 0 (by omega) (by omega), g244 4 (by decide), g244 5 (by decide), g244 6 (by decide), qA 15 (by omega) (by omega) (by omega) (by omega), qA 1 (by omega) (by omega) (by omega) (by omega), qA 4 (by omega) (by omega) (by omega) (by omega), qA 49 (by omega) (by omega) (by omega) (by omega), qB 14 (by omega) (by omega)]
    rcases hc with h | ⟨w1, w2, w3, w4, w5, w6⟩
    · exact Or.inl h
    · refine Or.inr ⟨w1, w2, w3, w4, fun i hi => ?_, w6⟩
      rw [(qw i hi).1, (qw i hi).2]
      exact w5 i hi
  · rw [g2 6 (by decide), g06 2 (by decide) (by decide)]
  · exact g244 44 (by decide)
  · exact qA 72 (by omega) (by omega) (by omega) (by omega)
  · exact qA 7 (by omega) (by omega) (by omega) (by omega)
  · rw [g2 6 (by decide)]; exact g063
  · rw [qG 82 (by omega) (by omega)]
  · exact qA 84 (by omega) (by omega) (by omega) (by omega)
theorem lo_hear : LO_hear Inv := by
  rintro z M cs sl hz ⟨A, B, G, fl, rfl, rfl, rfl, hR⟩
  obtain ⟨s, t, hps⟩ := id hR
  obtain ⟨h1, hc, h3, h4, h5, h6, h7, h8⟩ := id hps
  obtain ⟨n1, n2, n3, n4, n5, n6, n7, n8⟩ := id h1
  obtain ⟨P, C, hP, hC⟩ := h1.nums
  obtain ⟨v, ev, hv⟩ := s_canX (A := A) (B := B) (G := G) (fl := fl) (N := NN) (by decide) n1 n4 n3 n6 (fun u hu => ⟨(hP u hu).1, (hP u hu).2.2.2⟩)
  by_cases hM : MayF P s t
  · have hv0 : ¬ v = 0 := fun q => hv.mp q hM
    have pre : f_X6_hear_A NN 0 (mem A B G fl) = f_X6_hear_A_L28 NN NN 0 0 (mem (upA A 5 (oneF (A 5))) B (upA G 6 (upd (upd (G 6) 4 0) 3 0)) fl) := by
      unfold f_X6_hear_A f_X2_beginReading
      rw [ck_0, sb, ev, b2s, if_neg hv0, gx_0_4, sb, s_fill1 (ly5 fl), sb, gx_0_5, sb, ck_6, sb, px_6_4, sb, px_6_3, sb, sb, upA_same, upA_twice]
    by_cases f1 : fl 1 = true
    · obtain ⟨r, A1, B1, G1, A4, B4, G4, y1, y2, y3⟩ := h_core (m := NN) hz hps f1 hP hM (by decide)
      exact ⟨r, mem A1 B1 G1 fl, mem A4 B4 G4 fl, 0, 0, ok_X6_hear_A NN (pre.trans y1), ok_X7_hear NN y2, ck_0, ck_44, A4, B4, G4, fl, rfl, rfl, rfl, y3⟩
    · have f0 : fl 1 = false := by cases h : fl 1 with | false => rfl | true => exact absurd h f1
      obtain ⟨L, l1, l2, l3, l4⟩ := id h3
      by_cases hL : L = 0
      · subst hL
        obtain ⟨r, A1, B1, G1, A4, B4, G4, y1, y2, y3⟩ := h_none hps hP hM l1
        exact ⟨r, mem A1 B1 G1 fl, mem A4 B4 G4 fl, 0, 0, ok_X6_hear_A NN (pre.trans y1), ok_X7_hear NN y2, ck_0, ck_44, A4, B4, G4, fl, rfl, rfl, rfl, y3⟩
      · have f1' : flN fl 1 1 = true := if_pos rfl
        obtain ⟨hP', hC'⟩ := nums_fr (A' := aInit1 A) hP hC (fun k hk => if_neg (by omega))
        obtain ⟨r, A1, B1, G1, A4, B4, G4, y1, y2, y3⟩ := h_core (m := NN + 1) hz (parts_init1 hps) f1' hP' hM (by decide)
        refine ⟨r, mem A1 B1 G1 (flN fl 1), mem A4 B4 G4 (flN fl 1), 11, 14764, ok_X6_hear_B NN ?_, ok_X7_hear NN y2, ck_0, ck_44, A4, B4, G4, flN fl 1, rfl, (cs_1 f0).1.symm, (cs_1 f0).2.symm, y3⟩
        rw [← y1]
        have eG : gInit1 (upA G 6 (upd (upd (G 6) 4 0) 3 0)) = upA (gInit1 G) 6 (upd (upd (gInit1 G 6) 4 0) 3 0) := by
          funext k
          by_cases e : k = 6
          · subst e
            rw [upA_same]
            show (if _ then _ else _) = _
            rw [if_neg (by omega), upA_same]
            rfl
          · rw [upA_ne _ _ _ e]
            show (if _ then _ else _) = (if _ then _ else _)
            rw [upA_ne _ _ _ e]
        have g6 : upA (gInit1 G) 6 (upd (upd (gInit1 G 6) 4 0) 3 0) 6 = upd (upd (G 6) 4 0) 3 0 := by
          rw [upA_same]
          rfl
        unfold f_X6_hear_B f_X2_beginReading
        rw [ck_0, sb, ev, b2s, if_neg hv0, gx_0_4, sb, s_fill1 (ly5 fl), sb, gx_0_5, sb, ck_6, sb, px_6_4, sb, px_6_3, sb, sb, upA_same, upA_twice]
        unfold f_X6_hear_B_K28 f_X2_goesOn
        rw [if_neg (show ¬ (200 : Int32) ≤ 0 by decide), gx_0_5, sb, ck_6, sb, gx_6_4, sb, gx_6_2, sb, upA_same, show upd (upd (G 6) 4 0) 3 0 4 = nI 0 from rfl, show upd (upd (G 6) 4 0) 3 0 2 = nI L from l1, if_neg (show ¬ nI L ≤ nI 0 from nI_ge (by omega) (by omega)), b2s, if_neg (show ¬ (1 : Int32) = 0 by decide), gx_0_8, sb, gx_0_4, sb, ck_0, sb, b_init1 f0, init_one (by decide), eG]
        rw [f_X6_hear_A_L28, if_neg (show ¬ (200 : Int32) ≤ 0 by decide), gx_0_5, sb, ck_6, sb]
        unfold f_X2_goesOn f_X6_makeByLevels_A
        rw [gx_6_4, sb, gx_6_2, sb, g6, show upd (upd (G 6) 4 0) 3 0 4 = nI 0 from rfl, show upd (upd (G 6) 4 0) 3 0 2 = nI L from l1, if_neg (show ¬ nI L ≤ nI 0 from nI_ge (by omega) (by omega)), b2s, if_neg (show ¬ (1 : Int32) = 0 by decide), gx_0_8, sb, gx_0_4, sb, ck_0, sb, gx_0_15 f1', sb]
        have : f_X6_hear_B_L28A NN NN = f_X6_hear_A_L28 NN NN := by
          funext a b c
          exact hr_BA NN a b c
        rw [this]
  · refine ⟨-3, mem A B G fl, mem A B G fl, 0, 0, ok_X6_hear_A NN ?_, ok_X7_hear NN ?_, ck_0, ck_44, A, B, G, fl, rfl, rfl, rfl, hR.next⟩
    · unfold f_X6_hear_A
      rw [ck_0, sb, ev, b2s, if_pos (hv.mpr hM)]
    · obtain ⟨v, v1, v2⟩ := s_mayM (A := A) (B := B) (G := G) (fl := fl) (N := NN) (by decide) n2 n5 n3 n6 (fun u hu => ⟨(hP u hu).2.1, (hP u hu).2.2.2⟩)
      unfold f_X7_hear
      rw [ck_44, sb, v1, b2s, if_pos (v2.mpr hM)]
