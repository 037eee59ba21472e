/-! FREE: the reference lays the CODE -/
section Ly
variable {fl : Nat → Bool} {N s t al : Nat} {P : Nat → Nat} {o : Nat → Nat} {b1 b2 b3 : Nat} {lc : Nat → Nat} {un D : Nat}
/-- the table is filled -/
def TbF (b1 b2 b3 : Nat) (lc : Nat → Nat) (un D al t : Nat) (A : Nat → Nat → Int32) (B : Nat → Nat → Int64) : Prop := (∀ p, p < D → ClL b1 b2 b3 D al t A p) ∧ ∀ p, p ≤ D → BsL b1 b2 b3 lc un D al t A B p
theorem TbF.fr {A A' : Nat → Nat → Int32} {B B' : Nat → Nat → Int64} (h : TbF b1 b2 b3 lc un D al t A B) (h1 : A' 52 = A 52) (h2 : B' 51 = B 51) : TbF b1 b2 b3 lc un D al t A' B' := by
  unfold TbF ClL BsL CloF at *
  rw [h1, h2]
  exact h
theorem Wr.fr {A A' : Nat → Nat → Int32} {B B' : Nat → Nat → Int64} {cd q : Nat} {K : List (Nat × Nat)} (h : Wr A B cd o q K) (h1 : ∀ j, j < K.length → B' (cd + 1) (o (q + j)) = B (cd + 1) (o (q + j)) ∧ A' (cd + 2) (o (q + j)) = A (cd + 2) (o (q + j))) : Wr A' B' cd o q K := fun j hj => by
  rw [(h1 j hj).1, (h1 j hj).2]
  exact h j hj
theorem l24_end {A : Nat → Nat → Int32} {B : Nat → Nat → Int64} {G : Nat → Nat → Int32} (hG : G 44 3 = nI t) (n : Nat) (x1 x2 x3 x5 : Int32) : f_X7_layFree_L24 N (n + 1) 44 x1 x2 x3 (nI t) x5 (mem A B G fl) = some (mem A B G fl) := by
  rw [f_X7_layFree_L24, gx_44_3, sb, hG, if_pos (Int32.le_refl _)]
theorem s_lay24 (hN : 500 < N) (hF : FrH P s lc t) (hH : RfH (bC P 1 s) (bC P 2 s) (bC P 3 s) lc un D al t) (hinj : ∀ j1 j2, j1 < j2 → j2 < t → o j1 ≠ o j2) : ∀ (d p m : Nat) (S : List Ent) (a b c R : Nat) (L : List Ent) (A : Nat → Nat → Int32) (B : Nat → Nat → Int64) (G : Nat → Nat → Int32), p + d = D → d + 1 < m → 1 ≤ p → 0 < R → Pth P s lc t d p S a b c R → S.Perm L → OpM A B G L → LyM al P o s t A G → RfC (bC P 1 s) (bC P 2 s) (bC P 3 s) lc un D al t A B G → TbF (bC P 1 s) (bC P 2 s) (bC P 3 s) lc un D al t A B → VT al t a b c (t - R) → A 52 (ixF al p a b c (t - R)) ≠ 0 →
    ∃ A' B' G', f_X7_layFree_L24 N m 44 (nI a) (nI b) (nI c) (nI (t - R)) (nI p) (mem A B G fl) = some (mem A' B' G' fl) ∧ FrZ A A' B B' G G' ∧ Wr A' B' 46 o (t - R) (fr P s lc d p S a b c R) ∧ (∀ y, (∀ j, t - R ≤ j → j < t → o j ≠ y) → B' 47 y = B 47 y ∧ A' 48 y = A 48 y) := by
  have hF0 := hF
  obtain ⟨hs2, hs4, hP, ht, hL, hlc⟩ := hF
  have hal := hH.2.1
  have hD31 : D ≤ 31 := hH.1.2.2.2.2.2.1
  have hb4 : bC P 1 s ≤ 4 ∧ bC P 2 s ≤ 4 ∧ bC P 3 s ≤ 4 := ⟨hH.2.2.2.2.1, hH.2.2.2.2.2.1, hH.2.2.2.2.2.2.1⟩
  -- the last level
  have last : ∀ (d p m : Nat) (S : List Ent) (a b c R : Nat) (L : List Ent) (A : Nat → Nat → Int32) (B : Nat → Nat → Int64) (G : Nat → Nat → Int32), p + d = D → 1 ≤ p → 0 < R → Pth P s lc t d p S a b c R → S.Perm L → OpM A B G L → LyM al P o s t A G → RfC (bC P 1 s) (bC P 2 s) (bC P 3 s) lc un D al t A B G → TbF (bC P 1 s) (bC P 2 s) (bC P 3 s) lc un D al t A B → VT al t a b c (t - R) → A 52 (ixF al p a b c (t - R)) ≠ 0 → R ≤ a →
    ∃ A' B' G', f_X7_layFree_L24 N (m + 1 + 1) 44 (nI a) (nI b) (nI c) (nI (t - R)) (nI p) (mem A B G fl) = some (mem A' B' G' fl) ∧ FrZ A A' B B' G G' ∧ Wr A' B' 46 o (t - R) (fr P s lc d p S a b c R) ∧ (∀ y, (∀ j, t - R ≤ j → j < t → o j ≠ y) → B' 47 y = B 47 y ∧ A' 48 y = A 48 y) := by
    intro d p m S a b c R L A B G hpd hp1 hR0 hPt hSL hM hLy hC hTb hv hr hRa
    obtain ⟨h1, h2, h3, h4, h5, h6, h7, h8, h9, h10, h11, h12⟩ := hPt
    have hOL := h2.perm hSL
    have hLl : L.length ≤ 49 := by rw [← hSL.length_eq]; omega
    have hxR : t - (t - R) = R := by omega
    obtain ⟨A', B', G', TT, e1, e2, e3, e4, e5, e6, e7⟩ := s_level (fl := fl) (N := N) (P := P) (o := o) (a := a) (b := b) (c := c) (x := t - R) (p := p) (w := R) (mo := 0) hN hal hs4 ht hP hinj hb4 hLl hOL hM hLy hC (by omega) (by omega) (by omega) (by rw [← cn_perm hSL]; omega) (Or.inl rfl) (by omega) (fun A' G' q1 q2 => by
      have := s_chLast (fl := fl) (N := N) (A := A') (B := B) (G := G') (p := p) (a := a) (b := b) (c := c) (x := t - R) (by omega) hH (hC.fr (q1 54 (by omega)) rfl (q2 3 (by omega)) (q2 14 (by omega)) (q2 15 (by omega)) (q2 16 (by omega))) hv hp1 (by omega) (by rw [q1 52 (by omega)]; exact hr) (fun pD => (hTb.fr (q1 52 (by omega)) rfl).1 p pD) (fun pD => (hTb.fr (q1 52 (by omega)) rfl).2 (p + 1) (by omega)) ((hTb.fr (q1 52 (by omega)) rfl).2 p (by omega)) (by omega)
      rw [hxR] at this
      exact this) (m + 1)
    have hTT : TT = lvT p S := srt_eq _ _ e2 (List.Pairwise.filter _ h1) (e3.trans (hSL.filter _).symm)
    refine ⟨A', B', G', ?_, e5, ?_, fun y hy => e7 y (fun j q1 q2 => hy j q1 (by omega))⟩
    · rw [e1, show t - R + R = t by omega]
      exact l24_end (by rw [e5.2.2.2 3 (by omega) (by omega) (by omega) (by omega)]; exact hC.1) m _ _ _ _
    · rw [fr_last hRa, ← hTT]
      exact e6
  intro d
  induction d with
  | zero =>
    intro p m S a b c R L A B G hpd hm hp1 hR0 hPt hSL hM hLy hC hTb hv hr
    have hRa : R ≤ a := by
      have := hPt.2.2.2.2.2.2.2.1
      rw [gF] at this
      by_cases q : R ≤ a
      · exact q
      · rw [if_neg q] at this; exact absurd this (Nat.lt_irrefl _)
    obtain ⟨m, rfl⟩ : ∃ j, m = j + 1 + 1 := ⟨m - 2, by omega⟩
    exact last 0 p m S a b c R L A B G hpd hp1 hR0 hPt hSL hM hLy hC hTb hv hr hRa
  | succ d ih =>
    intro p m S a b c R L A B G hpd hm hp1 hR0 hPt hSL hM hLy hC hTb hv hr
    by_cases hRa : R ≤ a
    · obtain ⟨m, rfl⟩ : ∃ j, m = j + 1 + 1 := ⟨m - 2, by omega⟩
      exact last (d + 1) p m S a b c R L A B G hpd hp1 hR0 hPt hSL hM hLy hC hTb hv hr hRa
    obtain ⟨m, rfl⟩ : ∃ j, m = j + 1 := ⟨m - 1, by omega⟩
    have hPt0 := hPt
    obtain ⟨h1, h2, h3, h4, h5, h6, h7, h8, h9, h10, h11, h12⟩ := hPt
    have hOL := h2.perm hSL
    have hLl : L.length ≤ 49 := by rw [← hSL.length_eq]; omega
    have hxR : t - (t - R) = R := by omega
    have hfr : fr P s lc (d + 1) p S a b c R = ((lvT p S).take (chW (bC P 1 s) (bC P 2 s) (bC P 3 s) lc (d + 1) a b c R)).map wd1 ++
      fr P s lc d (p + 1) (nxL P s p (chW (bC P 1 s) (bC P 2 s) (bC P 3 s) lc (d + 1) a b c R) S)
        (min (R - chW (bC P 1 s) (bC P 2 s) (bC P 3 s) lc (d + 1) a b c R) (b + bC P 1 s * (a - chW (bC P 1 s) (bC P 2 s) (bC P 3 s) lc (d + 1) a b c R)))
        (min (R - chW (bC P 1 s) (bC P 2 s) (bC P 3 s) lc (d + 1) a b c R) (c + bC P 2 s * (a - chW (bC P 1 s) (bC P 2 s) (bC P 3 s) lc (d + 1) a b c R)))
        (min (R - chW (bC P 1 s) (bC P 2 s) (bC P 3 s) lc (d + 1) a b c R) (bC P 3 s * (a - chW (bC P 1 s) (bC P 2 s) (bC P 3 s) lc (d + 1) a b c R)))
        (R - chW (bC P 1 s) (bC P 2 s) (bC P 3 s) lc (d + 1) a b c R) := by rw [fr, if_neg hRa]
    have hchs : ∀ A' G', (∀ j, j ≠ 58 → A' j = A j) → (∀ j, j ≠ 23 → G' 44 j = G 44 j) → f_X7_choose N 44 (nI p) (nI a) (nI b) (nI c) (nI (t - R)) (mem A' B G' fl) = some (mem A' B (upA G' 44 (upd (upd (G' 44) 25 (nI (chW (bC P 1 s) (bC P 2 s) (bC P 3 s) lc (d + 1) a b c R))) 26 (nI (a - chW (bC P 1 s) (bC P 2 s) (bC P 3 s) lc (d + 1) a b c R)))) fl) := fun A' G' q1 q2 => by
      have := s_chWay (fl := fl) (N := N) (A := A') (B := B) (G := G') (p := p) (a := a) (b := b) (c := c) (x := t - R) (by omega) hH (hC.fr (q1 54 (by omega)) rfl (q2 3 (by omega)) (q2 14 (by omega)) (q2 15 (by omega)) (q2 16 (by omega))) hv hp1 (by omega) (by rw [q1 52 (by omega)]; exact hr) (fun pD => (hTb.fr (q1 52 (by omega)) rfl).1 p pD) (fun pD => (hTb.fr (q1 52 (by omega)) rfl).2 (p + 1) (by omega)) ((hTb.fr (q1 52 (by omega)) rfl).2 p (by omega)) (by omega) (by rw [hxR, show D - p = d + 1 by omega]; exact h8)
      rw [hxR, show D - p = d + 1 by omega] at this
      exact this
    generalize hw : chW (bC P 1 s) (bC P 2 s) (bC P 3 s) lc (d + 1) a b c R = w at hfr hchs
    obtain ⟨k1, k2, k3, k4, k5, k6⟩ := pth_step hF0 hPt0 hRa hw.symm
    have hcnp : cn p L = a := by rw [← cn_perm hSL, ← lvT_len]; exact k3
    obtain ⟨A1, B1, G1, TT, e1, e2, e3, e4, e5, e6, e7⟩ := s_level (fl := fl) (N := N) (P := P) (o := o) (a := a) (b := b) (c := c) (x := t - R) (p := p) (w := w) (mo := a - w) hN hal hs4 ht hP hinj hb4 hLl hOL hM hLy hC (by omega) (by omega) (by omega) (by omega) (Or.inr k2) (by omega) hchs m
    have hTT : TT = lvT p S := srt_eq _ _ e2 (List.Pairwise.filter _ h1) (e3.trans (hSL.filter _).symm)
    subst hTT
    have htk : ((lvT p S).drop w).take (a - w) = (lvT p S).drop w := List.take_of_length_le (by rw [List.length_drop]; omega)
    rw [htk] at e4
    have hR1 : t - (R - w) = t - R + w := by omega
    have hSL1 : (nxL P s p w S).Perm (L.filter (fun z => decide (p < z.2.2)) ++ kF P s ((lvT p S).drop w)) := by
      have hp1 := insA_perm (lvV p S ++ kF P s ((lvT p S).drop w)) []
      rw [List.nil_append] at hp1
      exact hp1.trans ((hSL.filter _).append_right _)
    rw [hxR] at e1
    have hg6 : gF (bC P 1 s) (bC P 2 s) (bC P 3 s) lc d (min (R - w) (b + bC P 1 s * (a - w))) (min (R - w) (c + bC P 2 s * (a - w))) (min (R - w) (bC P 3 s * (a - w))) (R - w) < EV := k6.2.2.2.2.2.2.2.1
    have hsz : smF (bC P 1 s) (bC P 2 s) (bC P 3 s) b c (t - (t - R)) w (a - w) ≠ 0 := by
      rw [hxR]
      unfold smF
      intro q
      rw [show min (R - w) (b + bC P 1 s * (a - w)) = 0 by omega, show min (R - w) (c + bC P 2 s * (a - w)) = 0 by omega, show min (R - w) (bC P 3 s * (a - w)) = 0 by omega, gF_dead _ _ _ lc _ _ (by omega)] at hg6
      exact Nat.lt_irrefl _ hg6
    have hmw : w ≤ mwF p a (t - (t - R)) := by rw [hxR]; unfold mwF; rw [if_neg (by omega)]; omega
    have hmm : a - w ≤ mmF D p a (t - (t - R)) w := by rw [hxR]; unfold mmF; rw [if_neg (by omega)]; omega
    have hrn := hTb.1 p (by omega) a b c (t - R) hv hr w (a - w) hmw (by omega) hmm hsz
    have hvn := hv.next (k := w) (m := a - w) hH (by omega)
    unfold tgF at hrn
    rw [hxR] at hrn hvn
    obtain ⟨A2, B2, G2, g1, g2, g3, g4⟩ := ih (p + 1) m (nxL P s p w S) _ _ _ (R - w) _ A1 B1 G1 (by omega) (by omega) (by omega) (by omega) k6 hSL1 e4 (hLy.fr (e5.1 45 (by omega) (by omega) (by omega) (by omega)) (e5.1 50 (by omega) (by omega) (by omega) (by omega)) (e5.2.2.2 1 (by omega) (by omega) (by omega) (by omega)) (e5.2.2.2 14 (by omega) (by omega) (by omega) (by omega))) (hC.fr (e5.1 54 (by omega) (by omega) (by omega) (by omega)) (e5.2.1 53 (by omega) (by omega)) (e5.2.2.2 3 (by omega) (by omega) (by omega) (by omega)) (e5.2.2.2 14 (by omega) (by omega) (by omega) (by omega)) (e5.2.2.2 15 (by omega) (by omega) (by omega) (by omega)) (e5.2.2.2 16 (by omega) (by omega) (by omega) (by omega))) (hTb.fr (e5.1 52 (by omega) (by omega) (by omega) (by omega)) (e5.2.1 51 (by omega) (by omega))) (by rw [hR1, Nat.min_comm (R - w), Nat.min_comm (R - w), Nat.min_comm (R - w)]; exact hvn) (by
      rw [e5.1 52 (by omega) (by omega) (by omega) (by omega), hR1, Nat.min_comm (R - w), Nat.min_comm (R - w), Nat.min_comm (R - w)]
      exact hrn)
    refine ⟨A2, B2, G2, ?_, e5.trans g2, ?_, fun y hy => ?_⟩
    · rw [e1, ← hR1, Nat.min_comm _ (R - w), Nat.min_comm _ (R - w), Nat.min_comm _ (R - w)]
      exact g1
    · rw [hfr]
      have hwl : (((lvT p S).take w).map wd1).length = w := by rw [List.length_map, List.length_take]; omega
      refine Wr.app (e6.fr (fun j hj => ?_)) ?_
      · rw [hwl] at hj
        exact g4 (o (t - R + j)) (fun j2 q1 q2 q3 => hinj (t - R + j) j2 (by omega) q2 q3.symm)
      · rw [hwl, ← hR1]
        exact g3
    · obtain ⟨v1, v2⟩ := g4 y (fun j q1 q2 => hy j (by omega) q2)
      obtain ⟨v3, v4⟩ := e7 y (fun j q1 q2 => hy j q1 (by omega))
      rw [v1, v2, v3, v4]
      exact ⟨rfl, rfl⟩
theorem s_layFree (hN : 500 < N) (hF : FrH P s lc t) (ht0 : 0 < t) (hH : RfH (bC P 1 s) (bC P 2 s) (bC P 3 s) lc un D al t) (hinj : ∀ j1 j2, j1 < j2 → j2 < t → o j1 ≠ o j2) (hg : gF (bC P 1 s) (bC P 2 s) (bC P 3 s) lc (D - 1) (min t (bC P 1 s)) (min t (bC P 2 s)) (min t (bC P 3 s)) t < EV) (A : Nat → Nat → Int32) (B : Nat → Nat → Int64) (G : Nat → Nat → Int32) (hLy : LyM al P o s t A G) (hC : RfC (bC P 1 s) (bC P 2 s) (bC P 3 s) lc un D al t A B G) (hTb : TbF (bC P 1 s) (bC P 2 s) (bC P 3 s) lc un D al t A B) (hr : A 52 (ixF al 0 1 0 0 0) ≠ 0) :
    ∃ A' B' G', f_X7_layFree N 44 (mem A B G fl) = some (mem A' B' G' fl) ∧ FrZ A A' B B' G G' ∧ Wr A' B' 46 o 0 (fr P s lc (D - 1) 1 (St1 P s) (min t (bC P 1 s)) (min t (bC P 2 s)) (min t (bC P 3 s)) t) := by
  have hF0 := hF
  obtain ⟨hs2, hs4, hP, ht, hL, hlc⟩ := hF
  have hal := hH.2.1
  have hD31 : D ≤ 31 := hH.1.2.2.2.2.2.1
  have hD1 : 1 ≤ D := hH.2.2.2.2.2.2.2
  have hb4 : bC P 1 s ≤ 4 ∧ bC P 2 s ≤ 4 ∧ bC P 3 s ≤ 4 := ⟨hH.2.2.2.2.1, hH.2.2.2.2.2.1, hH.2.2.2.2.2.2.1⟩
  have hv0 : VT al t 1 0 0 0 := ⟨ht0, fun _ => ⟨by omega, rfl, rfl⟩, fun _ => by omega⟩
  generalize hG1 : upA G 44 (upd (G 44) 21 (nI 0)) = G1
  have g0 : ∀ k, k ≠ 44 → G1 k = G k := fun k hk => by rw [← hG1, upA_ne _ _ _ hk]
  have g44 : ∀ f, f ≠ 21 → G1 44 f = G 44 f := fun f hf => by rw [← hG1, upA_same, upd_ne _ _ _ hf]
  obtain ⟨A2, B2, G2, c1, c2, c3, c4, c5⟩ := s_openM (fl := fl) (N := N) (A := A) (B := B) (G := G1) (L := []) (by decide) ⟨by rw [← hG1, upA_same, upd_eq]; rfl, fun k x hx => by cases hx⟩ ((0, 0, 0) : Ent)
  rw [List.nil_append] at c2
  have hO0 : OkF s [((0, 0, 0) : Ent)] := by
    refine ⟨⟨List.pairwise_singleton _ _, fun e he => ?_⟩, fun e he => ?_⟩
    · rw [List.mem_singleton] at he
      subst he
      exact ⟨Wv0 s, by decide, by decide⟩
    · rw [List.mem_singleton] at he
      subst he
      exact ⟨by decide, by decide⟩
  have hLy2 : LyM al P o s t A2 G2 := hLy.fr (c3.1 45 (by omega) (by omega) (by omega)) (c3.1 50 (by omega) (by omega) (by omega)) (by rw [c3.2.2.2 1 (by omega) (by omega), g44 1 (by omega)]) (by rw [c3.2.2.2 14 (by omega) (by omega), g44 14 (by omega)])
  have hC2 : RfC (bC P 1 s) (bC P 2 s) (bC P 3 s) lc un D al t A2 B2 G2 := hC.fr (c3.1 54 (by omega) (by omega) (by omega)) (c3.2.1 53 (by omega)) (by rw [c3.2.2.2 3 (by omega) (by omega), g44 3 (by omega)]) (by rw [c3.2.2.2 14 (by omega) (by omega), g44 14 (by omega)]) (by rw [c3.2.2.2 15 (by omega) (by omega), g44 15 (by omega)]) (by rw [c3.2.2.2 16 (by omega) (by omega), g44 16 (by omega)])
  have hTb2 : TbF (bC P 1 s) (bC P 2 s) (bC P 3 s) lc un D al t A2 B2 := hTb.fr (c3.1 52 (by omega) (by omega) (by omega)) (c3.2.1 51 (by omega))
  have hr2 : A2 52 (ixF al 0 1 0 0 0) ≠ 0 := by rw [c3.1 52 (by omega) (by omega) (by omega)]; exact hr
  obtain ⟨N', hN'⟩ : ∃ j, N = j + 1 := ⟨N - 1, by omega⟩
  obtain ⟨A3, B3, G3, TT, e1, e2, e3, e4, e5, e6, e7⟩ := s_level (fl := fl) (N := N) (P := P) (o := o) (a := 1) (b := 0) (c := 0) (x := 0) (p := 0) (w := 0) (mo := 1) hN hal hs4 ht hP hinj hb4 (by decide) hO0 c2 hLy2 hC2 (by omega) ht0 (by omega) (by decide) (Or.inr (by omega)) (by omega) (fun A' G' q1 q2 =>
    s_chFirst (fl := fl) (N := N) (A := A') (B := B2) (G := G') (by omega) hH (hC2.fr (q1 54 (by omega)) rfl (q2 3 (by omega)) (q2 14 (by omega)) (q2 15 (by omega)) (q2 16 (by omega))) ht0 hv0 (by rw [q1 52 (by omega)]; exact hr2) ((hTb2.fr (q1 52 (by omega)) rfl).1 0 (by omega)) ((hTb2.fr (q1 52 (by omega)) rfl).2 (0 + 1) (by omega)) ((hTb2.fr (q1 52 (by omega)) rfl).2 0 (by omega)) hg) N'
  have hTT : TT = [((0, 0, 0) : Ent)] := srt_eq _ _ e2 (List.pairwise_singleton _ _) e3
  subst hTT
  have hk0 : kF P s (([((0, 0, 0) : Ent)].drop 0).take 1) = kidL P s (0, 0, 0) s 0 := by
    show kidL P s (0, 0, 0) s 0 ++ kF P s [] = _
    rw [show kF P s [] = [] from rfl, List.append_nil]
  have hf0 : [((0, 0, 0) : Ent)].filter (fun z => decide (0 < z.2.2)) = [] := rfl
  rw [hk0, hf0, List.nil_append] at e4
  have hpm : (St1 P s).Perm (kidL P s (0, 0, 0) s 0) := by
    have := insA_perm (kidL P s (0, 0, 0) s 0) []
    rw [List.nil_append] at this
    exact this
  obtain ⟨hp0, hp1⟩ := pth_0 hF0 hg
  have hx0 : t - 0 - 0 = t := rfl
  have hn1 : ∀ j, min (0 + bC P j s * 1) (t - 0 - 0) = min t (bC P j s) := fun j => by rw [Nat.mul_one, Nat.zero_add, hx0, Nat.min_comm]
  have hn3 : min (bC P 3 s * 1) (t - 0 - 0) = min t (bC P 3 s) := by rw [Nat.mul_one, hx0, Nat.min_comm]
  rw [hn1 1, hn1 2, hn3] at e1
  have hsz : smF (bC P 1 s) (bC P 2 s) (bC P 3 s) 0 0 (t - 0) 0 1 ≠ 0 := by
    unfold smF
    rw [hn1 1, hn1 2, hn3]
    intro q
    rw [show min t (bC P 1 s) = 0 by omega, show min t (bC P 2 s) = 0 by omega, show min t (bC P 3 s) = 0 by omega, gF_dead _ _ _ lc _ _ ht0] at hg
    exact Nat.lt_irrefl _ hg
  have hmm : 1 ≤ mmF D 0 1 (t - 0) 0 := by unfold mmF; rw [if_neg (by omega)]; omega
  have hrn := hTb2.1 0 (by omega) 1 0 0 0 hv0 hr2 0 1 (Nat.zero_le _) (by omega) hmm hsz
  have hvn := hv0.next (k := 0) (m := 1) hH (by omega)
  unfold tgF at hrn
  rw [hn1 1, hn1 2, hn3] at hrn hvn
  obtain ⟨A4, B4, G4, k1, k2, k3, k4⟩ := s_lay24 (fl := fl) (N := N) (o := o) hN hF0 hH hinj (D - 1) 1 N' (St1 P s) _ _ _ t _ A3 B3 G3 (by omega) (by omega) (Nat.le_refl _) ht0 hp0 hpm e4 (hLy2.fr (e5.1 45 (by omega) (by omega) (by omega) (by omega)) (e5.1 50 (by omega) (by omega) (by omega) (by omega)) (e5.2.2.2 1 (by omega) (by omega) (by omega) (by omega)) (e5.2.2.2 14 (by omega) (by omega) (by omega) (by omega))) (hC2.fr (e5.1 54 (by omega) (by omega) (by omega) (by omega)) (e5.2.1 53 (by omega) (by omega)) (e5.2.2.2 3 (by omega) (by omega) (by omega) (by omega)) (e5.2.2.2 14 (by omega) (by omega) (by omega) (by omega)) (e5.2.2.2 15 (by omega) (by omega) (by omega) (by omega)) (e5.2.2.2 16 (by omega) (by omega) (by omega) (by omega))) (hTb2.fr (e5.1 52 (by omega) (by omega) (by omega) (by omega)) (e5.2.1 51 (by omega) (by omega))) (by rw [Nat.sub_self]; exact hvn) (by
      rw [e5.1 52 (by omega) (by omega) (by omega) (by omega), Nat.sub_self]
      exact hrn)
  rw [Nat.sub_self] at k1 k3
  refine ⟨A4, B4, G4, ?_, ⟨fun k w1 w2 w3 w4 => by rw [k2.1 k w1 w2 w3 w4, e5.1 k w1 w2 w3 w4, c3.1 k w2 w3 w4], fun k w1 w2 => by rw [k2.2.1 k w1 w2, e5.2.1 k w1 w2, c3.2.1 k w2], fun k w1 => by rw [k2.2.2.1 k w1, e5.2.2.1 k w1, c3.2.2.1 k w1, g0 k w1], fun f w1 w2 w3 w4 => by rw [k2.2.2.2 f w1 w2 w3 w4, e5.2.2.2 f w1 w2 w3 w4, c3.2.2.2 f w1 w2, g44 f w1]⟩, k3⟩
  unfold f_X7_layFree
  rw [show pV (mem A B G fl) 44 7 21 (.int (0 : Int32)) = _ from px_44_21 (nI 0), sb, hG1, ck_44, sb, show f_X7_open N 44 (0 : Int64) (0 : Int32) (0 : Int32) (mem A B G1 fl) = _ from c1, sb]
  rw [← hN'] at e1
  rw [show f_X7_layFree_L24 N N 44 (1 : Int32) (0 : Int32) (0 : Int32) (0 : Int32) (0 : Int32) (mem A2 B2 G2 fl) = _ from e1]
  exact k1
end Ly
