/-! step -/
/-- where a sign leads from a place -/
def oP (R n : Nat → Nat) (t k v : Nat) : Option Nat := ldO (PLS R n t) R n t (chd ((PLS R n t).getD k (0, 0)) v)
theorem oP_lt {R n : Nat → Nat} {t : Nat} (h0 : (PLS R n t)[0]? = some (0, 0)) : ∀ k v j, oP R n t k v = some j → j < (PLS R n t).length := by
  intro k v j h
  have hl : 0 < (PLS R n t).length := (List.getElem?_eq_some_iff.mp h0).1
  unfold oP ldO at h
  split at h
  · obtain rfl := Option.some.inj h; exact hl
  · exact (List.getElem?_eq_some_iff.mp (ix_some _ 0 j h).2).1
theorem lx_cl {R n : Nat → Nat} {s t : Nat} (hP : PF R n t) (hW : WW R n s t) (h0 : (PLS R n t)[0]? = some (0, 0)) {y : Nat × Nat} (hy : 0 < y.2) : lxI (PLS R n t) R n t y = cl (ldO (PLS R n t) R n t y) := by
  unfold lxI ldO
  by_cases hw : wdB R n y t 0 = true
  · have hni : ix y (PLS R n t) 0 = none := (ix_none _ 0).mpr (fun hm => by
      obtain ⟨j, a, b, c, d⟩ := (wdB_iff t 0).mp hw
      exact isP_W hP hW (pls_mem.mp hm) ⟨j, by omega, c, d⟩)
    rw [hni, if_pos hw]
    dsimp only
    rw [if_pos hw]
    rfl
  · rw [if_neg hw]
    cases hix : ix y (PLS R n t) 0 with
    | none =>
      dsimp only
      rw [if_neg hw]
      rfl
    | some j =>
      cases j with
      | zero =>
        exfalso
        have := (ix_some _ 0 0 hix).2
        rw [h0] at this
        rw [← Option.some.inj this] at hy
        exact absurd hy (Nat.lt_irrefl 0)
      | succ j =>
        rw [if_neg hw]
        rfl
theorem bV_ok {o : Nat → Nat → Option Nat} {P n : Nat} (ho : ∀ k v j, o k v = some j → j < P) : ∀ (d v : Nat) (Q : QL), v + d ≤ 4 → QI Q P → n < Q.length → QI (bV o P n d v Q).2 P ∧ Q.length ≤ (bV o P n d v Q).2.length := by
  intro d
  induction d with
  | zero => intro v Q _ hQ _; exact ⟨hQ, Nat.le_refl _⟩
  | succ d ih =>
    intro v Q hv hQ hn
    rw [bV]
    cases hmk : mkF (Q.getD n (0, 0, 0)).1 (fun k => o k v) P 0 0 with
    | none => exact ih (v + 1) Q (by omega) hQ hn
    | some X =>
      have hX : X < 2 ^ P := mkF_lt (fun k j hj => ho k v j hj) P 0 0 X (Nat.two_pow_pos P) hmk
      have hl2 : (Q ++ [(X, n, v)]).length = Q.length + 1 := List.length_append
      dsimp only
      by_cases hin : X ∈ Q.map Prod.fst
      · rw [if_pos hin]; exact ih (v + 1) Q (by omega) hQ hn
      · rw [if_neg hin]
        by_cases hf : Q.length = 2000
        · rw [if_pos hf]; exact ⟨hQ, Nat.le_refl _⟩
        · rw [if_neg hf]
          have hl := hQ.1
          have hQ2 := hQ.add (show Q.length < 2000 by omega) hX (Or.inl hn) (show v < 4 by omega)
          by_cases h1 : X = 1
          · rw [if_pos h1]; exact ⟨hQ2, by show Q.length ≤ (Q ++ [(X, n, v)]).length; omega⟩
          · rw [if_neg h1]
            have := ih (v + 1) (Q ++ [(X, n, v)]) (by omega) hQ2 (by omega)
            exact ⟨this.1, by omega⟩
theorem bN_ok {o : Nat → Nat → Option Nat} {P s : Nat} (hs : s ≤ 4) (ho : ∀ k v j, o k v = some j → j < P) : ∀ (f n : Nat) (Q : QL), QI Q P → QI (bN o P s f n Q).2 P := by
  intro f
  induction f with
  | zero => intro n Q h; exact h
  | succ f ih =>
    intro n Q h
    rw [bN]
    by_cases hq : Q.length ≤ n
    · rw [if_pos hq]; exact h
    · rw [if_neg hq]
      have := (bV_ok (n := n) ho s 0 Q (by omega) h (by omega)).1
      generalize bV o P n s 0 Q = r at this
      obtain ⟨b, Q1⟩ := r
      cases b with
      | some b => exact this
      | none => exact ih (n + 1) Q1 this
theorem stR_ok {o : Nat → Nat → Option Nat} {P s : Nat} (hs : s ≤ 4) (ho : ∀ k v j, o k v = some j → j < P) : QI (stR o P s).2 P := by
  have hX := flF_lt (P := P) P 0 0 (by omega) (Nat.two_pow_pos P)
  have hQ1 : QI [(flF P 0 0, 0, 0)] P := (QI.nil P).add (by decide) hX (Or.inr ⟨rfl, rfl⟩) (by omega)
  unfold stR
  split
  · exact hQ1
  · exact bN_ok hs ho 2001 0 _ hQ1
def SpF (G' : Nat → Nat → Int32) : Option Bool × QL → Prop
  | (some true, Q) => G' 98 9 = nI (Q.length - 1) ∧ G' 98 10 = nI (dpt Q)
  | _ => G' 98 9 = -1
theorem cnz_zero {T : Nat → Int32} : ∀ k, (∀ i, i < k → T i = 0) → cnz T k = 0 := by
  intro k
  induction k with
  | zero => intro _; rfl
  | succ k ih => intro h; rw [cnz, ih (fun i hi => h i (by omega)), if_pos (h k (by omega))]
section St
variable {fl : Nat → Bool} {N s t : Nat} {R n : Nat → Nat}
theorem s_find (f1 : fl 3 = true) (hN : 5000 < N) (hs : s ≤ 4) (ht : t ≤ 24) (h0t : 0 < t) (hP : PF R n t) (A : Nat → Nat → Int32) (B : Nat → Nat → Int64) (G : Nat → Nat → Int32) (hT : G 13 2 = nI t) (hW : Ws s t (B 14) (A 15) R n) :
    ∃ A' B' G' C, f_X5_find N 98 13 (nI s) (mem A B G fl) = some ((outR (stR (oP R n t) (PLS R n t).length s)).getD (-6), mem A' B' G' fl) ∧ (∀ i, i < 99 → A' i = A i) ∧ (∀ i, i < 99 → B' i = B i) ∧ (∀ i, i ≠ 98 → G' i = G i) ∧ MX A' B' G' (stR (oP R n t) (PLS R n t).length s).2 C ∧ SpF G' (stR (oP R n t) (PLS R n t).length s) := by
  obtain ⟨A1, G1, e1, e2, e3, e4, e5, e6, e7⟩ := s_layPlaces (B := B) (N := N) f1 (by omega) ht h0t hP A G hT hW
  have hpl := pls_len (R := R) (n := n) ht (fun i hi => ⟨(hW i hi).2.2.1, (hW i hi).2.2.2.1, hP.1 i hi⟩)
  have hlx : ∀ k v, k < (PLS R n t).length → v < s → A1 99 (k * 4 + v) = cl (oP R n t k v) := by
    intro k v hk hv
    have hg : (PLS R n t)[k]? = some ((PLS R n t).getD k (0, 0)) := by rw [List.getD_eq_getElem?_getD, List.getElem?_eq_getElem hk]; rfl
    rw [e5.2 k _ v hg (by omega)]
    exact lx_cl hP hW.ww e7 (Nat.succ_pos _)
  have hop := oP_lt e7
  have hP1 : 0 < (PLS R n t).length := (List.getElem?_eq_some_iff.mp e7).1
  have g6 := e5.1
  generalize hPl : (PLS R n t).length = P at hpl hlx hop hP1 g6
  have hC0 : 1 ≤ (P + 63) / 64 := by omega
  have hC9 : (P + 63) / 64 ≤ 9 := by omega
  have hPC : P ≤ 64 * ((P + 63) / 64) := by omega
  generalize hCC : (P + 63) / 64 = C at hC0 hC9 hPC
  generalize hG2 : upA (upA (upA (upA G1 98 (upd (G1 98) 7 (nI C))) 98 (upd (upd (G1 98) 7 (nI C)) 8 0)) 98 (upd (upd (upd (G1 98) 7 (nI C)) 8 0) 9 (-1))) 98 (upd (upd (upd (upd (G1 98) 7 (nI C)) 8 0) 9 (-1)) 10 0) = G2
  have g2 : G2 98 = upd (upd (upd (upd (G1 98) 7 (nI C)) 8 0) 9 (-1)) 10 0 := by rw [← hG2, upA_same]
  have g2O : ∀ i, i ≠ 98 → G2 i = G1 i := fun i hi => by rw [← hG2, upA_ne _ _ _ hi, upA_ne _ _ _ hi, upA_ne _ _ _ hi, upA_ne _ _ _ hi]
  have k6 : G2 98 6 = nI P := by rw [g2, upd_ne _ _ _ (by omega), upd_ne _ _ _ (by omega), upd_ne _ _ _ (by omega), upd_ne _ _ _ (by omega)]; exact g6
  have k7 : G2 98 7 = nI C := by rw [g2, upd_ne _ _ _ (by omega), upd_ne _ _ _ (by omega), upd_ne _ _ _ (by omega), upd_eq]
  have k8 : G2 98 8 = 0 := by rw [g2, upd_ne _ _ _ (by omega), upd_ne _ _ _ (by omega), upd_eq]
  have k9 : G2 98 9 = -1 := by rw [g2, upd_ne _ _ _ (by omega), upd_eq]
  have k10 : G2 98 10 = 0 := by rw [g2, upd_eq]
  generalize hA2 : upA A1 103 (fun j => if 0 ≤ j ∧ j < 4096 then 0 else A1 103 j) = A2
  have a2O : ∀ i, i ≠ 103 → A2 i = A1 i := fun i hi => by rw [← hA2, upA_ne _ _ _ hi]
  have a2T : ∀ i, i < 4096 → A2 103 i = 0 := fun i hi => by rw [← hA2, upA_same, if_pos ⟨Nat.zero_le _, hi⟩]
  obtain ⟨B2, b1, b2, b3⟩ := s_fillImX (A := A2) (G := G2) (fl := fl) (N := N) f1 hpl k6 P 0 N (upA B 104 (fun j => if 0 ≤ j ∧ j < 9 then 0 else B 104 j)) 0 (by omega) (by omega) (fun p hp => by
    rw [upA_same, if_pos ⟨Nat.zero_le _, hp⟩, wd_zero]
    rfl)
  have b2' : ∀ i, i ≠ 104 → B2 i = B i := fun i hi => by rw [b2 i hi, upA_ne _ _ _ hi]
  have hX := flF_lt (P := P) P 0 0 (by omega) (Nat.two_pow_pos P)
  have hM0 : MX A2 B2 G2 [] C := ⟨k7, by rw [k8]; rfl, fun j q hq => (by cases hq), ⟨fun σ hσ => Or.inl (a2T σ hσ), fun j q hq => (by cases hq), by rw [cnz_zero 4096 a2T]; exact Nat.zero_le _⟩⟩
  obtain ⟨A3, B3, G3, c1, c2, c3, c4, c5⟩ := s_takeX (fl := fl) (N := N) (n := 0) (v := 0) f1 hN hC0 hC9 hPC hM0 (QI.nil P) (by decide) b3 hX (fun h => (by cases h)) (by rw [k10]; rfl) (Or.inr ⟨rfl, rfl⟩) (by omega)
  have c2 : MX A3 B3 G3 [(flF P 0 0, 0, 0)] C := c2
  have hQ1 : QI [(flF P 0 0, 0, 0)] P := (QI.nil P).add (by decide) hX (Or.inr ⟨rfl, rfl⟩) (by omega)
  rw [if_pos (show ([] : QL).length = 0 from rfl)] at c1
  have run : f_X5_find N 98 13 (nI s) (mem A B G fl) = (if bz (flF P 0 0 = 1) = 0 then f_X5_find_L62 N N 98 (nI s) (nI 0) (mem A3 B3 G3 fl) else ((gI (mem A3 B3 G3 fl) 98 5 10).bind fun v56 => some (v56, mem A3 B3 G3 fl))) := by
    unfold f_X5_find
    rw [ck_98 f1, sb, e1, sb, gx_98_6 f1, sb, g6, show (63 : Int32) = nI 63 from rfl, nI_add, pk_shrN (by omega) ((6 : Int32) &&& 31) 6 (by decide), show (P + 63) / 2 ^ 6 = (P + 63) / 64 from rfl, hCC, px_98_7 f1, sb, px_98_8 f1, sb, upA_same, px_98_9 f1, sb, upA_same, px_98_10 f1, sb, upA_same, hG2, gx_98_4 f1, sb]
    unfold f_J7_fill_53178
    rw [lenI_mem (ly103 f1), sb]
    show ((f_J7_fill_53178_L5 N N 103 0 (nI 0) (nI 4096) (mem A1 B G2 fl)).bind _) = _
    rw [s_fillI (ly103 f1) (by decide) 0 4096 0 N A1 (by decide) (by omega), sb, hA2, ck_98 f1, sb]
    unfold f_X5_fillImage f_J7_fill_d0a16
    rw [gx_98_5 f1, sb, lenJ_mem (ly104 f1), sb]
    show (((f_J7_fill_d0a16_L6 N N 104 0 (nI 0) (nI 9) (mem A2 B G2 fl)).bind _).bind _) = _
    rw [s_fillJ (ly104 f1) (by decide) 0 9 0 N B (by decide) (by omega), sb]
    show ((f_X5_fillImage_L10 N N 98 (nI 0) _).bind _) = _
    rw [b1, sb, ck_98 f1, sb]
    show bnd2 (f_X5_takeImage N 98 (-1) (nI 0) (mem A2 B2 G2 fl)) _ = _
    rw [c1, b2s]
    rfl
  have frA : ∀ i, i < 99 → A3 i = A i := fun i hi => by rw [c3.1 i (by omega) (by omega) (by omega), a2O i (by omega), e2 i (by omega)]
  have frB : ∀ i, i < 99 → B3 i = B i := fun i hi => by rw [c3.2.1 i (by omega) (by omega), b2' i (by omega)]
  have frG : ∀ i, i ≠ 98 → G3 i = G i := fun i hi => by rw [c3.2.2.1 i hi, g2O i hi, e3 i hi]
  by_cases h1 : flF P 0 0 = 1
  · obtain ⟨q9, q10⟩ := c4 h1
    refine ⟨A3, B3, G3, C, ?_, frA, frB, frG, ?_, ?_⟩
    · rw [run, if_neg (bz1 h1), gx_98_10 f1, sb, q10]
      unfold stR
      rw [if_pos h1]
      rfl
    · unfold stR; rw [if_pos h1]; exact c2
    · unfold stR; rw [if_pos h1]; exact ⟨q9, q10⟩
  · obtain ⟨q9, q10⟩ := c5 h1
    have hCt : CtX A3 G3 (oP R n t) P s C := ⟨c2.1, fun k v hk hv => by rw [c3.1 99 (by omega) (by omega) (by omega), a2O 99 (by omega)]; exact hlx k v hk hv⟩
    obtain ⟨A4, B4, G4, d1, d2, d3, d4, d5⟩ := s_bNX (fl := fl) (N := N) f1 hN hs hpl hC0 hC9 hPC hop 2001 0 N A3 B3 G3 [(flF P 0 0, 0, 0)] (by omega) (by omega) (Nat.zero_le _) hCt c2 hQ1 (by rw [q10, k10]; rfl)
    have hst : stR (oP R n t) P s = bN (oP R n t) P s 2001 0 [(flF P 0 0, 0, 0)] := by unfold stR; rw [if_neg h1]
    rw [hst]
    refine ⟨A4, B4, G4, C, by rw [run, if_pos (bz0 h1), d1], fun i hi => by rw [d2.1 i (by omega) (by omega) (by omega), frA i hi], fun i hi => by rw [d2.2.1 i (by omega) (by omega), frB i hi], fun i hi => by rw [d2.2.2.1 i hi, frG i hi], d3, ?_⟩
    have q9' : G3 98 9 = -1 := q9.trans k9
    generalize bN (oP R n t) P s 2001 0 [(flF P 0 0, 0, 0)] = r at d5
    obtain ⟨b, Q⟩ := r
    cases b with
    | none => exact (show G4 98 9 = G3 98 9 from d5.1).trans q9'
    | some b => cases b with
      | false => exact (show G4 98 9 = G3 98 9 from d5.1).trans q9'
      | true => exact d5
end St
theorem s_stepCore {fl : Nat → Bool} (f1 : fl 3 = true) {z s t : Nat} {A : Nat → Nat → Int32} {B : Nat → Nat → Int64} {G : Nat → Nat → Int32} (h1 : Num A G s t) (hc : CodeOk z A B G fl s t) (h3 : LineOk A G) (h4 : ItemOk A G) (h5 : BrkOk G) (h6 : ChestOk A B G s t) (h8 : LmOk z A G fl)
    (c1 : G 13 2 = nI t) (c2 : G 44 4 = 1) (c3 : 0 < t) {R n : Nat → Nat} (w1 : Ws s t (B 14) (A 15) R n) (w2 : Ws s t (B 47) (A 48) R n) (hf : fo (badB R n 0 0 t) t 0 = none) :
    ∃ r A1 B1 G1 A2 B2 G2, f_X5_find NN 98 13 (nI s) (mem A B G fl) = some (r, mem A1 B1 G1 fl) ∧ f_X7_step NN 44 (mem A1 B1 G1 fl) = some (r, mem A2 B2 G2 fl) ∧ Rv (z + 1) A2 B2 G2 fl := by
  obtain ⟨n1, n2, n3, n4, n5, n6, n7, n8⟩ := id h1
  have hP := pf_of hf
  obtain ⟨A1, B1, G1, C, e1, e2, e3, e4, e5, e6⟩ := s_find (N := NN) f1 (by decide) n3 n6 c3 hP A B G c1 w1
  have w2' : Ws s t (B1 47) (A1 48) R n := by rw [e2 48 (by omega), e3 47 (by omega)]; exact w2
  have G1' : G1 44 = G 44 := e4 44 (by omega)
  obtain ⟨A2, B2, G2, g1, g2, g3, g4, g5, g6⟩ := s_findPlaces (fl := fl) (N := NN) (A := A1) (B := B1) (G := G1) (by decide) n6 n3 hP.1 (by rw [G1']; exact n2) (by rw [G1']; exact n5) w2'
  obtain ⟨-, -, -, -, -, -, -, -, p0⟩ := s_layPlaces (B := B) (N := NN) f1 (by decide) n6 c3 hP A G c1 w1
  have hop := oP_lt p0
  have hQ := stR_ok (o := oP R n t) (P := (PLS R n t).length) n3 hop
  generalize hG3 : upA (upA G2 44 (upd (G2 44) 53 0)) 44 (upd (upd (G2 44) 53 0) 50 0) = G3
  have k3O : ∀ i, i ≠ 44 → G3 i = G2 i := fun i hi => by rw [← hG3, upA_ne _ _ _ hi, upA_ne _ _ _ hi]
  have k3F : ∀ j, j ≠ 50 → j ≠ 53 → G3 44 j = G2 44 j := fun j h1 h2 => by rw [← hG3, upA_same, upd_ne _ _ _ h1, upd_ne _ _ _ h2]
  have k50 : G3 44 50 = 0 := by rw [← hG3, upA_same, upd_eq]
  have k53 : G3 44 53 = 0 := by rw [← hG3, upA_same, upd_ne _ _ _ (by omega), upd_eq]
  have hCt : CtM A2 G3 (oP R n t) (PLS R n t).length s := by
    refine ⟨by rw [k3F 1 (by omega) (by omega), g2.2.2.2 1 (by omega), G1']; exact n2, by rw [k3F 40 (by omega) (by omega)]; exact g3.1, fun k v hk hv => ?_⟩
    have hg : (PLS R n t)[k]? = some ((PLS R n t).getD k (0, 0)) := by rw [List.getD_eq_getElem?_getD, List.getElem?_eq_getElem hk]; rfl
    exact g6 k _ v hg hv
  obtain ⟨A4, B4, G4, m1, m2, m3, m4⟩ := s_stepM (fl := fl) (N := NN) (A := A2) (B := B2) (G := G3) (by decide) n3 g5 hop hCt k50 k53
  have qA : ∀ i, i < 99 → i ≠ 69 → i ≠ 70 → i ≠ 75 → i ≠ 76 → i ≠ 78 → A4 i = A i := fun i h h1 h2 h3 h4 h5 => by rw [m2.1 i h3 h4 h5, g2.1 i h1 h2, e2 i h]
  have qB : ∀ i, i < 99 → i ≠ 68 → i ≠ 74 → i ≠ 77 → B4 i = B i := fun i h h1 h2 h3 => by rw [m2.2.1 i h2 h3, g2.2.1 i h1, e3 i h]
  have qG : ∀ i, i ≠ 44 → i ≠ 98 → G4 i = G i := fun i h1 h2 => by rw [m2.2.2.1 i h1, k3O i h1, g2.2.2.1 i h1, e4 i h2]
  have qF : ∀ j, j ≠ 40 → j ≠ 50 → j ≠ 53 → G4 44 j = G 44 j := fun j h1 h2 h3 => by rw [m2.2.2.2 j h2 h3, k3F j h2 h3, g2.2.2.2 j h1, G1']
  have q98 : G4 98 = G1 98 := by rw [m2.2.2.1 98 (by omega), k3O 98 (by omega), g2.2.2.1 98 (by omega)]
  have q101 : A4 101 = A1 101 := by rw [m2.1 101 (by omega) (by omega) (by omega), g2.1 101 (by omega) (by omega)]
  have q102 : A4 102 = A1 102 := by rw [m2.1 102 (by omega) (by omega) (by omega), g2.1 102 (by omega) (by omega)]
  have hStep : StepOk A4 G4 fl := by
    refine Or.inr ⟨f1, by rw [q98, e5.2.1, m3.1], ?_⟩
    rw [q98, q101, q102]
    obtain ⟨x7, x8, xE, -⟩ := e5
    generalize stR (oP R n t) (PLS R n t).length s = r at hQ e6 m3 m4 x8 xE
    obtain ⟨b, Q⟩ := r
    cases b with
    | none => exact Or.inl ⟨e6, by rw [show G4 44 53 = G3 44 53 from m4, k53]⟩
    | some b => cases b with
      | false => exact Or.inl ⟨e6, by rw [show G4 44 53 = G3 44 53 from m4, k53]⟩
      | true =>
        obtain ⟨e61, e62⟩ := e6
        obtain ⟨m41, m42⟩ := m4
        have hQ : QI Q (PLS R n t).length := hQ
        have hl := hQ.1
        have hd := dpF_le (f := frQ Q) (Q.length - 1) (Q.length - 1)
        have hd : dpt Q ≤ Q.length - 1 := hd
        refine Or.inr ⟨dpt Q, fun j => itF (frQ Q) j (Q.length - 1), e61, e62, m41, by omega, by show Q.length - 1 < 2000; omega, fun j hj => ?_⟩
        obtain ⟨i1, i2⟩ := it_pos hQ.fr (Q.length - 1) (Q.length - 1) j (Nat.le_refl _) hj
        have hjl : itF (frQ Q) j (Q.length - 1) < Q.length := by omega
        obtain ⟨-, x101, x102⟩ := xE _ _ (getQ hjl)
        refine ⟨by show itF (frQ Q) j (Q.length - 1) < 2000; omega, ?_, ?_⟩
        · show A1 101 (itF (frQ Q) j (Q.length - 1)) = nI (itF (frQ Q) (j + 1) (Q.length - 1))
          rw [x101, if_neg (by omega), it_succ]
          rfl
        · show A1 102 (itF (frQ Q) j (Q.length - 1)) = _
          rw [x102, m42 j hj]
          rfl
  refine ⟨(outR (stR (oP R n t) (PLS R n t).length s)).getD (-6), A1, B1, G1, A4, B4, G4, e1, ?_, s, t, h1.congr ?_ ?_ ?_ ?_ ?_ ?_ ?_ ?_, hc.congr ?_ ?_ ?_ ?_ ?_ ?_ ?_ ?_ ?_ ?_ ?_ ?_, h3.congr ?_ ?_ ?_ ?_, h4.congr ?_ ?_ ?_ ?_, h5.congr ?_ ?_ ?_ ?_, h6.congr (fun p hp => ?_) ?_ ?_ (fun p hp => ?_) ?_ (fun p hp => ?_), hStep, h8.congr ?_ ?_⟩
  · unfold f_X7_step
    rw [gx_44_4, sb, G1', c2, if_neg (show ¬ (1 : Int32) = 0 by decide), ck_44, sb, s_isFreeM (s := s) n6 w2' (by rw [G1']; exact n5) (by show _ < 300000; omega), b2s, if_neg (bz1 hf), ck_44, sb, g1, sb, px_44_53, sb, px_44_50, sb, upA_same, hG3]
    exact m1
  all_goals first | (rw [qG _ (by omega) (by omega)]; done) | (rw [qF _ (by omega) (by omega) (by omega)]; done) | (rw [qA _ (by omega) (by omega) (by omega) (by omega) (by omega) (by omega)]; done) | (rw [qB _ (by omega) (by omega) (by omega) (by omega)]; done)
