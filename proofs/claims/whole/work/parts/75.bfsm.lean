/-! the way back, and the reference's search -/
def itF (f : Nat → Nat) : Nat → Nat → Nat
  | 0, j => j
  | i + 1, j => itF f i (f j)
def dpF (f : Nat → Nat) : Nat → Nat → Nat
  | 0, _ => 0
  | e + 1, j => if j = 0 then 0 else dpF f e (f j) + 1
def frQ (Q : QL) (j : Nat) : Nat := (Q.getD j (0, 0, 0)).2.1
def byQ (Q : QL) (j : Nat) : Nat := (Q.getD j (0, 0, 0)).2.2
def dpt (Q : QL) : Nat := dpF (frQ Q) (Q.length - 1) (Q.length - 1)
theorem dpF_le {f : Nat → Nat} : ∀ e j, dpF f e j ≤ e := by
  intro e
  induction e with
  | zero => intro j; exact Nat.le_refl _
  | succ e ih =>
    intro j
    rw [dpF]
    split
    · omega
    · have := ih (f j); omega
theorem it_pos {f : Nat → Nat} (hf : ∀ j, 0 < j → f j < j) : ∀ e j i, j ≤ e → i < dpF f e j → 0 < itF f i j ∧ itF f i j ≤ j := by
  intro e
  induction e with
  | zero => intro j i _ h; exact absurd h (Nat.not_lt_zero _)
  | succ e ih =>
    intro j i hj h
    rw [dpF] at h
    by_cases h0 : j = 0
    · rw [if_pos h0] at h; exact absurd h (Nat.not_lt_zero _)
    · rw [if_neg h0] at h
      have hfj := hf j (by omega)
      cases i with
      | zero => exact ⟨by show 0 < j; omega, Nat.le_refl _⟩
      | succ i =>
        have := ih (f j) i (by omega) (by omega)
        show 0 < itF f i (f j) ∧ itF f i (f j) ≤ j
        omega
theorem it_succ {f : Nat → Nat} : ∀ i j, itF f (i + 1) j = f (itF f i j) := by
  intro i
  induction i with
  | zero => intro j; rfl
  | succ i ih => intro j; show itF f (i + 1) (f j) = _; rw [ih]; rfl
theorem getQ {Q : QL} {j : Nat} (h : j < Q.length) : Q[j]? = some (Q.getD j (0, 0, 0)) := by
  rw [List.getD_eq_getElem?_getD, List.getElem?_eq_getElem h]; rfl
theorem QI.fr {Q : QL} {P : Nat} (h : QI Q P) : ∀ j, 0 < j → frQ Q j < j := by
  intro j hj
  by_cases e : j < Q.length
  · exact (h.2 j _ (getQ e)).2.1 hj
  · unfold frQ
    rw [List.getD_eq_getElem?_getD, List.getElem?_eq_none (by omega)]
    exact hj
section Rs
variable {B : Nat → Nat → Int64} {fl : Nat → Bool} {N P s : Nat} {Q : QL}
theorem s_stepTo1 {A : Nat → Nat → Int32} {G : Nat → Nat → Int32} (hQ : QI Q P) (hM : MM A B G Q) (x : Int32) : ∀ (e j m c : Nat), j ≤ e → j < Q.length → e < m → f_X7_stepTo_L4 N m 44 x (nI c) (nI j) (mem A B G fl) = f_X7_stepTo_K21 N 44 x (nI (c + dpF (frQ Q) e j)) (mem A B G fl) := by
  have hl := hQ.1
  intro e
  induction e with
  | zero =>
    intro j m c h hj hm
    obtain ⟨m, rfl⟩ : ∃ j, m = j + 1 := ⟨m - 1, by omega⟩
    rw [f_X7_stepTo_L4, show j = 0 by omega, if_pos (by decide)]
    rfl
  | succ e ih =>
    intro j m c h hj hm
    obtain ⟨m, rfl⟩ : ∃ j, m = j + 1 := ⟨m - 1, by omega⟩
    rw [f_X7_stepTo_L4, dpF]
    by_cases h0 : j = 0
    · rw [if_pos h0, if_pos (show nI j ≤ 0 from nI_le (b := 0) (by omega) (by omega))]
      rfl
    · have hfj := hQ.fr j (by omega)
      have h75 : A 75 j = nI (frQ Q j) := (hM.2 j _ (getQ hj)).2.1
      rw [if_neg h0, if_neg (nI_nle (by omega) (by omega)), gx_44_48, sb, ldI_n (ly75 fl) (by omega) (by decide), sb, h75, nI_1, ih (frQ Q j) m (c + 1) (by omega) (by omega) (by omega), show c + 1 + dpF (frQ Q) e (frQ Q j) = c + (dpF (frQ Q) e (frQ Q j) + 1) by omega]
theorem s_stepTo2 {G : Nat → Nat → Int32} (hQ : QI Q P) : ∀ (e j m : Nat) (A : Nat → Nat → Int32), j ≤ e → j < Q.length → e < m → MM A B G Q →
    ∃ A', f_X7_stepTo_L28 N m 44 (nI (dpF (frQ Q) e j)) (nI j) (mem A B G fl) = some (G 44 53, mem A' B G fl) ∧ (∀ i, i ≠ 78 → A' i = A i) ∧ (∀ i, i < dpF (frQ Q) e j → A' 78 (dpF (frQ Q) e j - 1 - i) = nI (byQ Q (itF (frQ Q) i j))) ∧ (∀ i, dpF (frQ Q) e j ≤ i → A' 78 i = A 78 i) := by
  have hl := hQ.1
  intro e
  induction e with
  | zero =>
    intro j m A h hj hm hM
    obtain ⟨m, rfl⟩ : ∃ j, m = j + 1 := ⟨m - 1, by omega⟩
    refine ⟨A, ?_, fun _ _ => rfl, fun i hi => absurd hi (Nat.not_lt_zero _), fun _ _ => rfl⟩
    rw [f_X7_stepTo_L28, show j = 0 by omega, if_pos (by decide), gx_44_53, sb]
  | succ e ih =>
    intro j m A h hj hm hM
    obtain ⟨m, rfl⟩ : ∃ j, m = j + 1 := ⟨m - 1, by omega⟩
    rw [dpF]
    by_cases h0 : j = 0
    · rw [if_pos h0]
      refine ⟨A, ?_, fun _ _ => rfl, fun i hi => absurd hi (Nat.not_lt_zero _), fun _ _ => rfl⟩
      rw [f_X7_stepTo_L28, if_pos (show nI j ≤ 0 from nI_le (b := 0) (by omega) (by omega)), gx_44_53, sb]
    · rw [if_neg h0]
      have hfj := hQ.fr j (by omega)
      obtain ⟨-, h75, h76⟩ := hM.2 j _ (getQ hj)
      have h75 : A 75 j = nI (frQ Q j) := h75
      have h76 : A 76 j = nI (byQ Q j) := h76
      have hd := dpF_le (f := frQ Q) e (frQ Q j)
      generalize hA1 : upA A 78 (upd (A 78) (dpF (frQ Q) e (frQ Q j)) (nI (byQ Q j))) = A1
      have q1 : ∀ i, i ≠ 78 → A1 i = A i := by subst hA1; exact fun i hi => upA_ne _ _ _ hi
      have q2 : A1 78 = upd (A 78) (dpF (frQ Q) e (frQ Q j)) (nI (byQ Q j)) := by subst hA1; exact upA_same _ _ _
      have hM1 : MM A1 B G Q := ⟨hM.1, fun i q hq => by rw [q1 75 (by omega), q1 76 (by omega)]; exact hM.2 i q hq⟩
      obtain ⟨A', g1, g2, g3, g4⟩ := ih (frQ Q j) m A1 (by omega) (by omega) (by omega) hM1
      have h75' : A1 75 j = nI (frQ Q j) := by rw [q1 75 (by omega)]; exact h75
      have hdj : dpF (frQ Q) e (frQ Q j) < 2000 := by
        have := dpF_le (f := frQ Q) (frQ Q j) (frQ Q j)
        have h2 : dpF (frQ Q) e (frQ Q j) = dpF (frQ Q) (frQ Q j) (frQ Q j) := by
          have key : ∀ a b x, x ≤ a → x ≤ b → dpF (frQ Q) a x = dpF (frQ Q) b x := by
            intro a
            induction a with
            | zero =>
              intro b x h1 h2
              have : x = 0 := by omega
              subst this
              cases b with
              | zero => rfl
              | succ b => rw [dpF, dpF, if_pos rfl]
            | succ a iha =>
              intro b x h1 h2
              cases b with
              | zero =>
                have : x = 0 := by omega
                subst this
                rw [dpF, dpF, if_pos rfl]
              | succ b =>
                rw [dpF, dpF]
                by_cases hx : x = 0
                · rw [if_pos hx, if_pos hx]
                · have := hQ.fr x (by omega)
                  rw [if_neg hx, if_neg hx, iha b (frQ Q x) (by omega) (by omega)]
          exact key e (frQ Q j) (frQ Q j) (by omega) (Nat.le_refl _)
        omega
      refine ⟨A', ?_, fun i hi => (g2 i hi).trans (q1 i hi), fun i hi => ?_, fun i hi => ?_⟩
      · rw [f_X7_stepTo_L28, if_neg (nI_nle (by omega) (by omega)), gx_44_52, sb, gx_44_49, sb, ldI_n (ly76 fl) (by omega) (by decide), sb, h76, pk_m1, stI_n (ly78 fl) hdj (by decide), sb, hA1, gx_44_48, sb, ldI_n (ly75 fl) (by omega) (by decide), sb, h75', g1]
      · cases i with
        | zero =>
          show A' 78 (dpF (frQ Q) e (frQ Q j) + 1 - 1 - 0) = nI (byQ Q j)
          rw [show dpF (frQ Q) e (frQ Q j) + 1 - 1 - 0 = dpF (frQ Q) e (frQ Q j) by omega, g4 _ (Nat.le_refl _), q2, upd_eq]
        | succ i =>
          show A' 78 (dpF (frQ Q) e (frQ Q j) + 1 - 1 - (i + 1)) = nI (byQ Q (itF (frQ Q) i (frQ Q j)))
          rw [show dpF (frQ Q) e (frQ Q j) + 1 - 1 - (i + 1) = dpF (frQ Q) e (frQ Q j) - 1 - i by omega]
          exact g3 i (by omega)
      · rw [g4 i (by omega), q2, upd_ne _ _ _ (by omega)]
def outR : Option Bool × QL → Option Int32
  | (none, _) => none
  | (some false, _) => some (-7)
  | (some true, Q) => some (nI (dpt Q))
def SpM (A : Nat → Nat → Int32) (G G' : Nat → Nat → Int32) : Option Bool × QL → Prop
  | (some true, Q) => G' 44 53 = nI (dpt Q) ∧ ∀ i, i < dpt Q → A 78 (dpt Q - 1 - i) = nI (byQ Q (itF (frQ Q) i (Q.length - 1)))
  | _ => G' 44 53 = G 44 53
/-- what the reference's search leaves alone -/
def FrS (A A' : Nat → Nat → Int32) (B B' : Nat → Nat → Int64) (G G' : Nat → Nat → Int32) : Prop := (∀ i, i ≠ 75 → i ≠ 76 → i ≠ 78 → A' i = A i) ∧ (∀ i, i ≠ 74 → i ≠ 77 → B' i = B i) ∧ (∀ i, i ≠ 44 → G' i = G i) ∧ (∀ j, j ≠ 50 → j ≠ 53 → G' 44 j = G 44 j)
theorem FrS.trans {A A' A2 : Nat → Nat → Int32} {B B' B2 : Nat → Nat → Int64} {G G' G2 : Nat → Nat → Int32} (h : FrS A A' B B' G G') (k : FrS A' A2 B' B2 G' G2) : FrS A A2 B B2 G G2 := ⟨fun i a b c => (k.1 i a b c).trans (h.1 i a b c), fun i a b => (k.2.1 i a b).trans (h.2.1 i a b), fun i a => (k.2.2.1 i a).trans (h.2.2.1 i a), fun i a b => (k.2.2.2 i a b).trans (h.2.2.2 i a b)⟩
theorem s_stepTo {A : Nat → Nat → Int32} {G : Nat → Nat → Int32} (hN : 3000 < N) (hQ : QI Q P) (h0 : 0 < Q.length) (hM : MM A B G Q) :
    ∃ A' G', f_X7_stepTo N 44 (nI (Q.length - 1)) (mem A B G fl) = some (nI (dpt Q), mem A' B G' fl) ∧ FrS A A' B B G G' ∧ MM A' B G' Q ∧ SpM A' G G' (some true, Q) := by
  have hl := hQ.1
  generalize hG1 : upA G 44 (upd (G 44) 53 (nI (0 + dpt Q))) = G1
  have hM1 : MM A B G1 Q := ⟨by rw [← hG1, upA_same, upd_ne _ _ _ (by omega)]; exact hM.1, hM.2⟩
  have h53 : G1 44 53 = nI (dpt Q) := by rw [← hG1, upA_same, upd_eq, Nat.zero_add]
  obtain ⟨A', g1, g2, g3, g4⟩ := s_stepTo2 (fl := fl) (N := N) hQ (Q.length - 1) (Q.length - 1) N A (Nat.le_refl _) (by omega) (by omega) hM1
  refine ⟨A', G1, ?_, ⟨fun i _ _ c => g2 i c, fun _ _ _ => rfl, fun i hi => by rw [← hG1, upA_ne _ _ _ hi], fun j _ hj => by rw [← hG1, upA_same, upd_ne _ _ _ hj]⟩, ⟨hM1.1, fun i q hq => by rw [g2 75 (by omega), g2 76 (by omega)]; exact hM1.2 i q hq⟩, h53, g3⟩
  unfold f_X7_stepTo
  rw [show (0 : Int32) = nI 0 from rfl, s_stepTo1 hQ hM (nI (Q.length - 1)) (Q.length - 1) (Q.length - 1) N 0 (Nat.le_refl _) (by omega) (by omega)]
  unfold f_X7_stepTo_K21
  rw [px_44_53, sb]
  show f_X7_stepTo_L28 N N 44 (nI (0 + dpt Q)) (nI (Q.length - 1)) (mem A B (upA G 44 (upd (G 44) 53 (nI (0 + dpt Q)))) fl) = _
  rw [hG1, Nat.zero_add]
  show f_X7_stepTo_L28 N N 44 (nI (dpF (frQ Q) (Q.length - 1) (Q.length - 1))) (nI (Q.length - 1)) (mem A B G1 fl) = _
  rw [g1, h53]
/-- what stays as it is while the reference searches -/
def CtM (A : Nat → Nat → Int32) (G : Nat → Nat → Int32) (o : Nat → Nat → Option Nat) (P s : Nat) : Prop := G 44 1 = nI s ∧ G 44 40 = nI P ∧ ∀ k v, k < P → v < s → A 70 (4 * k + v) = pI (o k v)
theorem CtM.fr {A A' : Nat → Nat → Int32} {B B' : Nat → Nat → Int64} {G G' : Nat → Nat → Int32} {o : Nat → Nat → Option Nat} (h : CtM A G o P s) (k : FrS A A' B B' G G') : CtM A' G' o P s := ⟨by rw [k.2.2.2 1 (by omega) (by omega)]; exact h.1, by rw [k.2.2.2 40 (by omega) (by omega)]; exact h.2.1, fun i v a b => by rw [k.1 70 (by omega) (by omega) (by omega)]; exact h.2.2 i v a b⟩
theorem s_bVM {o : Nat → Nat → Option Nat} (hN : 3000 < N) (hs : s ≤ 4) (hP : P ≤ 553) (ho : ∀ k v j, o k v = some j → j < P) (k114 : Nat → Int32 → A_M → Option (Int32 × A_M)) {n : Nat} : ∀ (d v m : Nat) (A : Nat → Nat → Int32) (B : Nat → Nat → Int64) (G : Nat → Nat → Int32) (Q : QL), v + d = s → d < m → CtM A G o P s → MM A B G Q → QI Q P → n < Q.length →
    ∃ A' B' G', f_X7_step_L124 N k114 m 44 (nI n) (nI v) (mem A B G fl) = (match outR (bV o P n d v Q) with
      | none => k114 44 (nI (n + 1)) (mem A' B' G' fl)
      | some x => some (x, mem A' B' G' fl)) ∧ FrS A A' B B' G G' ∧ MM A' B' G' (bV o P n d v Q).2 ∧ QI (bV o P n d v Q).2 P ∧ Q.length ≤ (bV o P n d v Q).2.length ∧ SpM A' G G' (bV o P n d v Q) := by
  intro d
  induction d with
  | zero =>
    intro v m A B G Q h hm hC hM hQ hn
    obtain ⟨m, rfl⟩ : ∃ j, m = j + 1 := ⟨m - 1, by omega⟩
    refine ⟨A, B, G, ?_, ⟨fun _ _ _ _ => rfl, fun _ _ _ => rfl, fun _ _ => rfl, fun _ _ _ => rfl⟩, hM, hQ, Nat.le_refl _, rfl⟩
    rw [f_X7_step_L124, gx_44_1, sb, hC.1, if_pos (nI_le (by omega) (by omega)), f_X7_step_K197, nI_1]
    rfl
  | succ d ih =>
    intro v m A B G Q h hm hC hM hQ hn
    obtain ⟨m, rfl⟩ : ∃ j, m = j + 1 := ⟨m - 1, by omega⟩
    have hl := hQ.1
    have hS := (hM.2 n _ (getQ hn)).1
    obtain ⟨B1, e1, e2, e3⟩ := s_makes (A := A) (G := G) (fl := fl) (N := N) (o := fun k => o k v) (X := (Q.getD n (0, 0, 0)).1) hP (by omega) hC.2.1 (show n < 2000 by omega) (show v < 4 by omega) (fun k hk => ⟨hC.2.2 k v hk (by omega), fun j hj => by have := ho k v j hj; omega⟩) B hS
    have fr1 : FrS A A B B1 G G := ⟨fun _ _ _ _ => rfl, fun i _ b => e2 i b, fun _ _ => rfl, fun _ _ _ => rfl⟩
    have hM1 : MM A B1 G Q := ⟨hM.1, fun j q hq => by rw [e2 74 (by omega)]; exact hM.2 j q hq⟩
    rw [f_X7_step_L124, gx_44_1, sb, hC.1, if_neg (nI_ge (by omega) (by omega)), ck_44, sb, e1, b2s, bV]
    cases hmk : mkF (Q.getD n (0, 0, 0)).1 (fun k => o k v) P 0 0 with
    | none =>
      obtain ⟨A', B', G', g1, g2, g3⟩ := ih (v + 1) m A B1 G Q (by omega) (by omega) hC hM1 hQ hn
      refine ⟨A', B', G', ?_, fr1.trans g2, g3⟩
      rw [if_pos (show bz ((none : Option Nat) ≠ none) = 0 from bz0 (fun e => e rfl)), f_X7_step_K191, nI_1]
      exact g1
    | some X =>
      have hX : X < 2 ^ P := mkF_lt (fun k j hj => ho k v j hj) P 0 0 X (Nat.two_pow_pos P) hmk
      have hI := e3 X hmk
      have hset := s_isSet (A := A) (G := G) (fl := fl) (N := N) hP (by omega) hQ hM1 hI hX Q 0 N (List.drop_zero ..) (by omega) (by omega)
      rw [if_neg (bz1 (fun e => by cases e)), ck_44, sb]
      unfold f_X7_isSet
      rw [show f_X7_isSet_L4 N N 44 (0 : Int32) (0 : Int32) (mem A B1 G fl) = f_X7_isSet_L4 N N 44 0 (nI 0) (mem A B1 G fl) from rfl, hset, b2s]
      dsimp only
      by_cases hin : X ∈ Q.map Prod.fst
      · obtain ⟨A', B', G', g1, g2, g3⟩ := ih (v + 1) m A B1 G Q (by omega) (by omega) hC hM1 hQ hn
        simp only [if_pos hin]
        refine ⟨A', B', G', ?_, fr1.trans g2, g3⟩
        rw [if_neg (bz1 hin), f_X7_step_K191, nI_1]
        exact g1
      · simp only [if_neg hin]
        rw [if_pos (bz0 hin), gx_44_50, sb, hM1.1]
        by_cases hfull : Q.length = 2000
        · simp only [if_pos hfull]
          refine ⟨A, B1, G, ?_, fr1, hM1, hQ, Nat.le_refl _, rfl⟩
          rw [if_pos (by rw [hfull]; rfl)]
          rfl
        · simp only [if_neg hfull]
          rw [if_neg (show ¬ nI Q.length = (2000 : Int32) from fun e => hfull ((nI_eq (a := Q.length) (b := 2000) (by omega) (by omega)).mp e)), ck_44, sb]
          obtain ⟨A2, B2, G2, a1, a2, a3, a4, a5, a6⟩ := s_addSet (fl := fl) (N := N) (n := n) (v := v) (by omega) (show Q.length < 2000 by omega) hM1 hI
          have fr2 : FrS A A2 B B2 G G2 := fr1.trans ⟨fun i x y _ => a3 i x y, fun i x _ => a4 i x, a5, fun j x _ => a6 j x⟩
          have hQ2 := hQ.add (show Q.length < 2000 by omega) hX (Or.inl hn) (show v < 4 by omega)
          have hl2 : (Q ++ [(X, n, v)]).length = Q.length + 1 := List.length_append
          have hgl : (Q ++ [(X, n, v)])[Q.length]? = some (X, n, v) := by rw [List.getElem?_append_right (Nat.le_refl _), Nat.sub_self]; rfl
          have hhome := s_isHome (A := A2) (B := B2) (G := G2) (fl := fl) (N := N) (by omega) (show Q.length < 2000 by omega) ((a2.2 _ _ hgl).1) (p576 hP hX)
          have h53 : G2 44 53 = G 44 53 := a6 53 (by omega)
          rw [a1, sb, gx_44_50, sb, a2.1, hl2, ck_44, sb, show (1 : Int32) = nI 1 from rfl, pk_sub (by omega), show Q.length + 1 - 1 = Q.length by omega, hhome, b2s]
          by_cases h1 : X = 1
          · simp only [if_pos h1]
            obtain ⟨A3, G3, c1, c2, c3, c4⟩ := s_stepTo (fl := fl) (N := N) hN hQ2 (by omega) a2
            rw [hl2, show Q.length + 1 - 1 = Q.length by omega] at c1
            refine ⟨A3, B2, G3, ?_, fr2.trans c2, c3, hQ2, by omega, c4⟩
            rw [if_neg (bz1 h1), gx_44_50, sb, a2.1, hl2, ck_44, sb, pk_sub (by omega), show Q.length + 1 - 1 = Q.length by omega, c1, b2s]
            rfl
          · simp only [if_neg h1]
            obtain ⟨A', B', G', g1, g2, g3, g4, g5, g6⟩ := ih (v + 1) m A2 B2 G2 (Q ++ [(X, n, v)]) (by omega) (by omega) (hC.fr fr2) a2 hQ2 (by omega)
            refine ⟨A', B', G', ?_, fr2.trans g2, g3, g4, by omega, ?_⟩
            · rw [if_pos (bz0 h1), f_X7_step_K191, nI_1]
              exact g1
            · generalize bV o P n d (v + 1) (Q ++ [(X, n, v)]) = r at g6
              obtain ⟨b, Q'⟩ := r
              cases b with
              | none => exact (show G' 44 53 = G2 44 53 from g6).trans h53
              | some b => cases b with
                | false => exact (show G' 44 53 = G2 44 53 from g6).trans h53
                | true => exact g6
theorem s_bNM {o : Nat → Nat → Option Nat} (hN : 3000 < N) (hs : s ≤ 4) (hP : P ≤ 553) (ho : ∀ k v j, o k v = some j → j < P) : ∀ (f n m : Nat) (A : Nat → Nat → Int32) (B : Nat → Nat → Int64) (G : Nat → Nat → Int32) (Q : QL), f + n = 2001 → f ≤ m → n ≤ Q.length → CtM A G o P s → MM A B G Q → QI Q P →
    ∃ A' B' G', f_X7_step_L114 N m 44 (nI n) (mem A B G fl) = some ((outR (bN o P s f n Q)).getD (-6), mem A' B' G' fl) ∧ FrS A A' B B' G G' ∧ MM A' B' G' (bN o P s f n Q).2 ∧ QI (bN o P s f n Q).2 P ∧ SpM A' G G' (bN o P s f n Q) := by
  intro f
  induction f with
  | zero => intro n m A B G Q h hm hn hC hM hQ; have := hQ.1; omega
  | succ f ih =>
    intro n m A B G Q h hm hn hC hM hQ
    have hl := hQ.1
    obtain ⟨m, rfl⟩ : ∃ j, m = j + 1 := ⟨m - 1, by omega⟩
    rw [f_X7_step_L114, gx_44_50, sb, hM.1, bN]
    by_cases hq : Q.length ≤ n
    · rw [if_pos hq, if_pos (nI_le hq (by omega))]
      exact ⟨A, B, G, rfl, ⟨fun _ _ _ _ => rfl, fun _ _ _ => rfl, fun _ _ => rfl, fun _ _ _ => rfl⟩, hM, hQ, rfl⟩
    · obtain ⟨A1, B1, G1, e1, e2, e3, e4, e5, e6⟩ := s_bVM (fl := fl) (N := N) hN hs hP ho (f_X7_step_L114 N m) (n := n) s 0 N A B G Q (by omega) (by omega) hC hM hQ (by omega)
      rw [if_neg hq, if_neg (nI_ge (by omega) (by omega)), show (0 : Int32) = nI 0 from rfl, e1]
      generalize bV o P n s 0 Q = r at e1 e2 e3 e4 e5 e6
      obtain ⟨b, Q1⟩ := r
      cases b with
      | some b => exact ⟨A1, B1, G1, by cases b <;> rfl, e2, e3, e4, e6⟩
      | none =>
        have e5 : Q.length ≤ Q1.length := e5
        obtain ⟨A2, B2, G2, g1, g2, g3, g4, g5⟩ := ih (n + 1) m A1 B1 G1 Q1 (by omega) (by omega) (by omega) (hC.fr e2) e3 e4
        refine ⟨A2, B2, G2, g1, e2.trans g2, g3, g4, ?_⟩
        have e6 : G1 44 53 = G 44 53 := e6
        dsimp only
        generalize bN o P s f (n + 1) Q1 = r2 at g5
        obtain ⟨b, Q2⟩ := r2
        cases b with
        | none => exact (show G2 44 53 = G1 44 53 from g5).trans e6
        | some b => cases b with
          | false => exact (show G2 44 53 = G1 44 53 from g5).trans e6
          | true => exact g5
end Rs
