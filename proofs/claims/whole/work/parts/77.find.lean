/-! the class's find, the reference's step -/
def CtX (A : Nat → Nat → Int32) (G : Nat → Nat → Int32) (o : Nat → Nat → Option Nat) (P s C : Nat) : Prop := G 98 7 = nI C ∧ ∀ k v, k < P → v < s → A 99 (k * 4 + v) = cl (o k v)
def SpX (G G' : Nat → Nat → Int32) : Option Bool × QL → Prop
  | (some true, Q) => G' 98 9 = nI (Q.length - 1) ∧ G' 98 10 = nI (dpt Q)
  | _ => G' 98 9 = G 98 9 ∧ G' 98 10 = G 98 10
/-- all places -/
def flF : Nat → Nat → Nat → Nat
  | 0, _, Y => Y
  | d + 1, k, Y => flF d (k + 1) (Y ||| 2 ^ k)
theorem flF_lt {P : Nat} : ∀ (d k Y : Nat), k + d ≤ P → Y < 2 ^ P → flF d k Y < 2 ^ P := by
  intro d
  induction d with
  | zero => intro k Y _ h; exact h
  | succ d ih => intro k Y hk h; exact ih (k + 1) _ (by omega) (Nat.or_lt_two_pow h (Nat.pow_lt_pow_right (by decide) (by omega)))
theorem bit_lt {X P k : Nat} (hX : X < 2 ^ P) (h : X.testBit k = true) : k < P := by
  refine Nat.lt_of_not_le fun hle => ?_
  have : X < 2 ^ k := Nat.lt_of_lt_of_le hX (Nat.pow_le_pow_right (by decide) hle)
  rw [Nat.testBit_lt_two_pow this] at h
  cases h
section Fx
variable {fl : Nat → Bool} {N P C s : Nat} {o : Nat → Nat → Option Nat}
theorem CtX.fr {A A' : Nat → Nat → Int32} {B B' : Nat → Nat → Int64} {G G' : Nat → Nat → Int32} (h : CtX A G o P s C) (k : FrX A A' B B' G G') : CtX A' G' o P s C := ⟨by rw [k.2.2.2 7 (by omega) (by omega) (by omega)]; exact h.1, fun i v a b => by rw [k.1 99 (by omega) (by omega) (by omega)]; exact h.2 i v a b⟩
theorem MX.img {A : Nat → Nat → Int32} {B B' : Nat → Nat → Int64} {G : Nat → Nat → Int32} {Q : QL} (h : MX A B G Q C) (hB : B' 100 = B 100) : MX A B' G Q C := ⟨h.1, h.2.1, fun j q hq => by rw [hB]; exact h.2.2.1 j q hq, h.2.2.2⟩
theorem s_bVX (f1 : fl 3 = true) (hN : 5000 < N) (hs : s ≤ 4) (hP : P ≤ 553) (hC0 : 1 ≤ C) (hC : C ≤ 9) (hPC : P ≤ 64 * C) (ho : ∀ k v j, o k v = some j → j < P) (k62 : Nat → Int32 → Int32 → A_M → Option (Int32 × A_M)) {n : Nat} : ∀ (d v m : Nat) (A : Nat → Nat → Int32) (B : Nat → Nat → Int64) (G : Nat → Nat → Int32) (Q : QL), v + d = s → d < m → CtX A G o P s C → MX A B G Q C → QI Q P → n < Q.length → G 98 10 = nI 0 →
    ∃ A' B' G', f_X5_find_L80 N k62 m 98 (nI s) (nI n) (nI v) (mem A B G fl) = (match outR (bV o P n d v Q) with
      | none => k62 98 (nI s) (nI (n + 1)) (mem A' B' G' fl)
      | some x => some (x, mem A' B' G' fl)) ∧ FrX A A' B B' G G' ∧ MX A' B' G' (bV o P n d v Q).2 C ∧ QI (bV o P n d v Q).2 P ∧ Q.length ≤ (bV o P n d v Q).2.length ∧ SpX G G' (bV o P n d v Q) := by
  intro d
  induction d with
  | zero =>
    intro v m A B G Q h hm hCt hM hQ hn h10
    obtain ⟨m, rfl⟩ : ∃ j, m = j + 1 := ⟨m - 1, by omega⟩
    refine ⟨A, B, G, ?_, ⟨fun _ _ _ _ => rfl, fun _ _ _ => rfl, fun _ _ => rfl, fun _ _ _ _ => rfl⟩, hM, hQ, Nat.le_refl _, rfl, rfl⟩
    rw [f_X5_find_L80, if_pos (nI_le (by omega) (by omega)), f_X5_find_K152, nI_1]
    rfl
  | succ d ih =>
    intro v m A B G Q h hm hCt hM hQ hn h10
    obtain ⟨m, rfl⟩ : ∃ j, m = j + 1 := ⟨m - 1, by omega⟩
    have hl := hQ.1
    have hq := getQ hn
    have hbit : ∀ k, (Q.getD n (0, 0, 0)).1.testBit k = true → k < P := fun k hk => bit_lt (hQ.2 n _ hq).1 hk
    obtain ⟨B1, e1, e2, e3⟩ := s_makeImage (A := A) (G := G) (fl := fl) (N := N) (o := fun k => o k v) (X := (Q.getD n (0, 0, 0)).1) f1 hP (by omega) (show v < 4 by omega) (show n < 2000 by omega) hC hPC hCt.1 hbit (fun k hk => ⟨hCt.2 k v hk (by omega), fun j hj => by have := ho k v j hj; omega⟩) B (hM.2.2.1 n _ hq).1
    have fr1 : FrX A A B B1 G G := ⟨fun _ _ _ _ => rfl, fun i _ b => e2 i b, fun _ _ => rfl, fun _ _ _ _ => rfl⟩
    have hM1 : MX A B1 G Q C := hM.img (e2 100 (by omega))
    rw [f_X5_find_L80, if_neg (nI_ge (by omega) (by omega)), ck_98 f1, sb, e1, b2s, bV]
    cases hmk : mkF (Q.getD n (0, 0, 0)).1 (fun k => o k v) P 0 0 with
    | none =>
      obtain ⟨A', B', G', g1, g2, g3⟩ := ih (v + 1) m A B1 G Q (by omega) (by omega) hCt hM1 hQ hn h10
      refine ⟨A', B', G', ?_, fr1.trans g2, g3⟩
      rw [if_pos (show bz ((none : Option Nat) ≠ none) = 0 from bz0 (fun e => e rfl)), f_X5_find_K146, nI_1]
      exact g1
    | some X =>
      have hX : X < 2 ^ P := mkF_lt (fun k j hj => ho k v j hj) P 0 0 X (Nat.two_pow_pos P) hmk
      have hI := e3 X hmk
      obtain ⟨e, t1, t2, -, t4, t5⟩ := s_slot (A := A) (N := N) f1 hN hC hPC hCt.1 hI hX hQ (fun j q hq => (hM1.2.2.1 j q hq).1) hM1.2.2.2
      rw [if_neg (bz1 (fun e => by cases e)), ck_98 f1, sb, t2, b2s, gx_98_4 f1, sb, ldI_n (ly103 f1) (Nat.mod_lt _ (by decide)) (by decide), sb]
      dsimp only
      by_cases hin : X ∈ Q.map Prod.fst
      · obtain ⟨A', B', G', g1, g2, g3⟩ := ih (v + 1) m A B1 G Q (by omega) (by omega) hCt hM1 hQ hn h10
        simp only [if_pos hin]
        refine ⟨A', B', G', ?_, fr1.trans g2, g3⟩
        rw [if_neg (t4 hin), f_X5_find_K146, nI_1]
        exact g1
      · simp only [if_neg hin]
        rw [if_pos (t5 hin), gx_98_8 f1, sb, hM1.2.1]
        by_cases hfull : Q.length = 2000
        · simp only [if_pos hfull]
          refine ⟨A, B1, G, ?_, fr1, hM1, hQ, Nat.le_refl _, rfl, rfl⟩
          rw [if_neg (by rw [hfull]; decide)]
          rfl
        · simp only [if_neg hfull]
          obtain ⟨A2, B2, G2, a1, a2, a3, a4, a5⟩ := s_takeX (fl := fl) (N := N) f1 hN hC0 hC hPC hM1 hQ (show Q.length < 2000 by omega) hI hX hin h10 (Or.inl hn) (show v < 4 by omega)
          rw [if_neg (show ¬ Q.length = 0 by omega)] at a1
          have hQ2 := hQ.add (show Q.length < 2000 by omega) hX (Or.inl hn) (show v < 4 by omega)
          have hl2 : (Q ++ [(X, n, v)]).length = Q.length + 1 := List.length_append
          have fr2 := fr1.trans a3
          rw [if_pos (show nI Q.length < (2000 : Int32) from nI_lt (b := 2000) (by omega) (by omega)), ck_98 f1, sb, a1, b2s]
          by_cases h1 : X = 1
          · simp only [if_pos h1]
            obtain ⟨k9, k10⟩ := a4 h1
            refine ⟨A2, B2, G2, ?_, fr2, a2, hQ2, by omega, ?_⟩
            · rw [if_neg (bz1 h1), gx_98_10 f1, sb, k10]
              rfl
            · exact ⟨by rw [k9, hl2, show Q.length + 1 - 1 = Q.length by omega], k10⟩
          · simp only [if_neg h1]
            obtain ⟨k9, k10⟩ := a5 h1
            obtain ⟨A', B', G', g1, g2, g3, g4, g5, g6⟩ := ih (v + 1) m A2 B2 G2 (Q ++ [(X, n, v)]) (by omega) (by omega) (hCt.fr fr2) a2 hQ2 (by omega) (by rw [k10]; exact h10)
            refine ⟨A', B', G', ?_, fr2.trans g2, g3, g4, by omega, ?_⟩
            · rw [if_pos (bz0 h1), f_X5_find_K146, nI_1]
              exact g1
            · generalize bV o P n d (v + 1) (Q ++ [(X, n, v)]) = r at g6
              obtain ⟨b, Q'⟩ := r
              cases b with
              | none => exact ⟨(show G' 98 9 = G2 98 9 from g6.1).trans k9, (show G' 98 10 = G2 98 10 from g6.2).trans k10⟩
              | some b => cases b with
                | false => exact ⟨(show G' 98 9 = G2 98 9 from g6.1).trans k9, (show G' 98 10 = G2 98 10 from g6.2).trans k10⟩
                | true => exact g6
theorem s_bNX (f1 : fl 3 = true) (hN : 5000 < N) (hs : s ≤ 4) (hP : P ≤ 553) (hC0 : 1 ≤ C) (hC : C ≤ 9) (hPC : P ≤ 64 * C) (ho : ∀ k v j, o k v = some j → j < P) : ∀ (f n m : Nat) (A : Nat → Nat → Int32) (B : Nat → Nat → Int64) (G : Nat → Nat → Int32) (Q : QL), f + n = 2001 → f ≤ m → n ≤ Q.length → CtX A G o P s C → MX A B G Q C → QI Q P → G 98 10 = nI 0 →
    ∃ A' B' G', f_X5_find_L62 N m 98 (nI s) (nI n) (mem A B G fl) = some ((outR (bN o P s f n Q)).getD (-6), mem A' B' G' fl) ∧ FrX A A' B B' G G' ∧ MX A' B' G' (bN o P s f n Q).2 C ∧ QI (bN o P s f n Q).2 P ∧ SpX G G' (bN o P s f n Q) := by
  intro f
  induction f with
  | zero => intro n m A B G Q h hm hn hCt hM hQ; have := hQ.1; omega
  | succ f ih =>
    intro n m A B G Q h hm hn hCt hM hQ h10
    have hl := hQ.1
    obtain ⟨m, rfl⟩ : ∃ j, m = j + 1 := ⟨m - 1, by omega⟩
    rw [f_X5_find_L62, bN]
    by_cases hq : Q.length ≤ n
    · rw [if_pos hq]
      refine ⟨A, B, G, ?_, ⟨fun _ _ _ _ => rfl, fun _ _ _ => rfl, fun _ _ => rfl, fun _ _ _ _ => rfl⟩, hM, hQ, rfl, rfl⟩
      by_cases h2 : 2000 ≤ n
      · rw [if_pos (show (2000 : Int32) ≤ nI n from nI_le (a := 2000) h2 (by omega))]
        rfl
      · rw [if_neg (show ¬ (2000 : Int32) ≤ nI n from nI_ge (b := 2000) (by omega) (by decide)), gx_98_8 f1, sb, hM.2.1, if_pos (nI_le hq (by omega))]
        rfl
    · obtain ⟨A1, B1, G1, e1, e2, e3, e4, e5, e6⟩ := s_bVX (fl := fl) (N := N) f1 hN hs hP hC0 hC hPC ho (f_X5_find_L62 N m) (n := n) s 0 N A B G Q (by omega) (by omega) hCt hM hQ (by omega) h10
      rw [if_neg hq, if_neg (show ¬ (2000 : Int32) ≤ nI n from nI_ge (b := 2000) (by omega) (by decide)), gx_98_8 f1, sb, hM.2.1, if_neg (nI_ge (by omega) (by omega)), show (0 : Int32) = nI 0 from rfl, e1]
      generalize bV o P n s 0 Q = r at e1 e2 e3 e4 e5 e6
      obtain ⟨b, Q1⟩ := r
      cases b with
      | some b => exact ⟨A1, B1, G1, by cases b <;> rfl, e2, e3, e4, e6⟩
      | none =>
        have e5 : Q.length ≤ Q1.length := e5
        have e6 : G1 98 9 = G 98 9 ∧ G1 98 10 = G 98 10 := e6
        obtain ⟨A2, B2, G2, g1, g2, g3, g4, g5⟩ := ih (n + 1) m A1 B1 G1 Q1 (by omega) (by omega) (by omega) (hCt.fr e2) e3 e4 (by rw [e6.2]; exact h10)
        refine ⟨A2, B2, G2, g1, e2.trans g2, g3, g4, ?_⟩
        dsimp only
        generalize bN o P s f (n + 1) Q1 = r2 at g5
        obtain ⟨b, Q2⟩ := r2
        cases b with
        | none => exact ⟨(show G2 98 9 = G1 98 9 from g5.1).trans e6.1, (show G2 98 10 = G1 98 10 from g5.2).trans e6.2⟩
        | some b => cases b with
          | false => exact ⟨(show G2 98 9 = G1 98 9 from g5.1).trans e6.1, (show G2 98 10 = G1 98 10 from g5.2).trans e6.2⟩
          | true => exact g5
theorem s_fillImX (f1 : fl 3 = true) {A : Nat → Nat → Int32} {G : Nat → Nat → Int32} (hP : P ≤ 553) (hG : G 98 6 = nI P) : ∀ (d k m : Nat) (B : Nat → Nat → Int64) (Y : Nat), k + d = P → d < m → Im (B 104) Y → ∃ B', f_X5_fillImage_L10 N m 98 (nI k) (mem A B G fl) = some (mem A B' G fl) ∧ (∀ i, i ≠ 104 → B' i = B i) ∧ Im (B' 104) (flF d k Y) := by
  intro d
  induction d with
  | zero =>
    intro k m B Y h hm hI
    obtain ⟨m, rfl⟩ : ∃ j, m = j + 1 := ⟨m - 1, by omega⟩
    exact ⟨B, by rw [f_X5_fillImage_L10, gx_98_6 f1, sb, hG, if_pos (nI_le (by omega) (by omega))], fun _ _ => rfl, hI⟩
  | succ d ih =>
    intro k m B Y h hm hI
    obtain ⟨m, rfl⟩ : ∃ j, m = j + 1 := ⟨m - 1, by omega⟩
    obtain ⟨B', e1, e2, e3⟩ := ih (k + 1) m (upA B 104 (vp_updL (B 104) (k / 64) (lN (wd Y (k / 64) ||| 2 ^ (k % 64))))) (Y ||| 2 ^ k) (by omega) (by omega) (by rw [upA_same]; exact hI.or)
    refine ⟨B', ?_, fun i hi => by rw [e2 i hi, upA_ne _ _ _ hi], e3⟩
    rw [f_X5_fillImage_L10, gx_98_6 f1, sb, hG, if_neg (nI_ge (by omega) (by omega)), gx_98_5 f1, sb, pk_shrN (by omega) ((6 : Int32) &&& 31) 6 (by decide), show k / 2 ^ 6 = k / 64 from rfl, ldJ_n (ly104 f1) (by omega) (by decide), sb, hI _ (by omega), pk_andN (by omega) 6 (by decide), show k % 2 ^ 6 = k % 64 from rfl, s_bit (wd_lt _ _) (Nat.mod_lt _ (by decide)), stJ_n (ly104 f1) (by omega) (by decide), sb, nI_1, e1]
theorem s_fillImM {A : Nat → Nat → Int32} {G : Nat → Nat → Int32} (hP : P ≤ 553) (hG : G 44 40 = nI P) : ∀ (d k m : Nat) (B : Nat → Nat → Int64) (Y : Nat), k + d = P → d < m → Im (B 77) Y → ∃ B', f_X7_step_L57 N m 44 (nI k) (mem A B G fl) = f_X7_step_K96 N 44 (mem A B' G fl) ∧ (∀ i, i ≠ 77 → B' i = B i) ∧ Im (B' 77) (flF d k Y) := by
  intro d
  induction d with
  | zero =>
    intro k m B Y h hm hI
    obtain ⟨m, rfl⟩ : ∃ j, m = j + 1 := ⟨m - 1, by omega⟩
    exact ⟨B, by rw [f_X7_step_L57, gx_44_40, sb, hG, if_pos (nI_le (by omega) (by omega))], fun _ _ => rfl, hI⟩
  | succ d ih =>
    intro k m B Y h hm hI
    obtain ⟨m, rfl⟩ : ∃ j, m = j + 1 := ⟨m - 1, by omega⟩
    obtain ⟨B', e1, e2, e3⟩ := ih (k + 1) m (upA B 77 (vp_updL (B 77) (k / 64) (lN (wd Y (k / 64) ||| 2 ^ (k % 64))))) (Y ||| 2 ^ k) (by omega) (by omega) (by rw [upA_same]; exact hI.or)
    refine ⟨B', ?_, fun i hi => by rw [e2 i hi, upA_ne _ _ _ hi], e3⟩
    rw [f_X7_step_L57, gx_44_40, sb, hG, if_neg (nI_ge (by omega) (by omega)), gx_44_51, sb, sb, show (64 : Int32) = nI 64 from rfl, pk_rem (by omega) (by decide) (by decide), pk_div (by omega) (by decide) (by decide), ldJ_n (ly77 fl) (by omega) (by decide), sb, hI _ (by omega), s_bit (wd_lt _ _) (Nat.mod_lt _ (by decide)), stJ_n (ly77 fl) (by omega) (by decide), sb, nI_1, e1]
theorem s_zeroM2 {A : Nat → Nat → Int32} {G : Nat → Nat → Int32} : ∀ (d k m : Nat) (B : Nat → Nat → Int64), k + d = 9 → d < m → ∃ B', f_X7_step_L36 N m 44 (nI k) (mem A B G fl) = f_X7_step_K55 N 44 (mem A B' G fl) ∧ (∀ i, i ≠ 77 → B' i = B i) ∧ (∀ p, k ≤ p → p < 9 → B' 77 p = 0) ∧ (∀ p, p < k → B' 77 p = B 77 p) := by
  intro d
  induction d with
  | zero =>
    intro k m B h hm
    obtain ⟨m, rfl⟩ : ∃ j, m = j + 1 := ⟨m - 1, by omega⟩
    exact ⟨B, by rw [f_X7_step_L36, if_pos (show (9 : Int32) ≤ nI k from nI_le (a := 9) (by omega) (by omega))], fun _ _ => rfl, fun p h1 h2 => absurd h1 (by omega), fun _ _ => rfl⟩
  | succ d ih =>
    intro k m B h hm
    obtain ⟨m, rfl⟩ : ∃ j, m = j + 1 := ⟨m - 1, by omega⟩
    obtain ⟨B', e1, e2, e3, e4⟩ := ih (k + 1) m (upA B 77 (vp_updL (B 77) k 0)) (by omega) (by omega)
    refine ⟨B', ?_, fun i hi => by rw [e2 i hi, upA_ne _ _ _ hi], fun p h1 h2 => ?_, fun p hp => by rw [e4 p (by omega), upA_same, vpL_ne _ _ _ (by omega)]⟩
    · rw [f_X7_step_L36, if_neg (show ¬ (9 : Int32) ≤ nI k from nI_ge (b := 9) (by omega) (by omega)), gx_44_51, sb, stJ_n (ly77 fl) (by omega) (by decide), sb, nI_1, e1]
    · by_cases e : p = k
      · subst e; rw [e4 p (by omega), upA_same, vpL_eq]
      · exact e3 p (by omega) h2
/-- what the search finds -/
def stR (o : Nat → Nat → Option Nat) (P s : Nat) : Option Bool × QL := if flF P 0 0 = 1 then (some true, [(flF P 0 0, 0, 0)]) else bN o P s 2001 0 [(flF P 0 0, 0, 0)]
theorem QI.nil (P : Nat) : QI [] P := ⟨Nat.zero_le _, fun j q hq => (by cases hq)⟩
theorem s_stepM {A : Nat → Nat → Int32} {B : Nat → Nat → Int64} {G : Nat → Nat → Int32} (hN : 5000 < N) (hs : s ≤ 4) (hP : P ≤ 553) (ho : ∀ k v j, o k v = some j → j < P) (hC : CtM A G o P s) (h50 : G 44 50 = 0) (h53 : G 44 53 = 0) :
    ∃ A' B' G', f_X7_step_L36 N N 44 (0 : Int32) (mem A B G fl) = some ((outR (stR o P s)).getD (-6), mem A' B' G' fl) ∧ FrS A A' B B' G G' ∧ MM A' B' G' (stR o P s).2 ∧ SpM A' G G' (stR o P s) := by
  obtain ⟨B1, e1, e2, e3, -⟩ := s_zeroM2 (A := A) (G := G) (fl := fl) (N := N) 9 0 N B (by omega) (by omega)
  obtain ⟨B2, g1, g2, g3⟩ := s_fillImM (A := A) (G := G) (fl := fl) (N := N) hP hC.2.1 P 0 N B1 0 (by omega) (by omega) (fun p hp => by rw [e3 p (Nat.zero_le _) hp, wd_zero]; rfl)
  have hX := flF_lt (P := P) P 0 0 (by omega) (Nat.two_pow_pos P)
  generalize hX0 : flF P 0 0 = X at g3 hX
  have hM0 : MM A B2 G [] := ⟨by rw [h50]; rfl, fun j q hq => (by cases hq)⟩
  obtain ⟨A3, B3, G3, a1, a2, a3, a4, a5, a6⟩ := s_addSet (fl := fl) (N := N) (n := 0) (v := 0) (by omega) (show ([] : QL).length < 2000 by decide) hM0 g3
  have hQ1 : QI [(X, 0, 0)] P := (QI.nil P).add (by decide) hX (Or.inr ⟨rfl, rfl⟩) (by omega)
  have a2 : MM A3 B3 G3 [(X, 0, 0)] := a2
  have fr : FrS A A3 B B3 G G3 := ⟨fun i x y _ => a3 i x y, fun i x y => by rw [a4 i x, g2 i y, e2 i y], a5, fun j x _ => a6 j x⟩
  have hhome := s_isHome (A := A3) (B := B3) (G := G3) (fl := fl) (N := N) (by omega) (show 0 < 2000 by omega) ((a2.2 0 _ rfl).1) (p576 hP hX)
  have run : f_X7_step_L36 N N 44 (0 : Int32) (mem A B G fl) = (if bz (X = 1) = 0 then f_X7_step_L114 N N 44 (0 : Int32) (mem A3 B3 G3 fl) else some ((0 : Int32), mem A3 B3 G3 fl)) := by
    rw [show (0 : Int32) = nI 0 from rfl, e1]
    unfold f_X7_step_K55
    rw [show (0 : Int32) = nI 0 from rfl, g1]
    unfold f_X7_step_K96
    rw [ck_44, sb, show (0 : Int32) = nI 0 from rfl, a1, sb, ck_44, sb, hhome, b2s]
  rw [run]
  unfold stR
  rw [hX0]
  by_cases h1 : X = 1
  · rw [if_neg (bz1 h1), if_pos h1]
    refine ⟨A3, B3, G3, ?_, fr, a2, ?_, fun i hi => absurd hi ?_⟩
    · rfl
    · rw [a6 53 (by omega), h53]; rfl
    · exact Nat.not_lt_zero _
  · rw [if_pos (bz0 h1), if_neg h1]
    obtain ⟨A4, B4, G4, c1, c2, c3, c4, c5⟩ := s_bNM (fl := fl) (N := N) (by omega) hs hP ho 2001 0 N A3 B3 G3 [(X, 0, 0)] (by omega) (by omega) (Nat.zero_le _) (hC.fr fr) a2 hQ1
    refine ⟨A4, B4, G4, c1, fr.trans c2, c3, ?_⟩
    have h53' : G3 44 53 = G 44 53 := a6 53 (by omega)
    generalize bN o P s 2001 0 [(X, 0, 0)] = r at c5
    obtain ⟨b, Q⟩ := r
    cases b with
    | none => exact (show G4 44 53 = G3 44 53 from c5).trans h53'
    | some b => cases b with
      | false => exact (show G4 44 53 = G3 44 53 from c5).trans h53'
      | true => exact c5
end Fx
