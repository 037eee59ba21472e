/-! the class's search: sets in a table by their marks -/
def hsG (g : Int64 → Int64 → Int64) (w : Nat → Int64) : Nat → Nat → Int64 → Int64
  | 0, _, x => x
  | d + 1, p, x => hsG g w d (p + 1) (g x (w p))
def hs1 (x y : Int64) : Int64 := ((x ^^^ y) * (-7046029254386353131 : Int64)) ^^^ ((((x ^^^ y) * (-7046029254386353131 : Int64)).toUInt64 >>> ((29 : Int32).toInt64.toUInt64 &&& Int64.toUInt64 63)).toInt64)
def hs2 (x : Int64) : Int32 := (x.toUInt64 >>> ((20 : Int32).toInt64.toUInt64 &&& Int64.toUInt64 63)).toInt64.toInt32
def hh (X C : Nat) : Nat := (hs2 (hsG hs1 (fun p => lN (wd X p)) C 0 0)).toBitVec.toNat % 4096
theorem hh_eq (X C : Nat) : hs2 (hsG hs1 (fun p => lN (wd X p)) C 0 0) &&& (4095 : Int32) = nI (hh X C) := by
  unfold hh
  generalize hs2 (hsG hs1 (fun p => lN (wd X p)) C 0 0) = y
  exact pk_and y 12 (by decide)
theorem hh_lt (X C : Nat) : hh X C < 4096 := Nat.mod_lt _ (by decide)
def cnz (T : Nat → Int32) : Nat → Nat
  | 0 => 0
  | k + 1 => cnz T k + (if T k = 0 then 0 else 1)
theorem cnz_all {T : Nat → Int32} : ∀ k, (∀ i, i < k → T i ≠ 0) → cnz T k = k := by
  intro k
  induction k with
  | zero => intro _; rfl
  | succ k ih => intro h; rw [cnz, ih (fun i hi => h i (by omega)), if_neg (h k (by omega))]
theorem cnz_upd {T : Nat → Int32} {σ : Nat} {x : Int32} (h0 : T σ = 0) (hx : x ≠ 0) : ∀ k, cnz (upd T σ x) k = cnz T k + (if σ < k then 1 else 0) := by
  intro k
  induction k with
  | zero => rfl
  | succ k ih =>
    rw [cnz, cnz, ih]
    by_cases e : k = σ
    · subst e
      rw [upd_eq, if_neg hx, h0, if_pos rfl, if_neg (by omega), if_pos (by omega)]
    · rw [upd_ne _ _ _ e]
      by_cases e2 : σ < k
      · simp only [if_pos e2, if_pos (show σ < k + 1 by omega)]; omega
      · simp only [if_neg e2, if_neg (show ¬ σ < k + 1 by omega)]; omega
theorem cnz_hole {T : Nat → Int32} (h : cnz T 4096 ≤ 2000) : ∃ σ, σ < 4096 ∧ T σ = 0 := by
  refine Classical.byContradiction fun hn => ?_
  have := cnz_all (T := T) 4096 (fun i hi e => hn ⟨i, hi, e⟩)
  omega
def Tb (T : Nat → Int32) (Q : QL) (C : Nat) : Prop := (∀ σ, σ < 4096 → T σ = 0 ∨ ∃ j, j < Q.length ∧ T σ = nI (j + 1)) ∧ (∀ j q, Q[j]? = some q → ∃ e, e < 4096 ∧ T ((hh q.1 C + e) % 4096) = nI (j + 1) ∧ ∀ u, u < e → T ((hh q.1 C + u) % 4096) ≠ 0) ∧ cnz T 4096 ≤ Q.length
def MX (A : Nat → Nat → Int32) (B : Nat → Nat → Int64) (G : Nat → Nat → Int32) (Q : QL) (C : Nat) : Prop := G 98 7 = nI C ∧ G 98 8 = nI Q.length ∧ (∀ j q, Q[j]? = some q → (∀ p, p < C → B 100 (j * 9 + p) = lN (wd q.1 p)) ∧ A 101 j = (if j = 0 then -1 else nI q.2.1) ∧ A 102 j = nI q.2.2) ∧ Tb (A 103) Q C
theorem pC {P X C : Nat} (hP : P ≤ 64 * C) (h : X < 2 ^ P) : X < 2 ^ (64 * C) := Nat.lt_of_lt_of_le h (Nat.pow_le_pow_right (by decide) hP)
section Xs
variable {A : Nat → Nat → Int32} {B : Nat → Nat → Int64} {G : Nat → Nat → Int32} {fl : Nat → Bool} {N P C X : Nat} {Q : QL}
theorem L4_eq (N n x0 : Nat) (x1 : Int64) (x3 : Int32) (M : A_M) : f_X5_slotOfImage_L4 N (n + 1) x0 x1 x3 M = ((gI M x0 5 7).bind fun v6 => if v6 ≤ x3 then f_X5_slotOfImage_K38 N x0 x1 M else (gR M x0 5 5).bind fun v14 => (ldJ M v14 x3).bind fun v18 => f_X5_slotOfImage_L4 N n x0 (hs1 x1 v18) (x3 + 1) M) := by
  rw [f_X5_slotOfImage_L4]
  unfold hs1
  rfl
theorem s_hash (f1 : fl 3 = true) (hC : C ≤ 9) (hG : G 98 7 = nI C) (hI : Im (B 104) X) : ∀ (d p m : Nat) (x : Int64), p + d = C → d < m → f_X5_slotOfImage_L4 N m 98 x (nI p) (mem A B G fl) = f_X5_slotOfImage_K38 N 98 (hsG hs1 (fun p => lN (wd X p)) d p x) (mem A B G fl) := by
  generalize hs : hs1 = g
  intro d
  induction d with
  | zero =>
    intro p m x h hm
    obtain ⟨m, rfl⟩ : ∃ j, m = j + 1 := ⟨m - 1, by omega⟩
    rw [L4_eq, gx_98_7 f1, sb, hG, if_pos (nI_le (by omega) (by omega)), hsG]
  | succ d ih =>
    intro p m x h hm
    obtain ⟨m, rfl⟩ : ∃ j, m = j + 1 := ⟨m - 1, by omega⟩
    rw [L4_eq, gx_98_7 f1, sb, hG, if_neg (nI_ge (by omega) (by omega)), gx_98_5 f1, sb, ldJ_n (ly104 f1) (by omega) (by decide), sb, hI p (by omega), nI_1, hs, ih (p + 1) m _ (by omega) (by omega), hsG]
theorem s_imageIs (f1 : fl 3 = true) (hC : C ≤ 9) (hG : G 98 7 = nI C) (hI : Im (B 104) X) {j q : Nat} (hj : j < 2000) (hq : ∀ p, p < C → B 100 (j * 9 + p) = lN (wd q p)) (hq1 : q < 2 ^ (64 * C)) (hX1 : X < 2 ^ (64 * C)) : ∀ (d p m : Nat), p + d = C → d < m → (∀ i, i < p → wd q i = wd X i) → f_X5_imageIs_L2 N m 98 (nI j) (nI p) (mem A B G fl) = some (bz (q = X), mem A B G fl) := by
  intro d
  induction d with
  | zero =>
    intro p m h hm hp
    obtain ⟨m, rfl⟩ : ∃ j, m = j + 1 := ⟨m - 1, by omega⟩
    have : p = C := by omega
    subst this
    rw [f_X5_imageIs_L2, gx_98_7 f1, sb, hG, if_pos (nI_le (by omega) (by omega)), show bz (q = X) = 1 from if_pos (wd_ext hq1 hX1 hp)]
  | succ d ih =>
    intro p m h hm hp
    obtain ⟨m, rfl⟩ : ∃ j, m = j + 1 := ⟨m - 1, by omega⟩
    rw [f_X5_imageIs_L2, gx_98_7 f1, sb, hG, if_neg (nI_ge (by omega) (by omega)), gx_98_1 f1, sb, show (9 : Int32) = nI 9 from rfl, pk_mul, nI_add, ldJ_n (ly100 f1) (by omega) (by decide), sb, hq p (by omega), gx_98_5 f1, sb, ldJ_n (ly104 f1) (by omega) (by decide), sb, hI p (by omega)]
    by_cases e : wd q p = wd X p
    · rw [if_pos ((lgE _ _).mpr (by rw [e])), nI_1, ih (p + 1) m (by omega) (by omega) (fun i hi => by
        by_cases e2 : i = p
        · subst e2; exact e
        · exact hp i (by omega))]
    · rw [if_neg (fun g => e (lN_64 (wd_lt _ _) (wd_lt _ _) ((lgE _ _).mp g))), show bz (q = X) = 0 from bz0 (fun g => e (by rw [g]))]
/-- sets of Q in the memory, as far as the table names them -/
def Sx (B : Nat → Nat → Int64) (Q : QL) (C : Nat) : Prop := ∀ j q, Q[j]? = some q → ∀ p, p < C → B 100 (j * 9 + p) = lN (wd q.1 p)
theorem s_slot1 (f1 : fl 3 = true) (hN : 5000 < N) (hC : C ≤ 9) (hPC : P ≤ 64 * C) (hG : G 98 7 = nI C) (hI : Im (B 104) X) (hX : X < 2 ^ P) (hQ : QI Q P) (hS : Sx B Q C) (hT : Tb (A 103) Q C) {h E : Nat} (hh4 : h < 4096) (hE : E < 4096) (h0 : A 103 ((h + E) % 4096) = 0) : ∀ (d u m : Nat), u + d = E → d < m → (∀ w, w < u → A 103 ((h + w) % 4096) ≠ 0 ∧ ∀ j q, Q[j]? = some q → A 103 ((h + w) % 4096) = nI (j + 1) → q.1 ≠ X) →
    ∃ e, e < 4096 ∧ f_X5_slotOfImage_L51 N m 98 (nI ((h + u) % 4096)) (nI u) (mem A B G fl) = some (nI ((h + e) % 4096), mem A B G fl) ∧ (∀ w, w < e → A 103 ((h + w) % 4096) ≠ 0 ∧ ∀ j q, Q[j]? = some q → A 103 ((h + w) % 4096) = nI (j + 1) → q.1 ≠ X) ∧ (A 103 ((h + e) % 4096) = 0 ∨ ∃ j q, Q[j]? = some q ∧ q.1 = X ∧ A 103 ((h + e) % 4096) = nI (j + 1)) := by
  have hl := hQ.1
  have stop : ∀ (m u : Nat), u < 4096 → A 103 ((h + u) % 4096) = 0 → f_X5_slotOfImage_L51 N (m + 1) 98 (nI ((h + u) % 4096)) (nI u) (mem A B G fl) = some (nI ((h + u) % 4096), mem A B G fl) := by
    intro m u hu hz
    rw [f_X5_slotOfImage_L51, if_neg (show ¬ (4096 : Int32) ≤ nI u from nI_ge (b := 4096) hu (by omega)), gx_98_4 f1, sb, ldI_n (ly103 f1) (Nat.mod_lt _ (by decide)) (by decide), sb, hz, if_pos rfl]
  intro d
  induction d with
  | zero =>
    intro u m hu hm hw
    obtain ⟨m, rfl⟩ : ∃ j, m = j + 1 := ⟨m - 1, by omega⟩
    have : u = E := by omega
    subst this
    exact ⟨u, hE, stop m u hE h0, hw, Or.inl h0⟩
  | succ d ih =>
    intro u m hu hm hw
    obtain ⟨m, rfl⟩ : ∃ j, m = j + 1 := ⟨m - 1, by omega⟩
    have hσ : (h + u) % 4096 < 4096 := Nat.mod_lt _ (by decide)
    rcases hT.1 _ hσ with hz | ⟨j, hj, hz⟩
    · exact ⟨u, by omega, stop m u (by omega) hz, hw, Or.inl hz⟩
    · have hne : ¬ nI (j + 1) = 0 := fun e => by
        have := (nI_eq (a := j + 1) (b := 0) (by omega) (by omega)).mp e
        omega
      have hq := getQ hj
      have his := s_imageIs (A := A) (N := N) f1 hC hG hI (show j < 2000 by omega) (hS j _ hq) (pC hPC (hQ.2 j _ hq).1) (pC hPC hX) C 0 N (by omega) (by omega) (fun i hi => absurd hi (by omega))
      have step : f_X5_slotOfImage_L51 N (m + 1) 98 (nI ((h + u) % 4096)) (nI u) (mem A B G fl) = (if bz ((Q.getD j (0, 0, 0)).1 = X) = 0 then f_X5_slotOfImage_L51 N m 98 (nI ((h + (u + 1)) % 4096)) (nI (u + 1)) (mem A B G fl) else some (nI ((h + u) % 4096), mem A B G fl)) := by
        rw [f_X5_slotOfImage_L51, if_neg (show ¬ (4096 : Int32) ≤ nI u from nI_ge (b := 4096) (by omega) (by omega)), gx_98_4 f1, sb, ldI_n (ly103 f1) hσ (by decide), sb, hz, if_neg hne, sb, ldI_n (ly103 f1) hσ (by decide), sb, hz, ck_98 f1, sb, show (1 : Int32) = nI 1 from rfl, pk_sub (by omega), show j + 1 - 1 = j by omega]
        unfold f_X5_imageIs
        rw [show (0 : Int32) = nI 0 from rfl, his, b2s, nI_add, pk_andN (by omega) 12 (by decide), show ((h + u) % 4096 + 1) % 2 ^ 12 = (h + (u + 1)) % 4096 by omega, nI_add]
      rw [step]
      by_cases e : (Q.getD j (0, 0, 0)).1 = X
      · refine ⟨u, by omega, by rw [if_neg (bz1 e)], hw, Or.inr ⟨j, _, hq, e, hz⟩⟩
      · rw [if_pos (bz0 e)]
        exact ih (u + 1) m (by omega) (by omega) (fun w hw2 => by
          by_cases e2 : w = u
          · subst e2
            refine ⟨by rw [hz]; exact hne, fun j2 q2 a b c => e ?_⟩
            rw [hz] at b
            have hj2 : j2 < Q.length := (List.getElem?_eq_some_iff.mp a).1
            have := (nI_eq (a := j + 1) (b := j2 + 1) (by omega) (by omega)).mp b
            have e3 : j2 = j := by omega
            subst e3
            rw [hq] at a
            rw [Option.some.inj a]
            exact c
          · exact hw w (by omega))
theorem s_slot (f1 : fl 3 = true) (hN : 5000 < N) (hC : C ≤ 9) (hPC : P ≤ 64 * C) (hG : G 98 7 = nI C) (hI : Im (B 104) X) (hX : X < 2 ^ P) (hQ : QI Q P) (hS : Sx B Q C) (hT : Tb (A 103) Q C) :
    ∃ e, e < 4096 ∧ f_X5_slotOfImage N 98 (mem A B G fl) = some (nI ((hh X C + e) % 4096), mem A B G fl) ∧ (∀ w, w < e → A 103 ((hh X C + w) % 4096) ≠ 0) ∧ (X ∈ Q.map Prod.fst → A 103 ((hh X C + e) % 4096) ≠ 0) ∧ (X ∉ Q.map Prod.fst → A 103 ((hh X C + e) % 4096) = 0) := by
  have hl := hQ.1
  have hhl := hh_lt X C
  obtain ⟨σ, s1, s2⟩ := cnz_hole (Nat.le_trans hT.2.2 hl)
  obtain ⟨e, e1, e2, e3, e4⟩ := s_slot1 (N := N) f1 hN hC hPC hG hI hX hQ hS hT hhl (E := (σ + 4096 - hh X C) % 4096) (Nat.mod_lt _ (by decide)) (by rw [show (hh X C + (σ + 4096 - hh X C) % 4096) % 4096 = σ by omega]; exact s2) ((σ + 4096 - hh X C) % 4096) 0 N (by omega) (by omega) (fun w hw => absurd hw (by omega))
  refine ⟨e, e1, ?_, fun w hw => (e3 w hw).1, fun hin => ?_, fun hout => ?_⟩
  · unfold f_X5_slotOfImage
    rw [show f_X5_slotOfImage_L4 N N 98 (0 : Int64) (0 : Int32) (mem A B G fl) = f_X5_slotOfImage_L4 N N 98 (0 : Int64) (nI 0) (mem A B G fl) from rfl, s_hash f1 hC hG hI C 0 N 0 (by omega) (by omega)]
    unfold f_X5_slotOfImage_K38
    show f_X5_slotOfImage_L51 N N 98 (hs2 (hsG hs1 (fun p => lN (wd X p)) C 0 0) &&& (4095 : Int32)) (0 : Int32) (mem A B G fl) = _
    rw [Nat.add_zero, Nat.mod_eq_of_lt hhl] at e2
    rw [hh_eq]
    exact e2
  · obtain ⟨q, hq, hqX⟩ := List.mem_map.mp hin
    obtain ⟨j, hj⟩ := List.getElem?_of_mem hq
    obtain ⟨e', t1, t2, t3⟩ := hT.2.1 j q hj
    rw [hqX] at t2 t3
    have hjl : j < Q.length := (List.getElem?_eq_some_iff.mp hj).1
    have hne : ¬ nI (j + 1) = 0 := fun e => by
      have := (nI_eq (a := j + 1) (b := 0) (by omega) (by omega)).mp e
      omega
    intro hz
    by_cases h1 : e < e'
    · exact t3 e h1 hz
    · by_cases h2 : e = e'
      · rw [h2, t2] at hz; exact hne hz
      · exact (e3 e' (by omega)).2 j q hj t2 hqX
  · rcases e4 with h4 | ⟨j, q, a, b, c⟩
    · exact h4
    · exact absurd (List.mem_map.mpr ⟨q, List.mem_of_getElem? a, b⟩) hout
theorem s_homeX (f1 : fl 3 = true) (hC : C ≤ 9) (hG : G 98 7 = nI C) (hI : Im (B 104) X) (hX1 : X < 2 ^ (64 * C)) : ∀ (d p m : Nat), p + d = C → 1 ≤ p → d < m → (∀ i, i < p → wd X i = wd 1 i) → f_X5_imageIsHome_L15 N m 98 (nI p) (mem A B G fl) = some (bz (X = 1), mem A B G fl) := by
  intro d
  induction d with
  | zero =>
    intro p m h h1 hm hp
    obtain ⟨m, rfl⟩ : ∃ j, m = j + 1 := ⟨m - 1, by omega⟩
    have : p = C := by omega
    subst this
    have h1 : X = 1 := wd_ext hX1 (Nat.one_lt_two_pow (by omega)) hp
    rw [f_X5_imageIsHome_L15, gx_98_7 f1, sb, hG, if_pos (nI_le (by omega) (by omega)), show bz (X = 1) = 1 from if_pos h1]
  | succ d ih =>
    intro p m h h1 hm hp
    obtain ⟨m, rfl⟩ : ∃ j, m = j + 1 := ⟨m - 1, by omega⟩
    have w1 : wd 1 p = 0 := by rw [wd_1, if_neg (by omega)]
    rw [f_X5_imageIsHome_L15, gx_98_7 f1, sb, hG, if_neg (nI_ge (by omega) (by omega)), gx_98_5 f1, sb, ldJ_n (ly104 f1) (by omega) (by decide), sb, hI p (by omega)]
    by_cases e : wd X p = 0
    · rw [if_pos (show lg_cmp (lN (wd X p)) 0 = 0 from (lgE _ _).mpr (by rw [e]; rfl)), nI_1, ih (p + 1) m (by omega) (by omega) (by omega) (fun i hi => by
        by_cases e2 : i = p
        · subst e2; rw [e, w1]
        · exact hp i (by omega))]
    · rw [if_neg (show ¬ lg_cmp (lN (wd X p)) 0 = 0 from fun g => e (lN_64 (wd_lt _ _) (show 0 < 2 ^ 64 by decide) ((lgE _ _).mp g))), show bz (X = 1) = 0 from bz0 (fun g => e (by rw [g, w1]))]
theorem s_home (f1 : fl 3 = true) (hN : 100 < N) (hC0 : 1 ≤ C) (hC : C ≤ 9) (hG : G 98 7 = nI C) (hI : Im (B 104) X) (hX1 : X < 2 ^ (64 * C)) : f_X5_imageIsHome N 98 (mem A B G fl) = some (bz (X = 1), mem A B G fl) := by
  unfold f_X5_imageIsHome
  have w1 : wd 1 0 = 1 := by decide
  rw [gx_98_5 f1, sb, show (0 : Int32) = nI 0 from rfl, ldJ_n (ly104 f1) (by omega) (by decide), sb, hI 0 (by omega)]
  by_cases e : wd X 0 = 1
  · rw [if_pos (show lg_cmp (lN (wd X 0)) 1 = nI 0 from (lgE _ _).mpr (by rw [e]; rfl))]
    exact s_homeX f1 hC hG hI hX1 (C - 1) 1 N (by omega) (by omega) (by omega) (fun i hi => by
      have : i = 0 := by omega
      subst this
      rw [e, w1])
  · rw [if_neg (show ¬ lg_cmp (lN (wd X 0)) 1 = nI 0 from fun g => e (lN_64 (wd_lt _ _) (show 1 < 2 ^ 64 by decide) ((lgE _ _).mp g))), show bz (X = 1) = 0 from bz0 (fun g => e (by rw [g, w1]))]
    rfl
/-- back to the beginning -/
theorem s_backX (f1 : fl 3 = true) (hQ : QI Q P) (hA : ∀ j q, Q[j]? = some q → A 101 j = (if j = 0 then -1 else nI q.2.1)) : ∀ (e j m u c : Nat) (G : Nat → Nat → Int32), j ≤ e → j < Q.length → e < m → u + e < 2000 → G 98 10 = nI c → f_X5_takeImage_L99 N m 98 (nI j) (nI u) (mem A B G fl) = some (1, mem A B (upA G 98 (upd (G 98) 10 (nI (c + dpF (frQ Q) e j)))) fl) := by
  have hl := hQ.1
  have same : ∀ (G : Nat → Nat → Int32) (c : Nat), G 98 10 = nI c → upA G 98 (upd (G 98) 10 (nI c)) = G := by
    intro G c hc
    have : upd (G 98) 10 (nI c) = G 98 := by
      funext i
      by_cases e : i = 10
      · subst e; rw [upd_eq, hc]
      · rw [upd_ne _ _ _ e]
    rw [this, upA_self]
  intro e
  induction e with
  | zero =>
    intro j m u c G h hj hm hu hc
    obtain ⟨m, rfl⟩ : ∃ j, m = j + 1 := ⟨m - 1, by omega⟩
    have : j = 0 := by omega
    subst this
    have h101 : A 101 0 = -1 := by rw [hA 0 _ (getQ hj)]; rfl
    rw [f_X5_takeImage_L99, if_neg (show ¬ (2000 : Int32) ≤ nI u from nI_ge (b := 2000) (by omega) (by omega)), gx_98_2 f1, sb, ldI_n (ly101 f1) (by omega) (by decide), sb, h101, if_pos (by decide)]
    show _ = some (1, mem A B (upA G 98 (upd (G 98) 10 (nI c))) fl)
    rw [same G c hc]
  | succ e ih =>
    intro j m u c G h hj hm hu hc
    obtain ⟨m, rfl⟩ : ∃ j, m = j + 1 := ⟨m - 1, by omega⟩
    rw [f_X5_takeImage_L99, if_neg (show ¬ (2000 : Int32) ≤ nI u from nI_ge (b := 2000) (by omega) (by omega)), gx_98_2 f1, sb, ldI_n (ly101 f1) (by omega) (by decide), sb, dpF]
    by_cases h0 : j = 0
    · subst h0
      have h101 : A 101 0 = -1 := by rw [hA 0 _ (getQ hj)]; rfl
      rw [h101, if_pos (by decide), if_pos rfl]
      show _ = some (1, mem A B (upA G 98 (upd (G 98) 10 (nI c))) fl)
      rw [same G c hc]
    · have hfj := hQ.fr j (by omega)
      have h101 : A 101 j = nI (frQ Q j) := by rw [hA j _ (getQ hj), if_neg h0]; rfl
      rw [h101, if_neg (nI_pos (by omega)), if_neg h0, sb, ldI_n (ly101 f1) (by omega) (by decide), sb, h101, gx_98_10 f1, sb, px_98_10 f1, sb, hc, nI_1, nI_1, ih (frQ Q j) m (u + 1) (c + 1) _ (by omega) (by omega) (by omega) (by omega) (by rw [upA_same, upd_eq]), upA_same, upA_twice, upd_twice, show c + 1 + dpF (frQ Q) e (frQ Q j) = c + (dpF (frQ Q) e (frQ Q j) + 1) by omega]
theorem s_copyX (f1 : fl 3 = true) (hC : C ≤ 9) (hG : G 98 7 = nI C) {m0 : Nat} (h0 : m0 < 2000) (x y : Int32) : ∀ (d p m : Nat) (B : Nat → Nat → Int64), p + d = C → d < m → Im (B 104) X →
    ∃ B', f_X5_takeImage_L8 N m 98 x y (nI m0) (nI p) (mem A B G fl) = f_X5_takeImage_K42 N 98 x y (nI m0) (mem A B' G fl) ∧ (∀ i, i ≠ 100 → B' i = B i) ∧ (∀ i, p ≤ i → i < C → B' 100 (m0 * 9 + i) = lN (wd X i)) ∧ (∀ j, (∀ i, p ≤ i → i < C → j ≠ m0 * 9 + i) → B' 100 j = B 100 j) := by
  intro d
  induction d with
  | zero =>
    intro p m B h hm hI
    obtain ⟨m, rfl⟩ : ∃ j, m = j + 1 := ⟨m - 1, by omega⟩
    exact ⟨B, by rw [f_X5_takeImage_L8, gx_98_7 f1, sb, hG, if_pos (nI_le (by omega) (by omega))], fun _ _ => rfl, fun i h1 h2 => absurd h1 (by omega), fun _ _ => rfl⟩
  | succ d ih =>
    intro p m B h hm hI
    obtain ⟨m, rfl⟩ : ∃ j, m = j + 1 := ⟨m - 1, by omega⟩
    obtain ⟨B', e1, e2, e3, e4⟩ := ih (p + 1) m (upA B 100 (vp_updL (B 100) (m0 * 9 + p) (lN (wd X p)))) (by omega) (by omega) (by rw [upA_ne _ _ _ (by omega)]; exact hI)
    refine ⟨B', ?_, fun i hi => by rw [e2 i hi, upA_ne _ _ _ hi], fun i h1 h2 => ?_, fun j hj => ?_⟩
    · rw [f_X5_takeImage_L8, gx_98_7 f1, sb, hG, if_neg (nI_ge (by omega) (by omega)), gx_98_1 f1, sb, gx_98_5 f1, sb, ldJ_n (ly104 f1) (by omega) (by decide), sb, hI p (by omega), show (9 : Int32) = nI 9 from rfl, pk_mul, nI_add, stJ_n (ly100 f1) (by omega) (by decide), sb, nI_1, e1]
    · by_cases e : i = p
      · subst e; rw [e4 _ (fun q h1 h2 => by omega), upA_same, vpL_eq]
      · exact e3 i (by omega) h2
    · rw [e4 j (fun i h1 h2 => hj i (by omega) h2), upA_same, vpL_ne _ _ _ (hj p (Nat.le_refl _) (by omega))]
/-- what the class's search leaves alone -/
def FrX (A A' : Nat → Nat → Int32) (B B' : Nat → Nat → Int64) (G G' : Nat → Nat → Int32) : Prop := (∀ i, i ≠ 101 → i ≠ 102 → i ≠ 103 → A' i = A i) ∧ (∀ i, i ≠ 100 → i ≠ 104 → B' i = B i) ∧ (∀ i, i ≠ 98 → G' i = G i) ∧ (∀ j, j ≠ 8 → j ≠ 9 → j ≠ 10 → G' 98 j = G 98 j)
theorem FrX.trans {A A' A2 : Nat → Nat → Int32} {B B' B2 : Nat → Nat → Int64} {G G' G2 : Nat → Nat → Int32} (h : FrX A A' B B' G G') (k : FrX A' A2 B' B2 G' G2) : FrX A A2 B B2 G G2 := ⟨fun i a b c => (k.1 i a b c).trans (h.1 i a b c), fun i a b => (k.2.1 i a b).trans (h.2.1 i a b), fun i a => (k.2.2.1 i a).trans (h.2.2.1 i a), fun i a b c => (k.2.2.2 i a b c).trans (h.2.2.2 i a b c)⟩
/-- an image becomes a set -/
theorem s_takeX (f1 : fl 3 = true) (hN : 5000 < N) (hC0 : 1 ≤ C) (hC : C ≤ 9) (hPC : P ≤ 64 * C) (hM : MX A B G Q C) (hQ : QI Q P) (hl : Q.length < 2000) (hI : Im (B 104) X) (hX : X < 2 ^ P) (hout : X ∉ Q.map Prod.fst) (h10 : G 98 10 = nI 0) {n v : Nat} (hn : n < Q.length ∨ Q.length = 0 ∧ n = 0) (hv : v < 4) :
    ∃ A' B' G', f_X5_takeImage N 98 (if Q.length = 0 then -1 else nI n) (nI v) (mem A B G fl) = some (bz (X = 1), mem A' B' G' fl) ∧ MX A' B' G' (Q ++ [(X, n, v)]) C ∧ FrX A A' B B' G G' ∧ (X = 1 → G' 98 9 = nI Q.length ∧ G' 98 10 = nI (dpt (Q ++ [(X, n, v)]))) ∧ (X ≠ 1 → G' 98 9 = G 98 9 ∧ G' 98 10 = G 98 10) := by
  obtain ⟨g7, g8, hE, hT⟩ := hM
  have hQ2 := hQ.add hl hX hn hv
  have hl2 : (Q ++ [(X, n, v)]).length = Q.length + 1 := List.length_append
  obtain ⟨B1, b1, b2, b3, b4⟩ := s_copyX (A := A) (N := N) (X := X) f1 hC g7 hl (if Q.length = 0 then -1 else nI n) (nI v) C 0 N B (by omega) (by omega) hI
  generalize hA1 : upA (upA A 101 (upd (A 101) Q.length (if Q.length = 0 then -1 else nI n))) 102 (upd (A 102) Q.length (nI v)) = A1
  generalize hG1 : upA G 98 (upd (G 98) 8 (nI (Q.length + 1))) = G1
  have a101 : A1 101 = upd (A 101) Q.length (if Q.length = 0 then -1 else nI n) := by rw [← hA1, upA_ne _ _ _ (by omega), upA_same]
  have a102 : A1 102 = upd (A 102) Q.length (nI v) := by rw [← hA1, upA_same]
  have aO : ∀ i, i ≠ 101 → i ≠ 102 → A1 i = A i := fun i h1 h2 => by rw [← hA1, upA_ne _ _ _ h2, upA_ne _ _ _ h1]
  have gO : ∀ i, i ≠ 98 → G1 i = G i := fun i hi => by rw [← hG1, upA_ne _ _ _ hi]
  have gF : ∀ j, j ≠ 8 → G1 98 j = G 98 j := fun j hj => by rw [← hG1, upA_same, upd_ne _ _ _ hj]
  have g18 : G1 98 8 = nI (Q.length + 1) := by rw [← hG1, upA_same, upd_eq]
  have hI1 : Im (B1 104) X := by rw [b2 104 (by omega)]; exact hI
  have hS1 : Sx B1 Q C := fun j q hq p hp => by
    have hj : j < Q.length := (List.getElem?_eq_some_iff.mp hq).1
    rw [b4 _ (fun i _ hi => by omega)]
    exact (hE j q hq).1 p hp
  obtain ⟨e, e1, e2, e3, e4, e5⟩ := s_slot (A := A1) (N := N) f1 hN hC hPC (show G1 98 7 = nI C by rw [gF 7 (by omega)]; exact g7) hI1 hX hQ hS1 (by rw [aO 103 (by omega) (by omega)]; exact hT)
  rw [aO 103 (by omega) (by omega)] at e3 e4 e5
  have hz := e5 hout
  generalize hσ : (hh X C + e) % 4096 = σ at e2 hz
  have hσl : σ < 4096 := by rw [← hσ]; exact Nat.mod_lt _ (by decide)
  generalize hA2 : upA A1 103 (upd (A1 103) σ (nI (Q.length + 1))) = A2
  have a2O : ∀ i, i ≠ 103 → A2 i = A1 i := fun i hi => by rw [← hA2, upA_ne _ _ _ hi]
  have a203 : A2 103 = upd (A 103) σ (nI (Q.length + 1)) := by rw [← hA2, upA_same, aO 103 (by omega) (by omega)]
  have hnz : ∀ j, j < 2000 → ¬ nI (j + 1) = 0 := fun j hj e => by
    have := (nI_eq (a := j + 1) (b := 0) (by omega) (by omega)).mp e
    omega
  have hTb : Tb (A2 103) (Q ++ [(X, n, v)]) C := by
    rw [a203]
    refine ⟨fun τ hτ => ?_, fun j q hq => ?_, ?_⟩
    · by_cases e : τ = σ
      · subst e; exact Or.inr ⟨Q.length, by omega, upd_eq _ _ _⟩
      · rw [upd_ne _ _ _ e]
        rcases hT.1 τ hτ with h | ⟨j, h1, h2⟩
        · exact Or.inl h
        · exact Or.inr ⟨j, by omega, h2⟩
    · by_cases ej : j < Q.length
      · rw [List.getElem?_append_left ej] at hq
        obtain ⟨e', t1, t2, t3⟩ := hT.2.1 j q hq
        refine ⟨e', t1, ?_, fun u hu => ?_⟩
        · rw [upd_ne _ _ _ (fun g => hnz j (by omega) (by rw [← t2, g]; exact hz))]
          exact t2
        · by_cases g : (hh q.1 C + u) % 4096 = σ
          · rw [g, upd_eq]; exact hnz _ hl
          · rw [upd_ne _ _ _ g]; exact t3 u hu
      · have hj : j < (Q ++ [(X, n, v)]).length := (List.getElem?_eq_some_iff.mp hq).1
        have ej2 : j = Q.length := by omega
        subst ej2
        rw [List.getElem?_append_right (Nat.le_refl _), Nat.sub_self] at hq
        obtain rfl := Option.some.inj hq
        refine ⟨e, e1, ?_, fun u hu => ?_⟩
        · show upd (A 103) σ (nI (Q.length + 1)) ((hh X C + e) % 4096) = _
          rw [hσ, upd_eq]
        · show upd (A 103) σ (nI (Q.length + 1)) ((hh X C + u) % 4096) ≠ 0
          by_cases g : (hh X C + u) % 4096 = σ
          · rw [g, upd_eq]; exact hnz _ hl
          · rw [upd_ne _ _ _ g]; exact e3 u hu
    · rw [cnz_upd hz (hnz _ hl), if_pos hσl, hl2]
      have := hT.2.2
      omega
  have hMX : ∀ G', G' 98 7 = nI C → G' 98 8 = nI (Q.length + 1) → MX A2 B1 G' (Q ++ [(X, n, v)]) C := by
    intro G' k7 k8
    refine ⟨k7, by rw [k8, hl2], fun j q hq => ?_, hTb⟩
    rw [a2O 101 (by omega), a2O 102 (by omega), a101, a102]
    by_cases ej : j < Q.length
    · rw [List.getElem?_append_left ej] at hq
      rw [upd_ne _ _ _ (by omega), upd_ne _ _ _ (by omega)]
      exact ⟨hS1 j q hq, (hE j q hq).2⟩
    · have hj : j < (Q ++ [(X, n, v)]).length := (List.getElem?_eq_some_iff.mp hq).1
      have ej2 : j = Q.length := by omega
      subst ej2
      rw [List.getElem?_append_right (Nat.le_refl _), Nat.sub_self] at hq
      obtain rfl := Option.some.inj hq
      rw [upd_eq, upd_eq]
      exact ⟨fun p hp => b3 p (Nat.zero_le _) hp, rfl, rfl⟩
  have hrun : f_X5_takeImage N 98 (if Q.length = 0 then -1 else nI n) (nI v) (mem A B G fl) = (if bz (X = 1) = 0 then some ((0 : Int32), mem A2 B1 G1 fl) else ((pV (mem A2 B1 G1 fl) 98 5 9 (.int (nI Q.length))).bind fun M90 => f_X5_takeImage_L99 N N 98 (nI Q.length) (0 : Int32) M90)) := by
    unfold f_X5_takeImage
    rw [gx_98_8 f1, sb, g8, show (0 : Int32) = nI 0 from rfl, b1]
    unfold f_X5_takeImage_K42
    rw [gx_98_2 f1, sb, stI_n (ly101 f1) hl (by decide), sb, gx_98_3 f1, sb, stI_n (ly102 f1) hl (by decide), sb, gx_98_8 f1, sb, g8, px_98_8 f1, sb, nI_1, upA_ne _ _ _ (show 102 ≠ 101 by omega), hA1, hG1, gx_98_4 f1, sb, ck_98 f1, sb, e2, b2s, gx_98_8 f1, sb, g18, stI_n (ly103 f1) hσl (by decide), sb, hA2, ck_98 f1, sb, s_home f1 (by omega) hC0 hC (show G1 98 7 = nI C by rw [gF 7 (by omega)]; exact g7) hI1 (pC hPC hX), b2s]
    rfl
  have frA : ∀ i, i ≠ 101 → i ≠ 102 → i ≠ 103 → A2 i = A i := fun i h1 h2 h3 => (a2O i h3).trans (aO i h1 h2)
  by_cases h1 : X = 1
  · generalize hG2 : upA G1 98 (upd (G1 98) 9 (nI Q.length)) = G2
    have k10 : G2 98 10 = nI 0 := by rw [← hG2, upA_same, upd_ne _ _ _ (by omega), gF 10 (by omega)]; exact h10
    have hb := s_backX (A := A2) (B := B1) (N := N) f1 hQ2 (fun j q hq => ((hMX G1 (by rw [gF 7 (by omega)]; exact g7) g18).2.2.1 j q hq).2.1) Q.length Q.length N 0 0 G2 (Nat.le_refl _) (by omega) (by omega) (by omega) k10
    have hd : dpt (Q ++ [(X, n, v)]) = dpF (frQ (Q ++ [(X, n, v)])) Q.length Q.length := by
      unfold dpt
      rw [hl2, show Q.length + 1 - 1 = Q.length by omega]
    rw [Nat.zero_add, ← hd] at hb
    generalize hG3 : upA G2 98 (upd (G2 98) 10 (nI (dpt (Q ++ [(X, n, v)])))) = G3 at hb
    have k3 : ∀ j, j ≠ 9 → j ≠ 10 → G3 98 j = G1 98 j := fun j x y => by rw [← hG3, upA_same, upd_ne _ _ _ y, ← hG2, upA_same, upd_ne _ _ _ x]
    refine ⟨A2, B1, G3, ?_, hMX G3 (by rw [k3 7 (by omega) (by omega), gF 7 (by omega)]; exact g7) (by rw [k3 8 (by omega) (by omega)]; exact g18), ⟨frA, fun i a _ => b2 i a, fun i hi => by rw [← hG3, upA_ne _ _ _ hi, ← hG2, upA_ne _ _ _ hi]; exact gO i hi, fun j x y z => by rw [k3 j y z, gF j x]⟩, fun _ => ⟨by rw [← hG3, upA_same, upd_ne _ _ _ (by omega), ← hG2, upA_same, upd_eq], by rw [← hG3, upA_same, upd_eq]⟩, fun g => absurd h1 g⟩
    rw [hrun, if_neg (bz1 h1), px_98_9 f1, sb, hG2, show (0 : Int32) = nI 0 from rfl, hb, show bz (X = 1) = 1 from if_pos h1]
  · refine ⟨A2, B1, G1, ?_, hMX G1 (by rw [gF 7 (by omega)]; exact g7) g18, ⟨frA, fun i a _ => b2 i a, gO, fun j x _ _ => gF j x⟩, fun g => absurd g h1, fun _ => ⟨gF 9 (by omega), gF 10 (by omega)⟩⟩
    rw [hrun, if_pos (bz0 h1), show bz (X = 1) = 0 from bz0 h1]
end Xs
