/-! the class's table of leads -/
def lxI (L : List (Nat × Nat)) (R n : Nat → Nat) (i : Nat) (y : Nat × Nat) : Int32 := match ix y L 0 with
  | some j => nI j
  | none => if wdB R n y i 0 = true then -1 else 0
def LdX (A : Nat → Nat → Int32) (G : Nat → Nat → Int32) (L : List (Nat × Nat)) (R n : Nat → Nat) (i : Nat) : Prop := G 98 6 = nI L.length ∧ ∀ k x v, L[k]? = some x → v < 4 → A 99 (k * 4 + v) = lxI L R n i (chd x v)
def Mb (L : List (Nat × Nat)) (R n : Nat → Nat) (i k : Nat) : Prop := ∀ y, y ∈ L ↔ (∃ j l, j < i ∧ l < n j ∧ y = (ct (R j) l, l)) ∨ ∃ l, l ≤ k ∧ y = (ct (R i) l, l)
theorem vis_le (L : List (Nat × Nat)) (x : Nat × Nat) : L.length ≤ (vis L x).length := by
  unfold vis
  split
  · exact Nat.le_refl _
  · rw [List.length_append]; omega
theorem vw_le {R : Nat} : ∀ (d k : Nat) (L : List (Nat × Nat)), L.length ≤ (vw R d k L).length := by
  intro d
  induction d with
  | zero => intro k L; exact Nat.le_refl _
  | succ d ih => intro k L; exact Nat.le_trans (vis_le L _) (ih (k + 1) _)
theorem vp_le {R n : Nat → Nat} : ∀ (d i : Nat) (L : List (Nat × Nat)), L.length ≤ (vp R n d i L).length := by
  intro d
  induction d with
  | zero => intro k L; exact Nat.le_refl _
  | succ d ih => intro i L; exact Nat.le_trans (vw_le (R := R i) (n i) 0 L) (ih (i + 1) _)
theorem chd_ct {R k : Nat} (hk : k < 24) : chd (ct R k, k) (dg R k) = (ct R (k + 1), k + 1) := by
  unfold chd
  rw [ct_succ hk]
theorem chd_inj {x y : Nat × Nat} {v w : Nat} (hx : x.2 ≤ 23 ∧ rz x.1 x.2) (hy : y.2 ≤ 23 ∧ rz y.1 y.2) (hv : v < 4) (hw : w < 4) (h : chd x v = chd y w) : x = y ∧ v = w := by
  have h1 : x.1 + v * 4 ^ (23 - x.2) = y.1 + w * 4 ^ (23 - y.2) := congrArg Prod.fst h
  have h2 : x.2 + 1 = y.2 + 1 := congrArg Prod.snd h
  have h3 : x.2 = y.2 := by omega
  have e : x.1 = y.1 := by
    have := congrArg (fun z => ct z x.2) h1
    have : ct (x.1 + v * 4 ^ (23 - x.2)) x.2 = ct (y.1 + w * 4 ^ (23 - y.2)) x.2 := this
    rw [ct_add (by omega) hx.2 hv, h3, ct_add (by omega) hy.2 hw] at this
    exact this
  refine ⟨Prod.ext e h3, ?_⟩
  rw [e, h3] at h1
  exact Nat.eq_of_mul_eq_mul_right (Nat.pow_pos (by decide)) (Nat.add_left_cancel h1)
theorem nd_get {L : List (Nat × Nat)} (h : L.Nodup) {i j : Nat} {x : Nat × Nat} (hi : L[i]? = some x) (hj : L[j]? = some x) : i = j := by
  obtain ⟨i1, i2⟩ := List.getElem?_eq_some_iff.mp hi
  obtain ⟨j1, j2⟩ := List.getElem?_eq_some_iff.mp hj
  rw [List.nodup_iff_pairwise_ne, List.pairwise_iff_getElem] at h
  by_cases e : i = j
  · exact e
  · exfalso
    by_cases e2 : i < j
    · exact h i j i1 j1 e2 (by rw [i2, j2])
    · exact h j i j1 i1 (by omega) (by rw [i2, j2])
theorem ix_get {L : List (Nat × Nat)} (h : L.Nodup) {j : Nat} {x : Nat × Nat} (hj : L[j]? = some x) : ix x L 0 = some j := by
  cases e : ix x L 0 with
  | none => exact absurd (List.mem_of_getElem? hj) ((ix_none L 0).mp e)
  | some i =>
    have := (ix_some L 0 i e).2
    exact congrArg some (nd_get h this hj)
section Ly
variable {B : Nat → Nat → Int64} {fl : Nat → Bool} {N s t : Nat} {R n : Nat → Nat}
theorem s_newP0 (f1 : fl 3 = true) {P : Nat} (hP : P < 553) : ∀ (d v m : Nat) (A : Nat → Nat → Int32) (G : Nat → Nat → Int32), v + d = 4 → d < m → G 98 6 = nI P →
    ∃ A', f_X5_newPlace_L14 N m 98 (nI v) (mem A B G fl) = some (nI P, mem A' B (upA G 98 (upd (G 98) 6 (nI (P + 1)))) fl) ∧ (∀ i, i ≠ 99 → A' i = A i) ∧ (∀ j, v ≤ j → j < 4 → A' 99 (P * 4 + j) = 0) ∧ (∀ j, (∀ u, v ≤ u → u < 4 → j ≠ P * 4 + u) → A' 99 j = A 99 j) := by
  intro d
  induction d with
  | zero =>
    intro v m A G h hm hG
    obtain ⟨m, rfl⟩ : ∃ j, m = j + 1 := ⟨m - 1, by omega⟩
    refine ⟨A, ?_, fun _ _ => rfl, fun j h1 h2 => absurd h1 (by omega), fun _ _ => rfl⟩
    rw [f_X5_newPlace_L14, if_pos (show (4 : Int32) ≤ nI v from nI_le (a := 4) (by omega) (by omega)), f_X5_newPlace_K39, gx_98_6 f1, sb, px_98_6 f1, sb, gx_98_6 f1, sb, upA_same, upd_eq, hG, nI_1, show (1 : Int32) = nI 1 from rfl, pk_sub (by omega), show P + 1 - 1 = P by omega]
  | succ d ih =>
    intro v m A G h hm hG
    obtain ⟨m, rfl⟩ : ∃ j, m = j + 1 := ⟨m - 1, by omega⟩
    generalize hA1 : upA A 99 (upd (A 99) (P * 4 + v) 0) = A1
    have q1 : ∀ i, i ≠ 99 → A1 i = A i := by subst hA1; exact fun i hi => upA_ne _ _ _ hi
    have q2 : A1 99 = upd (A 99) (P * 4 + v) 0 := by subst hA1; exact upA_same _ _ _
    obtain ⟨A', g1, g2, g3, g4⟩ := ih (v + 1) m A1 G (by omega) (by omega) hG
    refine ⟨A', ?_, fun i hi => (g2 i hi).trans (q1 i hi), fun j h1 h2 => ?_, fun j hj => ?_⟩
    · rw [f_X5_newPlace_L14, if_neg (show ¬ (4 : Int32) ≤ nI v from nI_ge (b := 4) (by omega) (by omega)), gx_98_0 f1, sb, gx_98_6 f1, sb, hG, show (4 : Int32) = nI 4 from rfl, pk_mul, nI_add, stI_n (ly99 f1) (by omega) (by decide), sb, hA1, nI_1, g1]
    · by_cases e : j = v
      · subst e
        rw [g4 _ (fun u h1 h2 => by omega), q2, upd_eq]
      · exact g3 j (by omega) h2
    · rw [g4 j (fun u h1 h2 => hj u (by omega) h2), q2, upd_ne _ _ _ (hj v (Nat.le_refl _) (by omega))]
theorem s_newP (f1 : fl 3 = true) (hN : 4 < N) {P : Nat} (hP : P < 553) (A : Nat → Nat → Int32) (G : Nat → Nat → Int32) (hG : G 98 6 = nI P) :
    ∃ A', f_X5_newPlace N 98 (mem A B G fl) = some (nI P, mem A' B (upA G 98 (upd (G 98) 6 (nI (P + 1)))) fl) ∧ (∀ i, i ≠ 99 → A' i = A i) ∧ (∀ j, j < 4 → A' 99 (P * 4 + j) = 0) ∧ (∀ j, (∀ u, u < 4 → j ≠ P * 4 + u) → A' 99 j = A 99 j) := by
  obtain ⟨A', g1, g2, g3, g4⟩ := s_newP0 (B := B) (N := N) f1 hP 4 0 N A G (by omega) (by omega) hG
  refine ⟨A', ?_, g2, fun j hj => g3 j (Nat.zero_le _) hj, fun j hj => g4 j (fun u _ hu => hj u hu)⟩
  unfold f_X5_newPlace
  rw [gx_98_6 f1, sb, hG, if_pos (show nI P < (553 : Int32) from nI_lt (b := 553) (by omega) (by omega)), show (0 : Int32) = nI 0 from rfl, g1]
/-- facts of a list while word i is walked at k -/
def LyI (A : Nat → Nat → Int32) (G : Nat → Nat → Int32) (L : List (Nat × Nat)) (R n : Nat → Nat) (i k : Nat) : Prop := LdX A G L R n i ∧ Mb L R n i k ∧ L.Nodup ∧ L[0]? = some (0, 0)
theorem mb_ok (hW : WW R n s t) {L : List (Nat × Nat)} {i k : Nat} (hi : i < t) (hk : k < n i) (h : Mb L R n i k) {x : Nat × Nat} (hx : x ∈ L) : isP R n t x := by
  rcases (h x).mp hx with ⟨j, l, h1, h2, rfl⟩ | ⟨l, h1, rfl⟩
  · exact ⟨j, by omega, h2, rfl⟩
  · exact ⟨i, hi, by show l < n i; omega, rfl⟩
/-- the last sign -/
theorem ly_end (hP : PF R n t) (hW : WW R n s t) {A : Nat → Nat → Int32} {G : Nat → Nat → Int32} {L : List (Nat × Nat)} {i p : Nat} (hi : i < t) (h : LyI A G L R n i (n i - 1)) (hp : L[p]? = some (ct (R i) (n i - 1), n i - 1)) : LdX (upA A 99 (upd (A 99) (p * 4 + dg (R i) (n i - 1)) (-1))) G L R n (i + 1) := by
  obtain ⟨⟨l1, l2⟩, hM, hN, h0⟩ := h
  obtain ⟨w1, w2, w3, w4⟩ := hW i hi
  have hn := hP.1 i hi
  have hc : chd (ct (R i) (n i - 1), n i - 1) (dg (R i) (n i - 1)) = (R i, n i) := by
    rw [chd_ct (by omega), show n i - 1 + 1 = n i by omega, ct_all w3]
  refine ⟨l1, fun k x v hx hv => ?_⟩
  rw [upA_same]
  have ox := isP_ok hW (mb_ok hW hi (by omega) hM (List.mem_of_getElem? hx))
  have op := isP_ok hW (mb_ok hW hi (by omega) hM (List.mem_of_getElem? hp))
  have hdg := dg_lt (R i) (n i - 1)
  by_cases e : k * 4 + v = p * 4 + dg (R i) (n i - 1)
  · have ek : k = p := by omega
    have ev : v = dg (R i) (n i - 1) := by omega
    subst ek ev
    rw [hp] at hx
    obtain rfl := Option.some.inj hx
    rw [upd_eq, hc]
    unfold lxI
    have hni : ix (R i, n i) L 0 = none := (ix_none L 0).mpr (fun hm => isP_W hP hW (mb_ok hW hi (by omega) hM hm) ⟨i, hi, rfl, rfl⟩)
    rw [hni]
    show _ = if wdB R n (R i, n i) (i + 1) 0 = true then -1 else 0
    rw [if_pos ((wdB_iff (i + 1) 0).mpr ⟨i, Nat.zero_le _, by omega, rfl, rfl⟩)]
  · rw [upd_ne _ _ _ e, l2 k x v hx hv]
    unfold lxI
    have hne : chd x v ≠ (R i, n i) := by
      intro q
      rw [← hc] at q
      obtain ⟨q1, q2⟩ := chd_inj ⟨ox.2.1, ox.2.2⟩ ⟨op.2.1, op.2.2⟩ hv (by omega) q
      rw [q1] at hx
      have := nd_get hN hx hp
      omega
    have hwd : wdB R n (chd x v) i 0 = wdB R n (chd x v) (i + 1) 0 := by
      apply Bool.eq_iff_iff.mpr
      rw [wdB_iff, wdB_iff]
      constructor
      · rintro ⟨j, a, b, c⟩; exact ⟨j, a, by omega, c⟩
      · rintro ⟨j, a, b, c, d⟩
        refine ⟨j, a, ?_, c, d⟩
        by_cases q : j = i
        · subst q; exact absurd (Prod.ext d.symm c.symm) hne
        · omega
    rw [hwd]
/-- a new place -/
theorem ly_new (hP : PF R n t) (hW : WW R n s t) {A A1 : Nat → Nat → Int32} {G G1 : Nat → Nat → Int32} {L : List (Nat × Nat)} {i k p : Nat} (hi : i < t) (hk : k + 1 < n i) (h : LyI A G L R n i k) (hp : L[p]? = some (ct (R i) k, k)) (hy : (ct (R i) (k + 1), k + 1) ∉ L)
    (hG : G1 98 6 = nI (L.length + 1)) (z1 : ∀ j, j < 4 → A1 99 (L.length * 4 + j) = 0) (z2 : A1 99 (p * 4 + dg (R i) k) = nI L.length) (z3 : ∀ j, j < L.length * 4 → j ≠ p * 4 + dg (R i) k → A1 99 j = A 99 j) : LyI A1 G1 (L ++ [(ct (R i) (k + 1), k + 1)]) R n i (k + 1) := by
  obtain ⟨⟨l1, l2⟩, hM, hN, h0⟩ := h
  obtain ⟨w1, w2, w3, w4⟩ := hW i hi
  have hdg := dg_lt (R i) k
  have hc := chd_ct (R := R i) (show k < 24 by omega)
  have hpl : p < L.length := (List.getElem?_eq_some_iff.mp hp).1
  have h00 : 0 < L.length := (List.getElem?_eq_some_iff.mp h0).1
  have hMb : Mb (L ++ [(ct (R i) (k + 1), k + 1)]) R n i (k + 1) := by
    intro y
    rw [List.mem_append, List.mem_singleton, hM]
    constructor
    · rintro ((h | ⟨l, a, b⟩) | h)
      · exact Or.inl h
      · exact Or.inr ⟨l, by omega, b⟩
      · exact Or.inr ⟨k + 1, Nat.le_refl _, h⟩
    · rintro (h | ⟨l, a, b⟩)
      · exact Or.inl (Or.inl h)
      · by_cases e : l = k + 1
        · subst e; exact Or.inr b
        · exact Or.inl (Or.inr ⟨l, by omega, b⟩)
  have hNd : (L ++ [(ct (R i) (k + 1), k + 1)]).Nodup := by
    have := vis_nd (x := (ct (R i) (k + 1), k + 1)) hN
    unfold vis at this
    rw [if_neg hy] at this
    exact this
  refine ⟨⟨by rw [hG, List.length_append]; rfl, fun q x v hx hv => ?_⟩, hMb, hNd, by rw [List.getElem?_append_left h00]; exact h0⟩
  have op := isP_ok hW (mb_ok hW hi (by omega) hM (List.mem_of_getElem? hp))
  unfold lxI
  rw [ix_app, Nat.zero_add]
  by_cases hq : q < L.length
  · rw [List.getElem?_append_left hq] at hx
    have ox := isP_ok hW (mb_ok hW hi (by omega) hM (List.mem_of_getElem? hx))
    by_cases e : q * 4 + v = p * 4 + dg (R i) k
    · have ek : q = p := by omega
      have ev : v = dg (R i) k := by omega
      subst ek ev
      rw [hp] at hx
      obtain rfl := Option.some.inj hx
      rw [z2, hc, (ix_none L 0).mpr hy]
      show _ = match (if (ct (R i) (k + 1), k + 1) = (ct (R i) (k + 1), k + 1) then some L.length else none) with
        | some j => nI j
        | none => _
      rw [if_pos rfl]
    · have hne : (ct (R i) (k + 1), k + 1) ≠ chd x v := by
        intro g
        rw [← hc] at g
        obtain ⟨q1, q2⟩ := chd_inj ⟨op.2.1, op.2.2⟩ ⟨ox.2.1, ox.2.2⟩ (by omega) hv g
        rw [← q1] at hx
        have := nd_get hN hx hp
        omega
      rw [z3 _ (by omega) e, l2 q x v hx hv]
      unfold lxI
      cases ix (chd x v) L 0 with
      | some j => rfl
      | none =>
        show _ = match (if (ct (R i) (k + 1), k + 1) = chd x v then some L.length else none) with
          | some j => nI j
          | none => _
        rw [if_neg hne]
  · have hql : q < (L ++ [(ct (R i) (k + 1), k + 1)]).length := (List.getElem?_eq_some_iff.mp hx).1
    have hq2 : q = L.length := by rw [List.length_append] at hql; have : [(ct (R i) (k + 1), k + 1)].length = 1 := rfl; omega
    subst hq2
    rw [List.getElem?_append_right (Nat.le_refl _), Nat.sub_self] at hx
    obtain rfl := Option.some.inj hx
    -- a child of the new place is nowhere
    have par : ∀ j, j < t → R j < 4 ^ 24 → ct (R j) (k + 2) = (chd (ct (R i) (k + 1), k + 1) v).1 → ct (R j) (k + 1) = ct (R i) (k + 1) := by
      intro j hj hR e
      have e2 := congrArg (fun z => ct z (k + 1)) e
      have e2 : ct (ct (R j) (k + 2)) (k + 1) = ct (ct (R i) (k + 1) + v * 4 ^ (23 - (k + 1))) (k + 1) := e2
      rw [ct_ct (by omega) (by omega), ct_add (by omega) (ct_rz _ _) hv] at e2
      exact e2
    have n1 : chd (ct (R i) (k + 1), k + 1) v ∉ L := by
      intro g
      rcases (hM _).mp g with ⟨j, l, a, b, c⟩ | ⟨l, a, c⟩
      · have c2 : k + 2 = l := congrArg Prod.snd c
        subst c2
        refine hy ((hM _).mpr (Or.inl ⟨j, k + 1, a, by omega, ?_⟩))
        rw [par j (by omega) (hW j (by omega)).1 (congrArg Prod.fst c).symm]
      · have c2 : k + 2 = l := congrArg Prod.snd c
        omega
    have n2 : wdB R n (chd (ct (R i) (k + 1), k + 1) v) i 0 = false := by
      cases e : wdB R n (chd (ct (R i) (k + 1), k + 1) v) i 0 with
      | false => rfl
      | true =>
        exfalso
        obtain ⟨j, a, b, c, d⟩ := (wdB_iff i 0).mp e
        have c : n j = k + 2 := c
        have hj : j < t := by omega
        have e2 : ct (R j) (k + 2) = R j := by rw [← c]; exact ct_all (hW j hj).2.2.1
        exact hy ((hM _).mpr (Or.inl ⟨j, k + 1, by omega, by omega, by rw [par j hj (hW j hj).1 (by rw [e2, d])]⟩))
    have n3 : (ct (R i) (k + 1), k + 1) ≠ chd (ct (R i) (k + 1), k + 1) v := by
      intro g
      have : k + 1 = k + 2 := congrArg Prod.snd g
      omega
    rw [z1 v hv, (ix_none L 0).mpr n1]
    show _ = match (if (ct (R i) (k + 1), k + 1) = chd (ct (R i) (k + 1), k + 1) v then some L.length else none) with
      | some j => nI j
      | none => _
    rw [if_neg n3, n2]
    rfl
/-- what the table holds ahead of the last sign -/
theorem ly_at (hP : PF R n t) (hW : WW R n s t) {A : Nat → Nat → Int32} {G : Nat → Nat → Int32} {L : List (Nat × Nat)} {i k p : Nat} (hi : i < t) (hk : k + 1 < n i) (h : LyI A G L R n i k) (hp : L[p]? = some (ct (R i) k, k)) : A 99 (p * 4 + dg (R i) k) = match ix (ct (R i) (k + 1), k + 1) L 0 with
    | some j => nI j
    | none => 0 := by
  obtain ⟨⟨l1, l2⟩, hM, hN, h0⟩ := h
  have := (hW i hi).2.1
  rw [l2 p _ _ hp (dg_lt _ _), chd_ct (by omega)]
  unfold lxI
  cases ix (ct (R i) (k + 1), k + 1) L 0 with
  | some j => rfl
  | none =>
    show (if wdB R n (ct (R i) (k + 1), k + 1) i 0 = true then (-1 : Int32) else 0) = 0
    refine if_neg (fun e => ?_)
    obtain ⟨j, a, b, c, d⟩ := (wdB_iff i 0).mp e
    exact isP_W hP hW (x := (ct (R i) (k + 1), k + 1)) ⟨i, hi, hk, rfl⟩ ⟨j, by omega, c, d⟩
/-- one word -/
theorem s_lyWord (f1 : fl 3 = true) (hN : 100 < N) (ht : t ≤ 24) (hP : PF R n t) (hpl : (PLS R n t).length ≤ 553) (k12 : Nat → Nat → Int32 → A_M → Option A_M) {i : Nat} (hi : i < t) : ∀ (d k m : Nat) (A : Nat → Nat → Int32) (G : Nat → Nat → Int32) (L : List (Nat × Nat)) (p : Nat), k + d + 1 = n i → d + 1 < m → Ws s t (B 14) (A 15) R n → LyI A G L R n i k → L[p]? = some (ct (R i) k, k) → vp R n (t - i - 1) (i + 1) (vw (R i) d (k + 1) L) = PLS R n t →
    ∃ A' G' L', f_X5_layPlaces_L25 N k12 m 98 13 (nI i) (nI p) (nI k) (mem A B G fl) = k12 98 13 (nI (i + 1)) (mem A' B G' fl) ∧ (∀ j, j ≠ 99 → A' j = A j) ∧ (∀ j, j ≠ 98 → G' j = G j) ∧ (∀ j, j ≠ 6 → G' 98 j = G 98 j) ∧ LdX A' G' L' R n (i + 1) ∧ Mb L' R n i (n i - 1) ∧ L'.Nodup ∧ L'[0]? = some (0, 0) ∧ vp R n (t - i - 1) (i + 1) L' = PLS R n t := by
  intro d
  induction d with
  | zero =>
    intro k m A G L p h hm hW hL hp hE
    obtain ⟨m, rfl⟩ : ∃ j, m = j + 1 + 1 := ⟨m - 2, by omega⟩
    obtain ⟨w1, w2, w3, w4, w5, w6⟩ := hW i hi
    have r1 := r48 w3
    have hk : k = n i - 1 := by omega
    have hp1 : p < L.length := (List.getElem?_eq_some_iff.mp hp).1
    have hlen : L.length ≤ 553 := by
      rw [← hE] at hpl
      exact Nat.le_trans (Nat.le_trans (vw_le (R := R i) 0 (k + 1) L) (vp_le _ _ _)) hpl
    have hdg := dg_lt (R i) k
    have hX := ly_end hP hW.ww hi (hk ▸ hL) (hk ▸ hp)
    rw [← hk] at hX
    generalize hA1 : upA A 99 (upd (A 99) (p * 4 + dg (R i) k) (-1)) = A1 at hX
    have q1 : ∀ i, i ≠ 99 → A1 i = A i := by subst hA1; exact fun i hi => upA_ne _ _ _ hi
    have q15 : A1 15 = A 15 := q1 15 (by omega)
    refine ⟨A1, G, L, ?_, q1, fun _ _ => rfl, fun _ _ => rfl, hX, hk ▸ hL.2.1, hL.2.2.1, hL.2.2.2, hE⟩
    rw [f_X5_layPlaces_L25, gx_13_1, sb, ldI_n (ly15 fl) (by omega) (by decide), sb, w2, if_neg (nI_ge (by omega) (by omega)), gx_13_0, sb, ldJ_n (ly14 fl) (by omega) (by decide), sb, w1, s_signOfRow (by omega) (by omega), b2s, gx_13_1, sb, ldI_n (ly15 fl) (by omega) (by decide), sb, w2, show (1 : Int32) = nI 1 from rfl, pk_sub (by omega), ← hk, if_pos rfl, gx_98_0 f1, sb, show (4 : Int32) = nI 4 from rfl, pk_mul, nI_add, stI_n (ly99 f1) (by omega) (by decide), sb, show (-nI 1 : Int32) = -1 from rfl, hA1, f_X5_layPlaces_K106, show nI k + 1 = nI (k + 1) from nI_1 k, f_X5_layPlaces_L25, gx_13_1, sb, ldI_n (ly15 fl) (by omega) (by decide), sb, q15, w2, if_pos (nI_le (by omega) (by omega)), f_X5_layPlaces_K112, nI_1]
  | succ d ih =>
    intro k m A G L p h hm hW hL hp hE
    obtain ⟨m, rfl⟩ : ∃ j, m = j + 1 := ⟨m - 1, by omega⟩
    obtain ⟨w1, w2, w3, w4, w5, w6⟩ := hW i hi
    have r1 := r48 w3
    have hp1 : p < L.length := (List.getElem?_eq_some_iff.mp hp).1
    have hv1 : (vis L (ct (R i) (k + 1), k + 1)).length ≤ 553 := by
      rw [← hE] at hpl
      exact Nat.le_trans (Nat.le_trans (vw_le (R := R i) d (k + 1 + 1) _) (vp_le _ _ _)) hpl
    have hlen : L.length ≤ 553 := Nat.le_trans (vis_le L _) hv1
    have hdg := dg_lt (R i) k
    have hat := ly_at hP hW.ww hi (show k + 1 < n i by omega) hL hp
    rw [f_X5_layPlaces_L25, gx_13_1, sb, ldI_n (ly15 fl) (by omega) (by decide), sb, w2, if_neg (nI_ge (by omega) (by omega)), gx_13_0, sb, ldJ_n (ly14 fl) (by omega) (by decide), sb, w1, s_signOfRow (by omega) (by omega), b2s, gx_13_1, sb, ldI_n (ly15 fl) (by omega) (by decide), sb, w2, show (1 : Int32) = nI 1 from rfl, pk_sub (by omega), if_neg (fun e => by have := (nI_eq (by omega) (by omega)).mp e; omega), gx_98_0 f1, sb, show (4 : Int32) = nI 4 from rfl, pk_mul, nI_add, ldI_n (ly99 f1) (by omega) (by decide), sb, hat]
    by_cases hy : (ct (R i) (k + 1), k + 1) ∈ L
    · cases hix : ix (ct (R i) (k + 1), k + 1) L 0 with
      | none => exact absurd hy ((ix_none L 0).mp hix)
      | some j =>
        have hj : L[j]? = some (ct (R i) (k + 1), k + 1) := (ix_some L 0 j hix).2
        have hjl : j < L.length := (List.getElem?_eq_some_iff.mp hj).1
        have hj0 : 0 < j := by
          refine Nat.pos_of_ne_zero (fun e => ?_)
          subst e
          rw [hL.2.2.2] at hj
          have := congrArg Prod.snd (Option.some.inj hj)
          have : (0 : Nat) = k + 1 := this
          omega
        rw [hix] at hat
        have hat : A 99 (p * 4 + dg (R i) k) = nI j := hat
        dsimp only
        rw [if_pos (show (0 : Int32) < nI j from nI_lt (a := 0) hj0 (by omega)), f_X5_layPlaces_K98, gx_98_0 f1, sb, ldI_n (ly99 f1) (by omega) (by decide), sb, hat, f_X5_layPlaces_K106, show nI k + 1 = nI (k + 1) from nI_1 k]
        have hvv : vis L (ct (R i) (k + 1), k + 1) = L := if_pos hy
        have hMb : Mb L R n i (k + 1) := by
          intro y
          rw [hL.2.1]
          constructor
          · rintro (g | ⟨l, a, b⟩)
            · exact Or.inl g
            · exact Or.inr ⟨l, by omega, b⟩
          · rintro (g | ⟨l, a, b⟩)
            · exact Or.inl g
            · by_cases e : l = k + 1
              · subst e
                rw [b]
                exact (hL.2.1 _).mp hy
              · exact Or.inr ⟨l, by omega, b⟩
        exact ih (k + 1) m A G L j (by omega) (by omega) hW ⟨hL.1, hMb, hL.2.2⟩ hj (by rw [← hE]; show _ = vp R n (t - i - 1) (i + 1) (vw (R i) d (k + 1 + 1) (vis L (ct (R i) (k + 1), k + 1))); rw [hvv])
    · have hvv : vis L (ct (R i) (k + 1), k + 1) = L ++ [(ct (R i) (k + 1), k + 1)] := if_neg hy
      have hl1 : (L ++ [(ct (R i) (k + 1), k + 1)]).length = L.length + 1 := List.length_append
      rw [hvv, hl1] at hv1
      obtain ⟨A1, a1, a2, a3, a4⟩ := s_newP (B := B) (N := N) f1 (by omega) (show L.length < 553 by omega) A G hL.1.1
      generalize hA2 : upA A1 99 (upd (A1 99) (p * 4 + dg (R i) k) (nI L.length)) = A2
      generalize hG2 : upA G 98 (upd (G 98) 6 (nI (L.length + 1))) = G2 at a1
      have q1 : ∀ i, i ≠ 99 → A2 i = A i := by
        subst hA2
        exact fun i hi => (upA_ne _ _ _ hi).trans (a2 i hi)
      have q2 : A2 99 = upd (A1 99) (p * 4 + dg (R i) k) (nI L.length) := by subst hA2; exact upA_same _ _ _
      have g1 : G2 98 6 = nI (L.length + 1) := by subst hG2; rw [upA_same, upd_eq]
      have hnew : LyI A2 G2 (L ++ [(ct (R i) (k + 1), k + 1)]) R n i (k + 1) := by
        refine ly_new hP hW.ww hi (by omega) hL hp hy g1 (fun j hj => ?_) ?_ (fun j hj hne => ?_)
        · rw [q2, upd_ne _ _ _ (by omega)]; exact a3 j hj
        · rw [q2, upd_eq]
        · rw [q2, upd_ne _ _ _ hne]
          exact a4 j (fun u hu => by omega)
      have hat2 : A2 99 (p * 4 + dg (R i) k) = nI L.length := by rw [q2, upd_eq]
      rw [(ix_none L 0).mpr hy]
      dsimp only
      rw [if_neg (show ¬ (0 : Int32) < 0 by decide), sb, ck_98 f1, sb, a1, b2s, stI_n (ly99 f1) (by omega) (by decide), sb, hA2, f_X5_layPlaces_K98, gx_98_0 f1, sb, ldI_n (ly99 f1) (by omega) (by decide), sb, hat2, f_X5_layPlaces_K106, show nI k + 1 = nI (k + 1) from nI_1 k]
      obtain ⟨A', G', L', e1, e2, e3, e4, e5⟩ := ih (k + 1) m A2 G2 _ L.length (by omega) (by omega) (by rw [q1 15 (by omega)]; exact hW) hnew (by rw [List.getElem?_append_right (Nat.le_refl _), Nat.sub_self]; rfl) (by rw [← hE]; show _ = vp R n (t - i - 1) (i + 1) (vw (R i) d (k + 1 + 1) (vis L (ct (R i) (k + 1), k + 1))); rw [hvv])
      refine ⟨A', G', L', e1, fun j hj => (e2 j hj).trans (q1 j hj), fun j hj => ?_, fun j hj => ?_, e5⟩
      · rw [e3 j hj]; subst hG2; exact upA_ne _ _ _ hj
      · rw [e4 j hj]; subst hG2; rw [upA_same, upd_ne _ _ _ hj]
/-- all words -/
theorem s_lyWords (f1 : fl 3 = true) (hN : 100 < N) (ht : t ≤ 24) (hP : PF R n t) (hpl : (PLS R n t).length ≤ 553) : ∀ (d i m : Nat) (A : Nat → Nat → Int32) (G : Nat → Nat → Int32) (L : List (Nat × Nat)), i + d = t → d < m → G 13 2 = nI t → Ws s t (B 14) (A 15) R n → LdX A G L R n i → (∀ y, y ∈ L ↔ (y = (0, 0) ∨ ∃ j l, j < i ∧ l < n j ∧ y = (ct (R j) l, l))) → L.Nodup → L[0]? = some (0, 0) → vp R n d i L = PLS R n t →
    ∃ A' G', f_X5_layPlaces_L12 N m 98 13 (nI i) (mem A B G fl) = some (mem A' B G' fl) ∧ (∀ j, j ≠ 99 → A' j = A j) ∧ (∀ j, j ≠ 98 → G' j = G j) ∧ (∀ j, j ≠ 6 → G' 98 j = G 98 j) ∧ LdX A' G' (PLS R n t) R n t ∧ (PLS R n t).Nodup ∧ (PLS R n t)[0]? = some (0, 0) := by
  intro d
  induction d with
  | zero =>
    intro i m A G L h hm hT hW hX hMb hNd h0 hE
    obtain ⟨m, rfl⟩ : ∃ j, m = j + 1 := ⟨m - 1, by omega⟩
    have hE : L = PLS R n t := hE
    have hi : i = t := by omega
    subst hi
    rw [hE] at hX hNd h0
    refine ⟨A, G, ?_, fun _ _ => rfl, fun _ _ => rfl, fun _ _ => rfl, hX, hNd, h0⟩
    rw [f_X5_layPlaces_L12, gx_13_2, sb, hT, if_pos (nI_le (by omega) (by omega))]
  | succ d ih =>
    intro i m A G L h hm hT hW hX hMb hNd h0 hE
    obtain ⟨m, rfl⟩ : ∃ j, m = j + 1 := ⟨m - 1, by omega⟩
    have hi : i < t := by omega
    obtain ⟨w1, w2, w3, w4, w5, w6⟩ := hW i hi
    have hn := hP.1 i hi
    have h00 : (0, 0) ∈ L := List.mem_of_getElem? h0
    have hE2 : vp R n (t - i - 1) (i + 1) (vw (R i) (n i - 1) 1 L) = PLS R n t := by
      rw [← hE, show t - i - 1 = d by omega]
      show _ = vp R n d (i + 1) (vw (R i) (n i) 0 L)
      obtain ⟨c, hc⟩ : ∃ c, n i = c + 1 := ⟨n i - 1, by omega⟩
      rw [hc]
      show _ = vp R n d (i + 1) (vw (R i) c 1 (vis L (ct (R i) 0, 0)))
      have : vis L (ct (R i) 0, 0) = L := if_pos (by rw [ct_0 w3]; exact h00)
      rw [this]
      rfl
    have hMb0 : Mb L R n i 0 := by
      intro y
      rw [hMb]
      constructor
      · rintro (g | g)
        · exact Or.inr ⟨0, Nat.le_refl _, by rw [g, ct_0 w3]⟩
        · exact Or.inl g
      · rintro (g | ⟨l, a, b⟩)
        · exact Or.inr g
        · have : l = 0 := by omega
          subst this
          exact Or.inl (by rw [b, ct_0 w3])
    obtain ⟨A1, G1, L1, e1, e2, e3, e4, e5, e6, e7, e8, e9⟩ := s_lyWord (B := B) (N := N) f1 hN ht hP hpl (f_X5_layPlaces_L12 N m) hi (n i - 1) 0 N A G L 0 (by omega) (by omega) hW ⟨hX, hMb0, hNd, h0⟩ (by rw [h0, ct_0 w3]) hE2
    obtain ⟨A2, G2, g1, g2, g3, g4, g5⟩ := ih (i + 1) m A1 G1 L1 (by omega) (by omega) (by rw [e3 13 (by omega)]; exact hT) (by rw [e2 15 (by omega)]; exact hW) e5 (fun y => by
      rw [e6]
      constructor
      · rintro (⟨j, l, a, b⟩ | ⟨l, a, b⟩)
        · exact Or.inr ⟨j, l, by omega, b⟩
        · exact Or.inr ⟨i, l, by omega, by omega, b⟩
      · rintro (g | ⟨j, l, a, b, c⟩)
        · exact Or.inr ⟨0, Nat.zero_le _, by rw [g, ct_0 w3]⟩
        · by_cases e : j = i
          · subst e; exact Or.inr ⟨l, by omega, c⟩
          · exact Or.inl ⟨j, l, by omega, b, c⟩) e7 e8 (by rw [← e9]; congr 1; omega)
    refine ⟨A2, G2, ?_, fun j hj => (g2 j hj).trans (e2 j hj), fun j hj => (g3 j hj).trans (e3 j hj), fun j hj => (g4 j hj).trans (e4 j hj), g5⟩
    rw [f_X5_layPlaces_L12, gx_13_2, sb, hT, if_neg (nI_ge (by omega) (by omega)), show (0 : Int32) = nI 0 from rfl, e1, g1]
theorem ly_root0 {A1 G1 : Nat → Nat → Int32} (hg : G1 98 6 = nI 1) (a3 : ∀ j, j < 4 → A1 99 (0 * 4 + j) = 0) (r : Nat × Nat) (hr : r.2 = 0) : LdX A1 G1 [r] R n 0 := by
  refine ⟨hg, fun k x v hx hv => ?_⟩
  have hk : k = 0 := by
    have := (List.getElem?_eq_some_iff.mp hx).1
    have : k < 1 := this
    omega
  subst hk
  obtain rfl := Option.some.inj hx
  have hy : (chd r v).2 = r.2 + 1 := rfl
  generalize chd r v = y at hy
  rw [a3 v hv]
  unfold lxI
  have h1 : ix y [r] 0 = none := (ix_none _ _).mpr (fun g => by
    rw [List.mem_singleton.mp g] at hy
    omega)
  rw [h1]
  dsimp only
  rw [if_neg]
  intro g
  obtain ⟨j, a, b, _⟩ := (wdB_iff 0 0).mp g
  omega
theorem ly_root {A1 G1 : Nat → Nat → Int32} (hg : G1 98 6 = nI 1) (a3 : ∀ j, j < 4 → A1 99 (0 * 4 + j) = 0) : LdX A1 G1 [(0, 0)] R n 0 := ly_root0 hg a3 (0, 0) rfl
theorem ly_pls {c : Nat} (w3 : R 0 < 4 ^ 24) (hn : 0 < n 0) : vp R n (c + 1) 0 [(0, 0)] = PLS R n (c + 1) := by
  obtain ⟨b, hb⟩ : ∃ b, n 0 = b + 1 := ⟨n 0 - 1, by omega⟩
  have v1 : vis [(0, 0)] (0, 0) = [(0, 0)] := if_pos (List.mem_singleton.mpr rfl)
  have v2 : vis [] (0, 0) = [(0, 0)] := if_neg (fun g => (by cases g))
  unfold PLS
  rw [vp, vp, hb, vw, vw, ct_0 w3, v1, v2]
/-- the class's places and leads -/
theorem s_layPlaces (f1 : fl 3 = true) (hN : 100 < N) (ht : t ≤ 24) (h0t : 0 < t) (hP : PF R n t) (A : Nat → Nat → Int32) (G : Nat → Nat → Int32) (hT : G 13 2 = nI t) (hW : Ws s t (B 14) (A 15) R n) :
    ∃ A' G', f_X5_layPlaces N 98 13 (mem A B G fl) = some (mem A' B G' fl) ∧ (∀ j, j ≠ 99 → A' j = A j) ∧ (∀ j, j ≠ 98 → G' j = G j) ∧ (∀ j, j ≠ 6 → G' 98 j = G 98 j) ∧ LdX A' G' (PLS R n t) R n t ∧ (PLS R n t).Nodup ∧ (PLS R n t)[0]? = some (0, 0) := by
  have hpl := pls_len (R := R) (n := n) ht (fun i hi => ⟨(hW i hi).2.2.1, (hW i hi).2.2.2.1, hP.1 i hi⟩)
  generalize hG0 : upA G 98 (upd (G 98) 6 0) = G0
  have hz : G0 98 6 = nI 0 := by rw [← hG0, upA_same, upd_eq]; rfl
  obtain ⟨A1, a1, a2, a3, a4⟩ := s_newP (B := B) (N := N) f1 (by omega) (show 0 < 553 by omega) A G0 hz
  generalize hG1 : upA G0 98 (upd (G0 98) 6 (nI (0 + 1))) = G1 at a1
  have hg1 : G1 98 6 = nI 1 := by rw [← hG1, upA_same, upd_eq]
  have hX : LdX A1 G1 [(0, 0)] R n 0 := ly_root hg1 a3
  have hE : vp R n t 0 [(0, 0)] = PLS R n t := by
    obtain ⟨c, rfl⟩ : ∃ c, t = c + 1 := ⟨t - 1, by omega⟩
    exact ly_pls (hW 0 h0t).2.2.1 (hP.1 0 h0t)
  have fG1 : ∀ j, j ≠ 98 → G1 j = G j := fun j hj => by rw [← hG1, upA_ne _ _ _ hj, ← hG0, upA_ne _ _ _ hj]
  have fG2 : ∀ j, j ≠ 6 → G1 98 j = G 98 j := fun j hj => by rw [← hG1, upA_same, upd_ne _ _ _ hj, ← hG0, upA_same, upd_ne _ _ _ hj]
  have hm0 : ∀ y : Nat × Nat, y ∈ [((0 : Nat), (0 : Nat))] ↔ (y = (0, 0) ∨ ∃ j l, j < 0 ∧ l < n j ∧ y = (ct (R j) l, l)) := fun y => by
    rw [List.mem_singleton]
    exact ⟨Or.inl, fun g => g.elim id (fun ⟨j, l, a, _⟩ => absurd a (Nat.not_lt_zero j))⟩
  obtain ⟨A2, G2, g1, g2, g3, g4, g5⟩ := s_lyWords (B := B) (N := N) f1 hN ht hP hpl t 0 N A1 G1 [(0, 0)] (by omega) (by omega) (by rw [fG1 13 (by omega)]; exact hT) (by rw [a2 15 (by omega)]; exact hW) hX hm0 (List.pairwise_singleton _ _) rfl hE
  refine ⟨A2, G2, ?_, fun j hj => (g2 j hj).trans (a2 j hj), fun j hj => (g3 j hj).trans (fG1 j hj), fun j hj => (g4 j hj).trans (fG2 j hj), g5⟩
  unfold f_X5_layPlaces
  rw [px_98_6 f1, sb, ck_98 f1, sb, hG0, a1, b2s, show (0 : Int32) = nI 0 from rfl, g1]
end Ly
