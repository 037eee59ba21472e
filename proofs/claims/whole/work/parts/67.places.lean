/-! the PLACES of a free code: the list that both sides make, in the order of the words -/
def pI : Option Nat → Int32
  | none => -1
  | some j => nI j
/-- where x stands in a list that begins at k -/
def ix (x : Nat × Nat) : List (Nat × Nat) → Nat → Option Nat
  | [], _ => none
  | y :: L, k => if y = x then some k else ix x L (k + 1)
def vis (L : List (Nat × Nat)) (x : Nat × Nat) : List (Nat × Nat) := if x ∈ L then L else L ++ [x]
def vw (R : Nat) : Nat → Nat → List (Nat × Nat) → List (Nat × Nat)
  | 0, _, L => L
  | d + 1, k, L => vw R d (k + 1) (vis L (ct R k, k))
def vp (R n : Nat → Nat) : Nat → Nat → List (Nat × Nat) → List (Nat × Nat)
  | 0, _, L => L
  | d + 1, i, L => vp R n d (i + 1) (vw (R i) (n i) 0 L)
theorem ix_none {x : Nat × Nat} : ∀ (L : List (Nat × Nat)) (k : Nat), ix x L k = none ↔ x ∉ L := by
  intro L
  induction L with
  | nil => intro k; exact ⟨fun _ h => (by cases h), fun _ => rfl⟩
  | cons y L ih =>
    intro k
    show (if y = x then some k else ix x L (k + 1)) = none ↔ _
    by_cases h : y = x
    · rw [if_pos h]
      exact ⟨fun e => (by cases e), fun e => absurd (by rw [← h]; exact List.mem_cons_self) e⟩
    · rw [if_neg h, ih]
      constructor
      · intro e m
        rcases List.mem_cons.mp m with m | m
        · exact h m.symm
        · exact e m
      · intro e m
        exact e (List.mem_cons_of_mem _ m)
theorem ix_some {x : Nat × Nat} : ∀ (L : List (Nat × Nat)) (k j : Nat), ix x L k = some j → k ≤ j ∧ L[j - k]? = some x := by
  intro L
  induction L with
  | nil => intro k j h; cases h
  | cons y L ih =>
    intro k j h
    have h : (if y = x then some k else ix x L (k + 1)) = some j := h
    by_cases e : y = x
    · rw [if_pos e] at h
      obtain rfl := Option.some.inj h
      exact ⟨Nat.le_refl _, by rw [Nat.sub_self, e]; rfl⟩
    · rw [if_neg e] at h
      obtain ⟨h1, h2⟩ := ih (k + 1) j h
      refine ⟨by omega, ?_⟩
      rw [show j - k = (j - (k + 1)) + 1 by omega]
      exact h2
theorem ix_app {x : Nat × Nat} (y : Nat × Nat) : ∀ (L : List (Nat × Nat)) (k : Nat), ix x (L ++ [y]) k = match ix x L k with
    | some j => some j
    | none => if y = x then some (k + L.length) else none := by
  intro L
  induction L with
  | nil => intro k; rfl
  | cons z L ih =>
    intro k
    show (if z = x then some k else ix x (L ++ [y]) (k + 1)) = match (if z = x then some k else ix x L (k + 1)) with
      | some j => some j
      | none => if y = x then some (k + (L.length + 1)) else none
    by_cases e : z = x
    · rw [if_pos e, if_pos e]
    · rw [if_neg e, if_neg e, ih, show k + 1 + L.length = k + (L.length + 1) by omega]
theorem vis_mem {L : List (Nat × Nat)} {x y : Nat × Nat} : y ∈ vis L x ↔ y ∈ L ∨ y = x := by
  unfold vis
  split
  · rename_i h
    exact ⟨Or.inl, fun e => e.elim id (fun e => e ▸ h)⟩
  · rw [List.mem_append, List.mem_singleton]
theorem vw_mem {R : Nat} {y : Nat × Nat} : ∀ (d k : Nat) (L : List (Nat × Nat)), y ∈ vw R d k L ↔ y ∈ L ∨ ∃ j, k ≤ j ∧ j < k + d ∧ y = (ct R j, j) := by
  intro d
  induction d with
  | zero =>
    intro k L
    exact ⟨Or.inl, fun e => e.elim id (fun ⟨j, h1, h2, _⟩ => by omega)⟩
  | succ d ih =>
    intro k L
    show y ∈ vw R d (k + 1) (vis L (ct R k, k)) ↔ _
    rw [ih, vis_mem]
    constructor
    · rintro ((h | h) | ⟨j, h1, h2, h3⟩)
      · exact Or.inl h
      · exact Or.inr ⟨k, Nat.le_refl _, by omega, h⟩
      · exact Or.inr ⟨j, by omega, by omega, h3⟩
    · rintro (h | ⟨j, h1, h2, h3⟩)
      · exact Or.inl (Or.inl h)
      · by_cases e : j = k
        · exact Or.inl (Or.inr (by rw [h3, e]))
        · exact Or.inr ⟨j, by omega, by omega, h3⟩
theorem vp_mem {R n : Nat → Nat} {y : Nat × Nat} : ∀ (d i : Nat) (L : List (Nat × Nat)), y ∈ vp R n d i L ↔ y ∈ L ∨ ∃ j k, i ≤ j ∧ j < i + d ∧ k < n j ∧ y = (ct (R j) k, k) := by
  intro d
  induction d with
  | zero =>
    intro i L
    exact ⟨Or.inl, fun e => e.elim id (fun ⟨j, _, h1, h2, _⟩ => by omega)⟩
  | succ d ih =>
    intro i L
    show y ∈ vp R n d (i + 1) (vw (R i) (n i) 0 L) ↔ _
    rw [ih, vw_mem]
    constructor
    · rintro ((h | ⟨k, h1, h2, h3⟩) | ⟨j, k, h1, h2, h3, h4⟩)
      · exact Or.inl h
      · exact Or.inr ⟨i, k, Nat.le_refl _, by omega, by omega, h3⟩
      · exact Or.inr ⟨j, k, by omega, by omega, h3, h4⟩
    · rintro (h | ⟨j, k, h1, h2, h3, h4⟩)
      · exact Or.inl (Or.inl h)
      · by_cases e : j = i
        · subst e
          exact Or.inl (Or.inr ⟨k, by omega, by omega, h4⟩)
        · exact Or.inr ⟨j, k, by omega, by omega, h3, h4⟩
theorem vw_len {R : Nat} : ∀ (d k : Nat) (L : List (Nat × Nat)), (vw R d k L).length ≤ L.length + d := by
  intro d
  induction d with
  | zero => intro k L; exact Nat.le_refl _
  | succ d ih =>
    intro k L
    have := ih (k + 1) (vis L (ct R k, k))
    have h2 : (vis L (ct R k, k)).length ≤ L.length + 1 := by
      unfold vis
      split
      · omega
      · rw [List.length_append]; exact Nat.le_refl _
    show (vw R d (k + 1) (vis L (ct R k, k))).length ≤ _
    omega
theorem ct_0 {R : Nat} (h : R < 4 ^ 24) : ct R 0 = 0 := by
  unfold ct
  rw [Nat.div_eq_of_lt h, Nat.zero_mul]
/-- a word brings 23 at the most, once the root is there -/
theorem vw_len0 {R m : Nat} {L : List (Nat × Nat)} (hR : R < 4 ^ 24) (hm : 0 < m) (h : (0, 0) ∈ L) : (vw R m 0 L).length ≤ L.length + (m - 1) := by
  obtain ⟨m, rfl⟩ : ∃ j, m = j + 1 := ⟨m - 1, by omega⟩
  show (vw R m 1 (vis L (ct R 0, 0))).length ≤ _
  unfold vis
  rw [ct_0 hR, if_pos h]
  exact vw_len m 1 L
theorem vp_len {R n : Nat → Nat} {t : Nat} (hR : ∀ i, i < t → R i < 4 ^ 24 ∧ n i ≤ 24 ∧ 0 < n i) : ∀ (d i : Nat) (L : List (Nat × Nat)), i + d ≤ t → (0, 0) ∈ L → (vp R n d i L).length ≤ L.length + 23 * d := by
  intro d
  induction d with
  | zero => intro i L _ _; exact Nat.le_refl _
  | succ d ih =>
    intro i L h h0
    obtain ⟨r1, r2, r3⟩ := hR i (by omega)
    have h1 := vw_len0 r1 r3 h0
    have h2 := ih (i + 1) (vw (R i) (n i) 0 L) (by omega) ((vw_mem _ _ _).mpr (Or.inl h0))
    show (vp R n d (i + 1) (vw (R i) (n i) 0 L)).length ≤ _
    omega
/-- the places -/
def PLS (R n : Nat → Nat) (t : Nat) : List (Nat × Nat) := vp R n t 0 []
theorem pls_len {R n : Nat → Nat} {t : Nat} (ht : t ≤ 24) (hR : ∀ i, i < t → R i < 4 ^ 24 ∧ n i ≤ 24 ∧ 0 < n i) : (PLS R n t).length ≤ 553 := by
  unfold PLS
  cases t with
  | zero => exact Nat.zero_le _
  | succ t =>
    obtain ⟨r1, r2, r3⟩ := hR 0 (by omega)
    show (vp R n t 1 (vw (R 0) (n 0) 0 [])).length ≤ _
    have h0 : (0, 0) ∈ vw (R 0) (n 0) 0 [] := (vw_mem _ _ _).mpr (Or.inr ⟨0, Nat.le_refl _, by omega, by rw [ct_0 r1]⟩)
    have h1 := vw_len (R := R 0) (n 0) 0 []
    have h2 := vp_len hR t 1 _ (by omega) h0
    have h3 : ([] : List (Nat × Nat)).length = 0 := rfl
    omega
/-- no place twice -/
theorem vis_nd {L : List (Nat × Nat)} {x : Nat × Nat} (h : L.Nodup) : (vis L x).Nodup := by
  unfold vis
  split
  · exact h
  · rename_i e
    rw [List.nodup_append]
    refine ⟨h, List.pairwise_singleton _ _, fun a ha b hb => ?_⟩
    rw [List.mem_singleton] at hb
    intro e2
    exact e (by rw [← hb, ← e2]; exact ha)
/-- the memory of the reference's list -/
def PlM (A : Nat → Nat → Int32) (B : Nat → Nat → Int64) (G : Nat → Nat → Int32) (L : List (Nat × Nat)) : Prop := G 44 40 = nI L.length ∧ ∀ k x, L[k]? = some x → B 68 k = lN x.1 ∧ A 69 k = nI x.2
/-- what findPlaces leaves alone -/
def FrP (A A' : Nat → Nat → Int32) (B B' : Nat → Nat → Int64) (G G' : Nat → Nat → Int32) : Prop := (∀ i, i ≠ 69 → i ≠ 70 → A' i = A i) ∧ (∀ i, i ≠ 68 → B' i = B i) ∧ (∀ i, i ≠ 44 → G' i = G i) ∧ (∀ j, j ≠ 40 → G' 44 j = G 44 j)
theorem FrP.refl (A : Nat → Nat → Int32) (B : Nat → Nat → Int64) (G : Nat → Nat → Int32) : FrP A A B B G G := ⟨fun _ _ _ => rfl, fun _ _ => rfl, fun _ _ => rfl, fun _ _ => rfl⟩
theorem FrP.trans {A A' A2 : Nat → Nat → Int32} {B B' B2 : Nat → Nat → Int64} {G G' G2 : Nat → Nat → Int32} (h : FrP A A' B B' G G') (k : FrP A' A2 B' B2 G' G2) : FrP A A2 B B2 G G2 := ⟨fun i a b => (k.1 i a b).trans (h.1 i a b), fun i a => (k.2.1 i a).trans (h.2.1 i a), fun i a => (k.2.2.1 i a).trans (h.2.2.1 i a), fun i a => (k.2.2.2 i a).trans (h.2.2.2 i a)⟩
theorem Rv.frP {z : Nat} {A A' : Nat → Nat → Int32} {B B' : Nat → Nat → Int64} {G G' : Nat → Nat → Int32} {fl : Nat → Bool} (hR : Rv z A B G fl) (h : FrP A A' B B' G G') : Rv (z + 1) A' B' G' fl := by
  obtain ⟨s, t, h1, hc, h3, h4, h5, h6, h7, h8⟩ := hR
  obtain ⟨f1, f2, f3, f4⟩ := h
  refine ⟨s, t, h1.congr ?_ ?_ ?_ ?_ ?_ ?_ ?_ ?_, hc.congr ?_ ?_ ?_ ?_ ?_ ?_ ?_ ?_ ?_ ?_ ?_ ?_, h3.congr ?_ ?_ ?_ ?_, h4.congr ?_ ?_ ?_ ?_, h5.congr ?_ ?_ ?_ ?_, h6.congr (fun p hp => ?_) ?_ ?_ (fun p hp => ?_) ?_ (fun p hp => ?_), h7.congr ?_ ?_ ?_ ?_ ?_ ?_ ?_ ?_, h8.congr ?_ ?_⟩
  all_goals first | (rw [f3 _ (by omega)]; done) | (rw [f4 _ (by omega)]; done) | (rw [f1 _ (by omega) (by omega)]; done) | (rw [f2 _ (by omega)]; done)
theorem Ws.frP {s t : Nat} {A A' : Nat → Nat → Int32} {B B' : Nat → Nat → Int64} {G G' : Nat → Nat → Int32} {R n : Nat → Nat} (hW : Ws s t (B 47) (A 48) R n) (h : FrP A A' B B' G G') : Ws s t (B' 47) (A' 48) R n := by
  rw [h.1 48 (by omega) (by omega), h.2.1 47 (by omega)]
  exact hW
section Pm
variable {fl : Nat → Bool} {N s t : Nat} {R n : Nat → Nat}
/-- the search -/
theorem s_placeOf {A : Nat → Nat → Int32} {B : Nat → Nat → Int64} {G : Nat → Nat → Int32} {L : List (Nat × Nat)} (hM : PlM A B G L) (hL : L.length ≤ 600) (hb : ∀ x, x ∈ L → x.1 < 4 ^ 24 ∧ x.2 ≤ 24) {r l : Nat} (hr : r < 4 ^ 24) (hl : l ≤ 24) : ∀ (T : List (Nat × Nat)) (k m : Nat), L.drop k = T → k + T.length = L.length → T.length < m → f_X7_placeOf_L3 N m 44 (lN r) (nI l) (nI k) (mem A B G fl) = some (pI (ix (r, l) T k), mem A B G fl) := by
  intro T
  induction T with
  | nil =>
    intro k m hT hk hm
    have : ([] : List (Nat × Nat)).length = 0 := rfl
    obtain ⟨m, rfl⟩ : ∃ j, m = j + 1 := ⟨m - 1, by omega⟩
    rw [f_X7_placeOf_L3, gx_44_40, sb, hM.1, if_pos (nI_le (by omega) (by omega))]
    rfl
  | cons x T ih =>
    intro k m hT hk hm
    obtain ⟨m, rfl⟩ : ∃ j, m = j + 1 := ⟨m - 1, by omega⟩
    have hc : (x :: T).length = T.length + 1 := rfl
    have hkl : k < L.length := by omega
    rw [List.drop_eq_getElem_cons hkl] at hT
    obtain ⟨hx, hT⟩ := List.cons.inj hT
    have hx2 : L[k]? = some x := by rw [List.getElem?_eq_getElem hkl, hx]
    obtain ⟨m1, m2⟩ := hM.2 k x hx2
    have hb2 := hb x (by rw [← hx]; exact List.getElem_mem hkl)
    have r1 := r48 hr
    have r2 := r48 hb2.1
    have go : f_X7_placeOf_K38 N (f_X7_placeOf_L3 N m) 44 (lN r) (nI l) (nI k) (mem A B G fl) = some (pI (ix (r, l) T (k + 1)), mem A B G fl) := by
      unfold f_X7_placeOf_K38
      rw [nI_1, ih (k + 1) m hT (by omega) (by omega)]
    rw [f_X7_placeOf_L3, gx_44_40, sb, hM.1, if_neg (nI_ge (by omega) (by omega)), gx_44_38, sb, ldJ_n (ly68 fl) (by omega) (by decide), sb, m1]
    show _ = some (pI (if x = (r, l) then some k else ix (r, l) T (k + 1)), _)
    by_cases e1 : x.1 = r
    · rw [if_pos ((lg_eq (by omega) (by omega)).mpr e1), gx_44_39, sb, ldI_n (ly69 fl) (by omega) (by decide), sb, m2]
      by_cases e2 : x.2 = l
      · rw [if_pos (by rw [e2]), if_pos (show x = (r, l) from Prod.ext e1 e2)]
        rfl
      · rw [if_neg (fun e => e2 ((nI_eq (by omega) (by omega)).mp e)), if_neg (fun e => e2 (by rw [e])), go]
    · rw [if_neg (fun e => e1 ((lg_eq (by omega) (by omega)).mp e)), if_neg (fun e => e1 (by rw [e])), go]
theorem s_placeOf0 {A : Nat → Nat → Int32} {B : Nat → Nat → Int64} {G : Nat → Nat → Int32} {L : List (Nat × Nat)} (hM : PlM A B G L) (hL : L.length ≤ 600) (hN : 600 < N) (hb : ∀ x, x ∈ L → x.1 < 4 ^ 24 ∧ x.2 ≤ 24) {r l : Nat} (hr : r < 4 ^ 24) (hl : l ≤ 24) : f_X7_placeOf N 44 (lN r) (nI l) (mem A B G fl) = some (pI (ix (r, l) L 0), mem A B G fl) := by
  unfold f_X7_placeOf
  rw [show (0 : Int32) = nI 0 from rfl]
  exact s_placeOf hM hL hb hr hl L 0 N (List.drop_zero ..) (by omega) (by omega)
theorem pI_neg {o : Option Nat} (h : ∀ j, o = some j → j < 2 ^ 31) : 0 ≤ pI o ↔ o ≠ none := by
  cases o with
  | none => exact ⟨fun h => absurd h (by decide), fun h => absurd rfl h⟩
  | some j => exact ⟨fun _ e => (by cases e), fun _ => nI_le (a := 0) (Nat.zero_le _) (h j rfl)⟩
theorem ct_lt {R k : Nat} (h : R < 4 ^ 24) : ct R k < 4 ^ 24 := Nat.lt_of_le_of_lt (ct_le R k) h
/-- what all lists of places have -/
def GdL (L : List (Nat × Nat)) : Prop := ∀ x, x ∈ L → x.1 < 4 ^ 24 ∧ x.2 ≤ 23 ∧ rz x.1 x.2
theorem GdL.vis {L : List (Nat × Nat)} (h : GdL L) {R k : Nat} (hR : R < 4 ^ 24) (hk : k ≤ 23) : GdL (vis L (ct R k, k)) := by
  intro x hx
  rcases vis_mem.mp hx with hx | hx
  · exact h x hx
  · subst hx; exact ⟨ct_lt hR, hk, ct_rz R k⟩
/-- one word -/
theorem s_fpWord (hN : 600 < N) (k7 : Nat → Int32 → A_M → Option A_M) {i : Nat} (hi : i < t) (ht : t ≤ 24) : ∀ (d k m : Nat) (A : Nat → Nat → Int32) (B : Nat → Nat → Int64) (G : Nat → Nat → Int32) (L : List (Nat × Nat)), k + d = n i → d < m → Ws s t (B 47) (A 48) R n → PlM A B G L → GdL L → L.length + d ≤ 600 →
    ∃ A' B' G', f_X7_findPlaces_L17 N k7 m 44 (nI i) (nI k) (mem A B G fl) = k7 44 (nI (i + 1)) (mem A' B' G' fl) ∧ FrP A A' B B' G G' ∧ PlM A' B' G' (vw (R i) d k L) ∧ GdL (vw (R i) d k L) ∧ (vw (R i) d k L).length ≤ L.length + d := by
  intro d
  induction d with
  | zero =>
    intro k m A B G L h hm hW hM hG hL
    obtain ⟨m, rfl⟩ : ∃ j, m = j + 1 := ⟨m - 1, by omega⟩
    obtain ⟨w1, w2, w3, w4, w5, w6⟩ := hW i hi
    refine ⟨A, B, G, ?_, FrP.refl A B G, hM, hG, Nat.le_refl _⟩
    rw [f_X7_findPlaces_L17, gx_44_8, sb, ldI_n (ly48 fl) (by omega) (by decide), sb, w2, if_pos (nI_le (by omega) (by omega)), f_X7_findPlaces_K83, nI_1]
  | succ d ih =>
    intro k m A B G L h hm hW hM hG hL
    obtain ⟨m, rfl⟩ : ∃ j, m = j + 1 := ⟨m - 1, by omega⟩
    obtain ⟨w1, w2, w3, w4, w5, w6⟩ := hW i hi
    have ho := s_placeOf0 (fl := fl) hM (by omega) hN (fun x hx => ⟨(hG x hx).1, by have := (hG x hx).2.1; omega⟩) (ct_lt (k := k) w3) (show k ≤ 24 by omega)
    rw [f_X7_findPlaces_L17, gx_44_8, sb, ldI_n (ly48 fl) (by omega) (by decide), sb, w2, if_neg (nI_ge (by omega) (by omega)), gx_44_7, sb, ldJ_n (ly47 fl) (by omega) (by decide), sb, w1, s_cut w3 (by omega), b2s, ck_44, sb, ho, b2s]
    have hj : ∀ j, ix (ct (R i) k, k) L 0 = some j → j < 2 ^ 31 := by
      intro j hj
      obtain ⟨-, h2⟩ := ix_some L 0 j hj
      have := (List.getElem?_eq_some_iff.mp h2).1
      omega
    by_cases hx : (ct (R i) k, k) ∈ L
    · have h1 : ix (ct (R i) k, k) L 0 ≠ none := fun e => (ix_none L 0).mp e hx
      rw [if_pos ((pI_neg hj).mpr h1), f_X7_findPlaces_K77, nI_1]
      have hv : vis L (ct (R i) k, k) = L := if_pos hx
      obtain ⟨A', B', G', e1, e2, e3, e4, e5⟩ := ih (k + 1) m A B G L (by omega) (by omega) hW hM hG (by omega)
      refine ⟨A', B', G', e1, e2, ?_, ?_, ?_⟩
      · show PlM A' B' G' (vw (R i) d (k + 1) (vis L (ct (R i) k, k)))
        rw [hv]; exact e3
      · show GdL (vw (R i) d (k + 1) (vis L (ct (R i) k, k)))
        rw [hv]; exact e4
      · show (vw (R i) d (k + 1) (vis L (ct (R i) k, k))).length ≤ _
        rw [hv]; omega
    · have h1 : ix (ct (R i) k, k) L 0 = none := (ix_none L 0).mpr hx
      rw [if_neg (fun e => (pI_neg hj).mp e h1), gx_44_38, sb, gx_44_40, sb, hM.1, stJ_n (ly68 fl) (by omega) (by decide), sb, gx_44_39, sb, gx_44_40, sb, hM.1, stI_n (ly69 fl) (by omega) (by decide), sb, gx_44_40, sb, px_44_40, sb, hM.1, f_X7_findPlaces_K77, nI_1, nI_1]
      have hv : vis L (ct (R i) k, k) = L ++ [(ct (R i) k, k)] := if_neg hx
      have hl1 : (L ++ [(ct (R i) k, k)]).length = L.length + 1 := List.length_append
      generalize hA1 : upA A 69 (upd (A 69) L.length (nI k)) = A1
      generalize hB1 : upA B 68 (vp_updL (B 68) L.length (lN (ct (R i) k))) = B1
      generalize hG1 : upA G 44 (upd (G 44) 40 (nI (L.length + 1))) = G1
      have fr : FrP A A1 B B1 G G1 := by
        subst hA1 hB1 hG1
        exact ⟨fun i a b => upA_ne _ _ _ a, fun i a => upA_ne _ _ _ a, fun i a => upA_ne _ _ _ a, fun j a => by rw [upA_same, upd_ne _ _ _ a]⟩
      have pm : PlM A1 B1 G1 (L ++ [(ct (R i) k, k)]) := by
        subst hA1 hB1 hG1
        refine ⟨by rw [upA_same, upd_eq, hl1], fun j x hx => ?_⟩
        rw [upA_same, upA_same]
        by_cases e : j = L.length
        · subst e
          rw [List.getElem?_append_right (Nat.le_refl _), Nat.sub_self] at hx
          obtain rfl := Option.some.inj hx
          rw [vpL_eq, upd_eq]
          exact ⟨rfl, rfl⟩
        · rw [vpL_ne _ _ _ e, upd_ne _ _ _ e]
          have hj2 : j < (L ++ [(ct (R i) k, k)]).length := (List.getElem?_eq_some_iff.mp hx).1
          rw [List.getElem?_append_left (by omega)] at hx
          exact hM.2 j x hx
      obtain ⟨A', B', G', e1, e2, e3, e4, e5⟩ := ih (k + 1) m A1 B1 G1 _ (by omega) (by omega) (hW.frP fr) pm (hv ▸ hG.vis w3 (by omega)) (by omega)
      refine ⟨A', B', G', e1, fr.trans e2, ?_, ?_, ?_⟩
      · show PlM A' B' G' (vw (R i) d (k + 1) (vis L (ct (R i) k, k)))
        rw [hv]; exact e3
      · show GdL (vw (R i) d (k + 1) (vis L (ct (R i) k, k)))
        rw [hv]; exact e4
      · show (vw (R i) d (k + 1) (vis L (ct (R i) k, k))).length ≤ _
        rw [hv]; omega
/-- all words -/
theorem s_fpWords (hN : 600 < N) (ht : t ≤ 24) : ∀ (d i m : Nat) (A : Nat → Nat → Int32) (B : Nat → Nat → Int64) (G : Nat → Nat → Int32) (L : List (Nat × Nat)), i + d = t → d < m → G 44 3 = nI t → Ws s t (B 47) (A 48) R n → PlM A B G L → GdL L → L.length ≤ 24 * i →
    ∃ A' B' G', f_X7_findPlaces_L7 N m 44 (nI i) (mem A B G fl) = f_X7_findPlaces_L91 N N 44 (nI 0) (mem A' B' G' fl) ∧ FrP A A' B B' G G' ∧ PlM A' B' G' (vp R n d i L) ∧ GdL (vp R n d i L) := by
  intro d
  induction d with
  | zero =>
    intro i m A B G L h hm hT hW hM hG hL
    obtain ⟨m, rfl⟩ : ∃ j, m = j + 1 := ⟨m - 1, by omega⟩
    refine ⟨A, B, G, ?_, FrP.refl A B G, hM, hG⟩
    rw [f_X7_findPlaces_L7, gx_44_3, sb, hT, if_pos (nI_le (by omega) (by omega)), f_X7_findPlaces_K89]
    rfl
  | succ d ih =>
    intro i m A B G L h hm hT hW hM hG hL
    obtain ⟨m, rfl⟩ : ∃ j, m = j + 1 := ⟨m - 1, by omega⟩
    have w4 := (hW i (by omega)).2.2.2.1
    obtain ⟨A1, B1, G1, e1, e2, e3, e4, e5⟩ := s_fpWord (fl := fl) hN (f_X7_findPlaces_L7 N m) (show i < t by omega) ht (n i) 0 N A B G L (by omega) (by omega) hW hM hG (by omega)
    obtain ⟨A2, B2, G2, g1, g2, g3, g4⟩ := ih (i + 1) m A1 B1 G1 _ (by omega) (by omega) (by rw [e2.2.2.2 3 (by omega)]; exact hT) (hW.frP e2) e3 e4 (by omega)
    refine ⟨A2, B2, G2, ?_, e2.trans g2, g3, g4⟩
    rw [f_X7_findPlaces_L7, gx_44_3, sb, hT, if_neg (nI_ge (by omega) (by omega)), show (0 : Int32) = nI 0 from rfl, e1, g1]
end Pm
