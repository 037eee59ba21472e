/-! the reference's findTurn -/
def eN (L : List Ent) (k : Nat) : Ent := L.getD k (0, 0, 0)
theorem eN_get {L : List Ent} {k : Nat} (h : k < L.length) : L[k]? = some (eN L k) := by
  unfold eN
  rw [List.getD_eq_getElem?_getD, List.getElem?_eq_getElem h]; rfl
def ibI (L : List Ent) (x : Nat) : List Nat → List Nat → List Nat
  | [], suf => x :: suf
  | y :: rp, suf => if ky (eN L x) < ky (eN L y) then ibI L x rp (y :: suf) else (y :: rp).reverse ++ x :: suf
theorem ibI_map (L : List Ent) (x : Nat) : ∀ (rp suf : List Nat), (ibI L x rp suf).map (eN L) = ib (eN L x) (rp.map (eN L)) (suf.map (eN L)) := by
  intro rp
  induction rp with
  | nil => intro suf; rfl
  | cons y rp ih =>
    intro suf
    rw [ibI, List.map_cons, ib]
    by_cases h : ky (eN L x) < ky (eN L y)
    · rw [if_pos h, if_pos h, ih]; rfl
    · rw [if_neg h, if_neg h, List.map_append, List.map_reverse]; rfl
theorem ibI_mem {L : List Ent} {x z : Nat} : ∀ (rp suf : List Nat), z ∈ ibI L x rp suf → z = x ∨ z ∈ rp ∨ z ∈ suf := by
  intro rp
  induction rp with
  | nil => intro suf h; rcases List.mem_cons.mp h with h | h; exact Or.inl h; exact Or.inr (Or.inr h)
  | cons y rp ih =>
    intro suf h
    rw [ibI] at h
    by_cases hk : ky (eN L x) < ky (eN L y)
    · rw [if_pos hk] at h
      rcases ih (y :: suf) h with h | h | h
      · exact Or.inl h
      · exact Or.inr (Or.inl (List.mem_cons_of_mem _ h))
      · rcases List.mem_cons.mp h with h | h
        · exact Or.inr (Or.inl (by rw [h]; exact List.mem_cons_self))
        · exact Or.inr (Or.inr h)
    · rw [if_neg hk] at h
      rcases List.mem_append.mp h with h | h
      · exact Or.inr (Or.inl (List.mem_reverse.mp h))
      · rcases List.mem_cons.mp h with h | h
        · exact Or.inl h
        · exact Or.inr (Or.inr h)
theorem ibI_len (L : List Ent) (x : Nat) : ∀ (rp suf : List Nat), (ibI L x rp suf).length = rp.length + suf.length + 1 := by
  intro rp
  induction rp with
  | nil => intro suf; show suf.length + 1 = 0 + suf.length + 1; omega
  | cons y rp ih =>
    intro suf
    rw [ibI]
    by_cases h : ky (eN L x) < ky (eN L y)
    · rw [if_pos h, ih]; show rp.length + (suf.length + 1) + 1 = rp.length + 1 + suf.length + 1; omega
    · rw [if_neg h, List.length_append, List.length_reverse]; show rp.length + 1 + (suf.length + 1) = rp.length + 1 + suf.length + 1; omega
section Ft
variable {fl : Nat → Bool} {N : Nat} {B : Nat → Nat → Int64} {L : List Ent}
theorem s_ahead {a b n m : Nat} {M : A_M} (ha : a < 4 ^ 24) (hb : b < 4 ^ 24) (hn : n ≤ 24) (hm : m ≤ 24) : f_X7_isAhead N (lN a) (nI n) (lN b) (nI m) M = some (bz (a < b ∨ (a = b ∧ n < m)), M) := by
  have r1 := r48 ha
  have r2 := r48 hb
  unfold f_X7_isAhead
  by_cases h1 : a < b
  · rw [if_pos ((lg_lt (by omega) (by omega)).mpr h1), show bz (a < b ∨ (a = b ∧ n < m)) = 1 from if_pos (Or.inl h1)]
  · rw [if_neg (fun q => h1 ((lg_lt (by omega) (by omega)).mp q))]
    by_cases h2 : a = b
    · rw [if_pos ((lg_eq (by omega) (by omega)).mpr h2)]
      by_cases h3 : n < m
      · rw [if_neg (nI_ge h3 (by omega)), show bz (a < b ∨ (a = b ∧ n < m)) = 1 from if_pos (Or.inr ⟨h2, h3⟩)]
      · rw [if_pos (nI_le (by omega) (by omega)), show bz (a < b ∨ (a = b ∧ n < m)) = 0 from bz0 (by omega)]
    · rw [if_neg (fun q => h2 ((lg_eq (by omega) (by omega)).mp q)), show bz (a < b ∨ (a = b ∧ n < m)) = 0 from bz0 (by omega)]
theorem s_ft30 {G : Nat → Nat → Int32} (hL : L.length ≤ 400) (hE : ∀ x, x ∈ L → EnS x) (k7 : Nat → Int32 → Int32 → A_M → Option A_M) {p x : Nat} (hx : x < L.length) : ∀ (rp suf : List Nat) (m : Nat) (A : Nat → Nat → Int32), rp.length < m → rp.length + suf.length < 400 → (∀ y, y ∈ rp → y < L.length ∧ (eN L y).2.2 = (eN L x).2.2 ∧ (eN L y).1 ≠ (eN L x).1) → G 44 23 = nI (rp.length + suf.length) → OpM A B G L → (∀ k y, rp.reverse[k]? = some y → A 58 k = nI y) → (∀ k y, suf[k]? = some y → A 58 (rp.length + 1 + k) = nI y) →
    ∃ A', f_X7_findTurn_L30 N k7 m 44 (nI p) (nI x) (nI rp.length) (mem A B G fl) = k7 44 (nI p) (nI (x + 1)) (mem A' B (upA G 44 (upd (G 44) 23 (nI (rp.length + suf.length + 1)))) fl) ∧ (∀ k, k ≠ 58 → A' k = A k) ∧ (∀ k y, (ibI L x rp suf)[k]? = some y → A' 58 k = nI y) := by
  have hex := hE _ (List.mem_of_getElem? (eN_get hx))
  intro rp
  have put : ∀ (i : Nat) (A : Nat → Nat → Int32) (c : Nat), i < 400 → G 44 23 = nI c → f_X7_findTurn_K98 N k7 44 (nI p) (nI x) (nI i) (mem A B G fl) = k7 44 (nI p) (nI (x + 1)) (mem (upA A 58 (upd (A 58) i (nI x))) B (upA G 44 (upd (G 44) 23 (nI (c + 1)))) fl) := by
    intro i A c hi hc
    unfold f_X7_findTurn_K98 f_X7_findTurn_K115
    rw [gx_44_22, sb, stI_n (ly58 fl) hi (by decide), sb, gx_44_23, sb, hc, nI_1, px_44_23, sb, nI_1]
  induction rp with
  | nil =>
    intro suf m A hm h4 hr hG hM hR hS
    have h0 : ([] : List Nat).length = 0 := rfl
    obtain ⟨m, rfl⟩ : ∃ j, m = j + 1 := ⟨m - 1, by omega⟩
    refine ⟨upA A 58 (upd (A 58) 0 (nI x)), ?_, fun k hk => upA_ne _ _ _ hk, fun k y hy => ?_⟩
    · show f_X7_findTurn_L30 N k7 (m + 1) 44 (nI p) (nI x) (nI 0) (mem A B G fl) = _
      rw [f_X7_findTurn_L30, if_pos (show nI 0 ≤ 0 by decide)]
      exact put 0 A _ (by omega) hG
    · rw [upA_same]
      cases k with
      | zero => obtain rfl := Option.some.inj hy; exact upd_eq _ _ _
      | succ k =>
        have hy : suf[k]? = some y := hy
        rw [upd_ne _ _ _ (by omega)]
        have := hS k y hy
        rw [h0, show 0 + 1 + k = k + 1 by omega] at this
        exact this
  | cons y rp ih =>
    intro suf m A hm h4 hr hG hM hR hS
    have hc : (y :: rp).length = rp.length + 1 := rfl
    rw [hc] at hm h4 hG hS
    obtain ⟨m, rfl⟩ : ∃ j, m = j + 1 := ⟨m - 1, by omega⟩
    obtain ⟨y1, y2, y3⟩ := hr y List.mem_cons_self
    have hey := hE _ (List.mem_of_getElem? (eN_get y1))
    obtain ⟨x1, x2, x3⟩ := hM.2 x _ (eN_get hx)
    obtain ⟨z1, z2, z3⟩ := hM.2 y _ (eN_get y1)
    have h58 : A 58 rp.length = nI y := hR rp.length y (by
      rw [List.reverse_cons, List.getElem?_append_right (by rw [List.length_reverse]; exact Nat.le_refl _), List.length_reverse, Nat.sub_self]
      rfl)
    have hiff : ky (eN L x) < ky (eN L y) ↔ ((eN L x).1 < (eN L y).1 ∨ ((eN L x).1 = (eN L y).1 ∧ (eN L x).2.1 < (eN L y).2.1)) := by
      rw [ky_lt hex hey]
      constructor
      · rintro (h | ⟨_, h⟩)
        · omega
        · exact Or.inl h
      · rintro (h | ⟨h, _⟩)
        · exact Or.inr ⟨y2, h⟩
        · exact absurd h.symm y3
    have e0 : nI (rp.length + 1) - 1 = nI rp.length := by rw [show (1 : Int32) = nI 1 from rfl, pk_sub (by omega), show rp.length + 1 - 1 = rp.length by omega]
    rw [hc, ibI, f_X7_findTurn_L30, if_neg (nI_nle (by omega) (by omega)), gx_44_18, sb, ldJ_n (ly55 fl) (by omega) (by decide), sb, x1, gx_44_19, sb, ldI_n (ly56 fl) (by omega) (by decide), sb, x2, sb, gx_44_22, sb, e0, ldI_n (ly58 fl) (by omega) (by decide), sb, h58, ldJ_n (ly55 fl) (by omega) (by decide), sb, z1, sb, sb, ldI_n (ly58 fl) (by omega) (by decide), sb, h58, ldI_n (ly56 fl) (by omega) (by decide), sb, z2, s_ahead hex.1 hey.1 hex.2.1 hey.2.1, b2s]
    by_cases h : ky (eN L x) < ky (eN L y)
    · rw [if_neg (bz1 (hiff.mp h)), if_pos h]
      generalize hA1 : upA A 58 (upd (A 58) (rp.length + 1) (nI y)) = A1
      have a0 : ∀ k, k ≠ 58 → A1 k = A k := fun k hk => by rw [← hA1, upA_ne _ _ _ hk]
      have a58 : A1 58 = upd (A 58) (rp.length + 1) (nI y) := by rw [← hA1, upA_same]
      have hcs : (y :: suf).length = suf.length + 1 := rfl
      obtain ⟨A', g1, g2, g3⟩ := ih (y :: suf) m A1 (by omega) (by omega) (fun z hz => hr z (List.mem_cons_of_mem _ hz)) (by rw [hG, hcs]; congr 1; omega) ⟨hM.1, fun k z hz => by rw [a0 56 (by omega), a0 57 (by omega)]; exact hM.2 k z hz⟩ (fun k z hz => by
        have hkl : k < rp.length := by have := (List.getElem?_eq_some_iff.mp hz).1; rw [List.length_reverse] at this; exact this
        rw [a58, upd_ne _ _ _ (by omega)]
        refine hR k z ?_
        rw [List.reverse_cons, List.getElem?_append_left (by rw [List.length_reverse]; exact hkl)]
        exact hz) (fun k z hz => by
        rw [a58]
        cases k with
        | zero => obtain rfl := Option.some.inj hz; exact upd_eq _ _ _
        | succ k =>
          have hz : suf[k]? = some z := hz
          have := hS k z hz
          rw [upd_ne _ _ _ (by omega), show rp.length + 1 + (k + 1) = rp.length + 1 + 1 + k by omega]
          exact this)
      refine ⟨A', ?_, fun k hk => (g2 k hk).trans (a0 k hk), g3⟩
      rw [hcs, show rp.length + (suf.length + 1) + 1 = rp.length + 1 + suf.length + 1 by omega] at g1
      rw [gx_44_22, sb, sb, ldI_n (ly58 fl) (by omega) (by decide), sb, h58, stI_n (ly58 fl) (by omega) (by decide), sb, hA1, pk_m1, g1]
    · rw [if_pos (bz0 (fun q => h (hiff.mpr q))), if_neg h]
      refine ⟨upA A 58 (upd (A 58) (rp.length + 1) (nI x)), put (rp.length + 1) A _ (by omega) hG, fun k hk => upA_ne _ _ _ hk, fun k z hz => ?_⟩
      rw [upA_same]
      by_cases hk : k < rp.length + 1
      · rw [List.getElem?_append_left (by rw [List.length_reverse]; exact hk)] at hz
        rw [upd_ne _ _ _ (by omega)]
        exact hR k z hz
      · rw [List.getElem?_append_right (by rw [List.length_reverse]; show rp.length + 1 ≤ k; omega), List.length_reverse] at hz
        have hz : (x :: suf)[k - (rp.length + 1)]? = some z := hz
        cases hq : k - (rp.length + 1) with
        | zero =>
          rw [hq] at hz
          obtain rfl := Option.some.inj hz
          rw [show k = rp.length + 1 by omega, upd_eq]
        | succ q =>
          rw [hq] at hz
          have hz : suf[q]? = some z := hz
          have := hS q z hz
          rw [upd_ne _ _ _ (by omega), show k = rp.length + 1 + 1 + q by omega]
          exact this
/-- the turn so far -/
theorem s_ft7 (hL : L.length ≤ 400) (hE : ∀ x, x ∈ L → EnS x) (hD : ∀ a b, a < L.length → b < L.length → a ≠ b → (eN L a).1 ≠ (eN L b).1) (hN : 500 < N) {p : Nat} (hp : p ≤ 1000) : ∀ (d k m : Nat) (A : Nat → Nat → Int32) (G : Nat → Nat → Int32) (T : List Nat), k + d = L.length → d < m → T.length ≤ k → (∀ y, y ∈ T → y < k ∧ (eN L y).2.2 = p) → SrtK (T.map (eN L)) → (T.map (eN L)).Perm ((L.take k).filter (fun x => decide (x.2.2 = p))) → OpM A B G L → G 44 23 = nI T.length → (∀ j y, T[j]? = some y → A 58 j = nI y) →
    ∃ (A' G' : Nat → Nat → Int32) (T' : List Nat), f_X7_findTurn_L7 N m 44 (nI p) (nI k) (mem A B G fl) = some (mem A' B G' fl) ∧ (∀ j, j ≠ 58 → A' j = A j) ∧ (∀ j, j ≠ 44 → G' j = G j) ∧ (∀ j, j ≠ 23 → G' 44 j = G 44 j) ∧ G' 44 23 = nI T'.length ∧ (∀ j y, T'[j]? = some y → A' 58 j = nI y) ∧ (∀ y, y ∈ T' → y < L.length ∧ (eN L y).2.2 = p) ∧ SrtK (T'.map (eN L)) ∧ (T'.map (eN L)).Perm (L.filter (fun x => decide (x.2.2 = p))) := by
  intro d
  induction d with
  | zero =>
    intro k m A G T h hm hTl hT hS hP hM hG h58
    obtain ⟨m, rfl⟩ : ∃ j, m = j + 1 := ⟨m - 1, by omega⟩
    rw [List.take_of_length_le (by omega)] at hP
    refine ⟨A, G, T, ?_, fun _ _ => rfl, fun _ _ => rfl, fun _ _ => rfl, hG, h58, fun y hy => ⟨by have := (hT y hy).1; omega, (hT y hy).2⟩, hS, hP⟩
    rw [f_X7_findTurn_L7, gx_44_21, sb, hM.1, if_pos (nI_le (by omega) (by omega))]
  | succ d ih =>
    intro k m A G T h hm hTl hT hS hP hM hG h58
    obtain ⟨m, rfl⟩ : ∃ j, m = j + 1 := ⟨m - 1, by omega⟩
    have hkl : k < L.length := by omega
    have hk2 := eN_get hkl
    have hek := hE _ (List.mem_of_getElem? hk2)
    obtain ⟨x1, x2, x3⟩ := hM.2 k _ hk2
    have htk : L.take (k + 1) = L.take k ++ [eN L k] := by rw [List.take_succ, hk2]; rfl
    have hl3 := hek.2.2
    rw [f_X7_findTurn_L7, gx_44_21, sb, hM.1, if_neg (nI_ge (by omega) (by omega)), gx_44_20, sb, ldI_n (ly57 fl) (by omega) (by decide), sb, x3]
    by_cases hlv : (eN L k).2.2 = p
    · rw [if_pos (by rw [hlv]), gx_44_23, sb, hG]
      have hrev : T.reverse.length = T.length := List.length_reverse
      obtain ⟨A1, g1, g2, g3⟩ := s_ft30 (fl := fl) (N := N) (B := B) (p := p) (x := k) (G := G) hL hE (f_X7_findTurn_L7 N m) hkl T.reverse [] N A (by omega) (by show T.reverse.length + 0 < 400; omega) (fun y hy => by
        obtain ⟨q1, q2⟩ := hT y (List.mem_reverse.mp hy)
        exact ⟨by omega, by rw [q2, hlv], hD y k (by omega) hkl (by omega)⟩) (by rw [hrev]; exact hG) hM (by rw [List.reverse_reverse]; exact h58) (fun j y hy => (by cases hy))
      rw [hrev] at g1
      have g1 : f_X7_findTurn_L30 N (f_X7_findTurn_L7 N m) N 44 (nI p) (nI k) (nI T.length) (mem A B G fl) = f_X7_findTurn_L7 N m 44 (nI p) (nI (k + 1)) (mem A1 B (upA G 44 (upd (G 44) 23 (nI (T.length + 1)))) fl) := g1
      have hlen : (ibI L k T.reverse []).length = T.length + 1 := by rw [ibI_len, hrev]; rfl
      have hmap := ibI_map L k T.reverse []
      have hins : (ibI L k T.reverse []).map (eN L) = insS (eN L k) (T.map (eN L)) := by
        rw [hmap]
        unfold insS
        rw [List.map_reverse]
        rfl
      obtain ⟨A', G', T', c1', c2, c3, c4, c5⟩ := ih (k + 1) m A1 (upA G 44 (upd (G 44) 23 (nI (T.length + 1)))) (ibI L k T.reverse []) (by omega) (by omega) (by omega) (fun y hy => by
        rcases ibI_mem _ _ hy with rfl | hy | hy
        · exact ⟨by omega, hlv⟩
        · obtain ⟨q1, q2⟩ := hT y (List.mem_reverse.mp hy)
          exact ⟨by omega, q2⟩
        · cases hy) (by
        rw [hins]
        refine insS_sort hS (fun z hz hq => ?_)
        obtain ⟨y, hy, rfl⟩ := List.mem_map.mp hz
        obtain ⟨q1, q2⟩ := hT y hy
        have hne := hD y k (by omega) hkl (by omega)
        unfold ky at hq
        rw [q2, hlv] at hq
        omega) (by
        rw [hins, htk, List.filter_append, List.filter_cons_of_pos (by exact decide_eq_true hlv), List.filter_nil]
        exact (insS_perm _ _).trans ((List.Perm.cons _ hP).trans (List.perm_append_singleton _ _).symm)) ⟨by rw [upA_same, upd_ne _ _ _ (by omega)]; exact hM.1, fun j z hz => by rw [g2 56 (by omega), g2 57 (by omega)]; exact hM.2 j z hz⟩ (by rw [upA_same, upd_eq, hlen]) g3
      refine ⟨A', G', T', ?_, fun j hj => (c2 j hj).trans (g2 j hj), fun j hj => by rw [c3 j hj, upA_ne _ _ _ hj], fun j hj => by rw [c4 j hj, upA_same, upd_ne _ _ _ hj], c5⟩
      rw [g1, c1']
    · rw [if_neg (fun q => hlv ((nI_eq (by omega) (by omega)).mp q)), f_X7_findTurn_K115, nI_1]
      exact ih (k + 1) m A G T (by omega) (by omega) (by omega) (fun y hy => ⟨by have := (hT y hy).1; omega, (hT y hy).2⟩) hS (by
        rw [htk, List.filter_append, List.filter_cons_of_neg (by rw [decide_eq_false hlv]; decide), List.filter_nil, List.append_nil]
        exact hP) hM hG h58
theorem s_findTurn (hL : L.length ≤ 400) (hE : ∀ x, x ∈ L → EnS x) (hD : ∀ a b, a < L.length → b < L.length → a ≠ b → (eN L a).1 ≠ (eN L b).1) (hN : 500 < N) {p : Nat} (hp : p ≤ 1000) (A : Nat → Nat → Int32) (G : Nat → Nat → Int32) (hM : OpM A B G L) :
    ∃ (A' G' : Nat → Nat → Int32) (T : List Nat), f_X7_findTurn N 44 (nI p) (mem A B G fl) = some (mem A' B G' fl) ∧ (∀ j, j ≠ 58 → A' j = A j) ∧ (∀ j, j ≠ 44 → G' j = G j) ∧ (∀ j, j ≠ 23 → G' 44 j = G 44 j) ∧ G' 44 23 = nI T.length ∧ (∀ j y, T[j]? = some y → A' 58 j = nI y) ∧ (∀ y, y ∈ T → y < L.length ∧ (eN L y).2.2 = p) ∧ SrtK (T.map (eN L)) ∧ (T.map (eN L)).Perm (L.filter (fun x => decide (x.2.2 = p))) := by
  generalize hG1 : upA G 44 (upd (G 44) 23 0) = G1
  obtain ⟨A', G', T, e1, e2, e3, e4, e5⟩ := s_ft7 (fl := fl) (N := N) (B := B) hL hE hD hN hp L.length 0 N A G1 [] (by omega) (by omega) (Nat.zero_le _) (fun y hy => (by cases hy)) List.Pairwise.nil (List.Perm.refl _) ⟨by rw [← hG1, upA_same, upd_ne _ _ _ (by omega)]; exact hM.1, hM.2⟩ (by rw [← hG1, upA_same, upd_eq]; rfl) (fun j y hy => (by cases hy))
  refine ⟨A', G', T, ?_, e2, fun j hj => by rw [e3 j hj, ← hG1, upA_ne _ _ _ hj], fun j hj => by rw [e4 j hj, ← hG1, upA_same, upd_ne _ _ _ hj], e5⟩
  unfold f_X7_findTurn
  rw [px_44_23, sb, hG1, show (0 : Int32) = nI 0 from rfl, e1]
end Ft
