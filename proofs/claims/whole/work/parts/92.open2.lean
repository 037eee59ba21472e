/-! OPEN ROWS: begun, looked at, dropped -/
section Oq
variable {fl : Nat → Bool} {N o f : Nat}
theorem s_start (hp : opL fl o) (hN : 200 < N) (A : Nat → Nat → Int32) (B : Nat → Nat → Int64) (G : Nat → Nat → Int32) :
    ∃ A' B' G', f_X3_start N o (mem A B G fl) = some (mem A' B' G' fl) ∧ FrP2 o A A' B B' G G' ∧ OpS A' B' G' o 0 [(0, 0, 0)] := by
  generalize hG1 : upA (upA G o (upd (G o) 3 0)) o (upd (upd (G o) 3 0) 4 0) = G1
  have g3 : G1 o 3 = nI 0 := by rw [← hG1, upA_same, upd_ne _ _ _ (by omega), upd_eq]; rfl
  have g4 : G1 o 4 = nI (0 + ([] : List Ent).length) := by rw [← hG1, upA_same, upd_eq]; rfl
  obtain ⟨A', B', G', e1, e2, e3⟩ := s_insert (fl := fl) (N := N) (f := 0) (x := (0, 0, 0)) (S := []) (A := A) (B := B) (G := G1) hp hN ⟨Nat.pow_pos (by decide), Nat.zero_le _, Nat.zero_le _⟩ (by decide) (fun y hy => (by cases hy)) ⟨g3, g4, fun k y hy => (by cases hy)⟩
  refine ⟨A', B', G', ?_, FrP2.trans ⟨fun _ _ _ => rfl, fun _ _ => rfl, fun k hk => by rw [← hG1, upA_ne _ _ _ hk, upA_ne _ _ _ hk]⟩ e2, e3⟩
  unfold f_X3_start
  rw [(op_p hp _).1, sb, (op_p hp _).2, sb, upA_same, hG1, (op_r hp).2.2.2.2.2, sb]
  rw [show f_X3_insert N o (0 : Int64) (0 : Int32) (0 : Int32) (mem A B G1 fl) = _ from e1, sb]
theorem s_first (hp : opL fl o) {A : Nat → Nat → Int32} {B : Nat → Nat → Int64} {G : Nat → Nat → Int32} {x : Ent} {S : List Ent} (h97 : f + S.length < 97) (hO : OpS A B G o f (x :: S)) : f_X3_isAny N o (mem A B G fl) = some (1, mem A B G fl) ∧ f_X3_firstRow N o (mem A B G fl) = some (lN x.1, mem A B G fl) ∧ f_X3_firstSize N o (mem A B G fl) = some (nI x.2.1, mem A B G fl) ∧ f_X3_firstLevel N o (mem A B G fl) = some (nI x.2.2, mem A B G fl) ∧ f_X3_dropFirst N o (mem A B G fl) = some (mem A B (upA G o (upd (G o) 3 (nI (f + 1)))) fl) ∧ OpS A B (upA G o (upd (G o) 3 (nI (f + 1)))) o (f + 1) S := by
  obtain ⟨h3, h4, h5⟩ := hO
  have hc := h5 0 x rfl
  rw [Nat.add_zero] at hc
  obtain ⟨c1, c2, c3⟩ := hc
  have hl : (x :: S).length = S.length + 1 := rfl
  unfold f_X3_isAny f_X3_firstRow f_X3_firstSize f_X3_firstLevel f_X3_dropFirst
  refine ⟨?_, ?_, ?_, ?_, ?_, ?_, ?_, fun k y hy => ?_⟩
  · rw [(op_r hp).2.2.2.1, sb, (op_r hp).2.2.2.2.1, sb, h3, h4, hl, if_neg (nI_ge (by omega) (by omega))]
  · rw [(op_r hp).1, sb, (op_r hp).2.2.2.1, sb, h3, ldJ_n hp.2.1 (by omega) (by decide), sb, c1]
  · rw [(op_r hp).2.1, sb, (op_r hp).2.2.2.1, sb, h3, ldI_n hp.2.2.1 (by omega) (by decide), sb, c2]
  · rw [(op_r hp).2.2.1, sb, (op_r hp).2.2.2.1, sb, h3, ldI_n hp.2.2.2.1 (by omega) (by decide), sb, c3]
  · rw [(op_r hp).2.2.2.1, sb, h3, nI_1, (op_p hp _).1, sb]
  · rw [upA_same, upd_eq]
  · rw [upA_same, upd_ne _ _ _ (by omega), h4, hl]
    congr 1
    omega
  · have := h5 (k + 1) y hy
    rw [show f + 1 + k = f + (k + 1) by omega]
    exact this
end Oq
/-- sorted ones with the same members are the same -/
theorem srt_eq : ∀ (S T : List Ent), SrtK S → SrtK T → S.Perm T → S = T := by
  intro S
  induction S with
  | nil => intro T _ _ h; exact (List.nil_perm.mp h).symm
  | cons x S ih =>
    intro T hS hT h
    cases T with
    | nil => exact absurd (List.perm_nil.mp h) (by simp)
    | cons y T =>
      obtain ⟨s1, s2⟩ := List.pairwise_cons.mp hS
      obtain ⟨t1, t2⟩ := List.pairwise_cons.mp hT
      have hx : x ∈ y :: T := h.mem_iff.mp List.mem_cons_self
      have hy : y ∈ x :: S := h.mem_iff.mpr List.mem_cons_self
      have hxy : x = y := by
        rcases List.mem_cons.mp hx with e | hx
        · exact e
        · rcases List.mem_cons.mp hy with e | hy
          · exact e.symm
          · have a := t1 x hx
            have b := s1 y hy
            omega
      subst hxy
      rw [ih T s2 t2 (List.Perm.cons_inv h)]
/-! the reference's OPEN ROWS -/
def OpM (A : Nat → Nat → Int32) (B : Nat → Nat → Int64) (G : Nat → Nat → Int32) (L : List Ent) : Prop := G 44 21 = nI L.length ∧ ∀ k x, L[k]? = some x → B 55 k = lN x.1 ∧ A 56 k = nI x.2.1 ∧ A 57 k = nI x.2.2
/-- what the reference's OPEN ROWS leave alone -/
def FrM2 (A A' : Nat → Nat → Int32) (B B' : Nat → Nat → Int64) (G G' : Nat → Nat → Int32) : Prop := (∀ k, k ≠ 56 → k ≠ 57 → k ≠ 58 → A' k = A k) ∧ (∀ k, k ≠ 55 → B' k = B k) ∧ (∀ k, k ≠ 44 → G' k = G k) ∧ (∀ j, j ≠ 21 → j ≠ 23 → G' 44 j = G 44 j)
theorem FrM2.refl (A : Nat → Nat → Int32) (B : Nat → Nat → Int64) (G : Nat → Nat → Int32) : FrM2 A A B B G G := ⟨fun _ _ _ _ => rfl, fun _ _ => rfl, fun _ _ => rfl, fun _ _ _ => rfl⟩
theorem FrM2.trans {A A' A2 : Nat → Nat → Int32} {B B' B2 : Nat → Nat → Int64} {G G' G2 : Nat → Nat → Int32} (h : FrM2 A A' B B' G G') (k : FrM2 A' A2 B' B2 G' G2) : FrM2 A A2 B B2 G G2 := ⟨fun x a b c => (k.1 x a b c).trans (h.1 x a b c), fun x a => (k.2.1 x a).trans (h.2.1 x a), fun x a => (k.2.2.1 x a).trans (h.2.2.1 x a), fun x a b => (k.2.2.2 x a b).trans (h.2.2.2 x a b)⟩
section Or2
variable {fl : Nat → Bool} {N : Nat}
theorem s_openM {A : Nat → Nat → Int32} {B : Nat → Nat → Int64} {G : Nat → Nat → Int32} {L : List Ent} (hL : L.length < 400) (hM : OpM A B G L) (x : Ent) :
    ∃ A' B' G', f_X7_open N 44 (lN x.1) (nI x.2.1) (nI x.2.2) (mem A B G fl) = some (mem A' B' G' fl) ∧ OpM A' B' G' (L ++ [x]) ∧ FrM2 A A' B B' G G' ∧ A' 58 = A 58 ∧ G' 44 23 = G 44 23 := by
  have hl1 : (L ++ [x]).length = L.length + 1 := List.length_append
  refine ⟨upA (upA A 56 (upd (A 56) L.length (nI x.2.1))) 57 (upd (A 57) L.length (nI x.2.2)), upA B 55 (vp_updL (B 55) L.length (lN x.1)), upA G 44 (upd (G 44) 21 (nI (L.length + 1))), ?_, ⟨?_, fun k y hy => ?_⟩, ⟨fun k a b _ => by rw [upA_ne _ _ _ b, upA_ne _ _ _ a], fun k a => upA_ne _ _ _ a, fun k a => upA_ne _ _ _ a, fun j a _ => by rw [upA_same, upd_ne _ _ _ a]⟩, ?_, ?_⟩
  · unfold f_X7_open
    rw [gx_44_18, sb, gx_44_21, sb, hM.1, stJ_n (ly55 fl) hL (by decide), sb, gx_44_19, sb, gx_44_21, sb, hM.1, stI_n (ly56 fl) hL (by decide), sb, gx_44_20, sb, gx_44_21, sb, hM.1, stI_n (ly57 fl) hL (by decide), sb, gx_44_21, sb, hM.1, nI_1, px_44_21, sb, upA_ne _ _ _ (show 57 ≠ 56 by omega)]
  · rw [upA_same, upd_eq, hl1]
  · rw [upA_ne _ _ _ (show 56 ≠ 57 by omega), upA_same, upA_same, upA_same]
    by_cases e : k < L.length
    · rw [List.getElem?_append_left e] at hy
      rw [upd_ne _ _ _ (by omega), upd_ne _ _ _ (by omega), vpL_ne _ _ _ (by omega)]
      exact hM.2 k y hy
    · have hk : k < (L ++ [x]).length := (List.getElem?_eq_some_iff.mp hy).1
      have e2 : k = L.length := by omega
      subst e2
      rw [List.getElem?_append_right (Nat.le_refl _), Nat.sub_self] at hy
      obtain rfl := Option.some.inj hy
      rw [upd_eq, upd_eq, vpL_eq]
      exact ⟨rfl, rfl, rfl⟩
  · rw [upA_ne _ _ _ (by omega), upA_ne _ _ _ (by omega)]
  · rw [upA_same, upd_ne _ _ _ (by omega)]
/-- forgetting what is past -/
theorem s_forget {p : Nat} (hp : p ≤ 1000) {L : List Ent} (hL : L.length ≤ 400) (hlv : ∀ x, x ∈ L → x.2.2 ≤ 1000) : ∀ (T : List Ent) (k n m : Nat) (A : Nat → Nat → Int32) (B : Nat → Nat → Int64) (G : Nat → Nat → Int32) (K : List Ent), L.drop k = T → k + T.length = L.length → T.length < m → K.length = n → n ≤ k → K = (L.take k).filter (fun x => decide (p < x.2.2)) → G 44 21 = nI L.length → (∀ j x, k ≤ j → L[j]? = some x → B 55 j = lN x.1 ∧ A 56 j = nI x.2.1 ∧ A 57 j = nI x.2.2) → (∀ j x, K[j]? = some x → B 55 j = lN x.1 ∧ A 56 j = nI x.2.1 ∧ A 57 j = nI x.2.2) →
    ∃ A' B' G', f_X7_forget_L4 N m 44 (nI p) (nI n) (nI k) (mem A B G fl) = some (mem A' B' G' fl) ∧ OpM A' B' G' (L.filter (fun x => decide (p < x.2.2))) ∧ FrM2 A A' B B' G G' ∧ A' 58 = A 58 := by
  intro T
  induction T with
  | nil =>
    intro k n m A B G K hT hk hm hn hnk hK hG hR hKm
    have h0 : ([] : List Ent).length = 0 := rfl
    obtain ⟨m, rfl⟩ : ∃ j, m = j + 1 := ⟨m - 1, by omega⟩
    have hKL : K = L.filter (fun x => decide (p < x.2.2)) := by rw [hK, List.take_of_length_le (by omega)]
    refine ⟨A, B, upA G 44 (upd (G 44) 21 (nI n)), ?_, ⟨?_, ?_⟩, ⟨fun _ _ _ _ => rfl, fun _ _ => rfl, fun k a => upA_ne _ _ _ a, fun j a _ => by rw [upA_same, upd_ne _ _ _ a]⟩, rfl⟩
    · rw [f_X7_forget_L4, gx_44_21, sb, hG, if_pos (nI_le (by omega) (by omega)), px_44_21, sb]
    · rw [upA_same, upd_eq, ← hKL, hn]
    · rw [← hKL]; exact hKm
  | cons x T ih =>
    intro k n m A B G K hT hk hm hn hnk hK hG hR hKm
    have hc : (x :: T).length = T.length + 1 := rfl
    obtain ⟨m, rfl⟩ : ∃ j, m = j + 1 := ⟨m - 1, by omega⟩
    have hkl : k < L.length := by omega
    rw [List.drop_eq_getElem_cons hkl] at hT
    obtain ⟨hx, hT⟩ := List.cons.inj hT
    have hx2 : L[k]? = some x := by rw [List.getElem?_eq_getElem hkl, hx]
    have hxm : x ∈ L := List.mem_of_getElem? hx2
    obtain ⟨r1, r2, r3⟩ := hR k x (Nat.le_refl _) hx2
    have hl := hlv x hxm
    have htk : L.take (k + 1) = L.take k ++ [x] := by rw [List.take_succ, hx2]; rfl
    rw [f_X7_forget_L4, gx_44_21, sb, hG, if_neg (nI_ge (by omega) (by omega)), gx_44_20, sb, ldI_n (ly57 fl) (by omega) (by decide), sb, r3]
    by_cases h : p < x.2.2
    · generalize hA1 : upA (upA A 56 (upd (A 56) n (nI x.2.1))) 57 (upd (A 57) n (nI x.2.2)) = A1
      generalize hB1 : upA B 55 (vp_updL (B 55) n (lN x.1)) = B1
      have a0 : ∀ k, k ≠ 56 → k ≠ 57 → A1 k = A k := fun k x y => by rw [← hA1, upA_ne _ _ _ y, upA_ne _ _ _ x]
      have a56 : A1 56 = upd (A 56) n (nI x.2.1) := by rw [← hA1, upA_ne _ _ _ (by omega), upA_same]
      have a57 : A1 57 = upd (A 57) n (nI x.2.2) := by rw [← hA1, upA_same]
      have b55 : B1 55 = vp_updL (B 55) n (lN x.1) := by rw [← hB1, upA_same]
      have hK2 : (K ++ [x]).length = n + 1 := by rw [List.length_append, hn]; rfl
      obtain ⟨A', B', G', g1, g2, g3, g4⟩ := ih (k + 1) (n + 1) m A1 B1 G (K ++ [x]) hT (by omega) (by omega) hK2 (by omega) (by rw [htk, List.filter_append, ← hK, List.filter_cons_of_pos (by exact decide_eq_true h), List.filter_nil]) hG (fun j y hj hy => by
        rw [a56, a57, b55, upd_ne _ _ _ (by omega), upd_ne _ _ _ (by omega), vpL_ne _ _ _ (by omega)]
        exact hR j y (by omega) hy) (fun j y hy => by
        rw [a56, a57, b55]
        by_cases e : j < n
        · rw [List.getElem?_append_left (by omega)] at hy
          rw [upd_ne _ _ _ (by omega), upd_ne _ _ _ (by omega), vpL_ne _ _ _ (by omega)]
          exact hKm j y hy
        · have hj : j < (K ++ [x]).length := (List.getElem?_eq_some_iff.mp hy).1
          have e2 : j = n := by omega
          subst e2
          rw [List.getElem?_append_right (by omega), hn, Nat.sub_self] at hy
          obtain rfl := Option.some.inj hy
          rw [upd_eq, upd_eq, vpL_eq]
          exact ⟨rfl, rfl, rfl⟩)
      refine ⟨A', B', G', ?_, g2, FrM2.trans ⟨fun k a b _ => a0 k a b, fun k a => by rw [← hB1, upA_ne _ _ _ a], fun _ _ => rfl, fun _ _ _ => rfl⟩ g3, by rw [g4, a0 58 (by omega) (by omega)]⟩
      rw [if_neg (nI_ge h (by omega)), gx_44_18, sb, sb, ldJ_n (ly55 fl) (by omega) (by decide), sb, r1, stJ_n (ly55 fl) (by omega) (by decide), sb, hB1, gx_44_19, sb, sb, ldI_n (ly56 fl) (by omega) (by decide), sb, r2, stI_n (ly56 fl) (by omega) (by decide), sb, gx_44_20, sb, sb, ldI_n (ly57 fl) (by omega) (by decide), sb, upA_ne _ _ _ (show 57 ≠ 56 by omega), r3, stI_n (ly57 fl) (by omega) (by decide), sb, upA_ne _ _ _ (show 57 ≠ 56 by omega), hA1, f_X7_forget_K61, nI_1, nI_1, g1]
    · obtain ⟨A', B', G', g1, g2, g3, g4⟩ := ih (k + 1) n m A B G K hT (by omega) (by omega) hn (by omega) (by rw [htk, List.filter_append, ← hK, List.filter_cons_of_neg (by rw [decide_eq_false h]; decide), List.filter_nil, List.append_nil]) hG (fun j y hj hy => hR j y (by omega) hy) hKm
      refine ⟨A', B', G', ?_, g2, g3, g4⟩
      rw [if_pos (nI_le (by omega) (by omega)), f_X7_forget_K61, nI_1, g1]
end Or2
