/-! the reference's way of dealing nodes: a stack of those that wait -/
abbrev NdQ : Type := Nat × Nat × Nat × Nat
section Dm
variable {P C : Nat → Nat} {s t : Nat}
/-- the fuel does not matter -/
theorem dlA_cg {f g : Nat → Nat → Nat → Nat → Nat → Nat × Nat} {i j r n : Nat} (hij : i < j) (h : ∀ a b r' n' x, i ≤ a → a < b → b ≤ j → b - a < j - i → a ≤ x → x ≤ b → f a b r' n' x = g a b r' n' x) : ∀ (k u a x : Nat), u + k = s → i ≤ a → a ≤ j + 1 → a ≤ x → rD P C s (nd P C s) i j (s - u) a < EV → dlA P C s f i j r n k u a x = dlA P C s g i j r n k u a x := by
  intro k
  induction k with
  | zero => intro u a x _ _ _ _ _; rfl
  | succ k ih =>
    intro u a x hu ha haj hax hf
    obtain ⟨p1, p2, -, -⟩ := sp_ok (show u < s by omega) haj hf
    obtain ⟨r1, r2, -⟩ := sp_rest (show u < s by omega) haj hf
    rw [dlA, dlA]
    by_cases hx : x < sp P C s i j u a
    · rw [if_pos hx, if_pos hx]
      by_cases h1 : sp P C s i j u a - a = 1
      · rw [if_pos h1, if_pos h1]
      · rw [if_neg h1, if_neg h1]
        exact h _ _ _ _ _ ha (by omega) (by omega) (by omega) hax (by omega)
    · rw [if_neg hx, if_neg hx, ih (u + 1) _ x (by omega) (by omega) p2 (by omega) r1]
theorem nd_EV (hs : 2 ≤ s) (hS : Sml P C s t) {i j : Nat} (hj : j < t) : nd P C s i j < EV := by
  have := nd_fin hs hS (j - i) i j rfl hj
  have := hS.2.1
  unfold EV
  omega
theorem ndA_eq (hs : 2 ≤ s) (hS : Sml P C s t) : ∀ (f g i j r n x : Nat), i < j → j < t → j - i < f → j - i < g → i ≤ x → x ≤ j → ndA P C s f i j r n x = ndA P C s g i j r n x := by
  intro f
  induction f with
  | zero => intro g i j r n x _ _ h; omega
  | succ f ih =>
    intro g i j r n x hij hj h1 h2 hx hx2
    obtain ⟨g, rfl⟩ : ∃ k, g = k + 1 := ⟨g - 1, by omega⟩
    rw [ndA, ndA]
    refine dlA_cg hij (fun a b r' n' x g1 g2 g3 g4 g5 g6 => ih g a b r' n' x g2 (by omega) (by omega) (by omega) g5 g6) s 0 i x (by omega) (Nat.le_refl _) (by omega) hx ?_
    rw [Nat.sub_zero, ← nd_eq hij]
    exact nd_EV hs hS hj
/-- the words of a node -/
def wA (P C : Nat → Nat) (s : Nat) (q : NdQ) (x : Nat) : Nat × Nat := ndA P C s 48 q.1 q.2.1 q.2.2.1 q.2.2.2 x
theorem wA_eq (hs : 2 ≤ s) (hS : Sml P C s t) {i j r n x : Nat} (hij : i < j) (hj : j < t) (hx : i ≤ x) (hx2 : x ≤ j) : wA P C s (i, j, r, n) x = dlA P C s (fun a b r' n' x => wA P C s (a, b, r', n') x) i j r n s 0 i x := by
  have h24 := hS.2.1
  have h1 : wA P C s (i, j, r, n) x = ndA P C s 49 i j r n x := ndA_eq hs hS 48 49 i j r n x hij hj (by omega) (by omega) hx hx2
  rw [h1, ndA]
  rfl
/-- the nodes that wait behind the signs from u on -/
def chl (P C : Nat → Nat) (s i j r n : Nat) : Nat → Nat → Nat → List NdQ
  | 0, _, _ => []
  | k + 1, u, a => (if 2 ≤ sp P C s i j u a - a then [(a, sp P C s i j u a - 1, r + u * 4 ^ (23 - n), n + 1)] else []) ++ chl P C s i j r n k (u + 1) (sp P C s i j u a)
/-- the words that are given at once -/
def lfA (P C : Nat → Nat) (s i j r n : Nat) : Nat → Nat → Nat → Nat → Option (Nat × Nat)
  | 0, _, _, _ => none
  | k + 1, u, a, x => if a ≤ x ∧ x < sp P C s i j u a then (if sp P C s i j u a - a = 1 then some (r + u * 4 ^ (23 - n), n + 1) else none) else lfA P C s i j r n k (u + 1) (sp P C s i j u a) x
def ms : List NdQ → Nat
  | [] => 0
  | q :: L => q.2.1 - q.1 + ms L
theorem ms_app (L K : List NdQ) : ms (L ++ K) = ms L + ms K := by
  induction L with
  | nil => show ms K = 0 + ms K; omega
  | cons q L ih => show q.2.1 - q.1 + ms (L ++ K) = q.2.1 - q.1 + ms L + ms K; rw [ih]; omega
/-- facts of the lists -/
theorem chl_ok {i j r n : Nat} (hij : i < j) (hr : r < 4 ^ 24) (hz : rz r n) (hn : n + (j - i) ≤ 23) (hs4 : s ≤ 4) (F : NdQ → Nat → Nat × Nat) : ∀ (k u a : Nat), u + k = s → i ≤ a → a ≤ j + 1 → rD P C s (nd P C s) i j (s - u) a < EV →
    (∀ q, q ∈ chl P C s i j r n k u a → a ≤ q.1 ∧ q.1 < q.2.1 ∧ q.2.1 ≤ j ∧ q.2.1 - q.1 < j - i ∧ q.2.2.1 < 4 ^ 24 ∧ rz q.2.2.1 q.2.2.2 ∧ q.2.2.2 = n + 1) ∧
    ms (chl P C s i j r n k u a) + (if a = i then 1 else 0) ≤ j - a + (if a = j + 1 then 0 else 0) ∧
    (chl P C s i j r n k u a).Pairwise (fun p q => p.2.1 < q.1) ∧
    (∀ x, a ≤ x → x ≤ j → (∀ q, q ∈ chl P C s i j r n k u a → q.1 ≤ x → x ≤ q.2.1 → dlA P C s (fun a b r' n' x => F (a, b, r', n') x) i j r n k u a x = F q x ∧ lfA P C s i j r n k u a x = none) ∧ ((∀ q, q ∈ chl P C s i j r n k u a → ¬ (q.1 ≤ x ∧ x ≤ q.2.1)) → lfA P C s i j r n k u a x = some (dlA P C s (fun a b r' n' x => F (a, b, r', n') x) i j r n k u a x))) ∧
    (∀ x, (x < a ∨ j < x) → lfA P C s i j r n k u a x = none) := by
  intro k
  induction k with
  | zero =>
    intro u a hu ha haj hf
    have hus : u = s := by omega
    have haj2 : a = j + 1 := by
      rw [hus, Nat.sub_self, rD] at hf
      by_cases q : a = j + 1
      · exact q
      · rw [if_neg q] at hf; exact absurd hf (Nat.lt_irrefl _)
    refine ⟨fun q hq => (by cases hq), ?_, List.Pairwise.nil, fun x h1 h2 => by omega, fun _ _ => rfl⟩
    rw [if_neg (by omega)]
    exact Nat.zero_le _
  | succ k ih =>
    intro u a hu ha haj hf
    obtain ⟨p1, p2, -, -⟩ := sp_ok (show u < s by omega) haj hf
    obtain ⟨r1, r2, -⟩ := sp_rest (show u < s by omega) haj hf
    obtain ⟨i1, i2, i3, i4, i5⟩ := ih (u + 1) (sp P C s i j u a) (by omega) (by omega) p2 r1
    have hdl : ∀ x, dlA P C s (fun a b r' n' x => F (a, b, r', n') x) i j r n (k + 1) u a x = if x < sp P C s i j u a then (if sp P C s i j u a - a = 1 then (r + u * 4 ^ (23 - n), n + 1) else F (a, sp P C s i j u a - 1, r + u * 4 ^ (23 - n), n + 1) x) else dlA P C s (fun a b r' n' x => F (a, b, r', n') x) i j r n k (u + 1) (sp P C s i j u a) x := fun x => rfl
    have hlf : ∀ x, lfA P C s i j r n (k + 1) u a x = if a ≤ x ∧ x < sp P C s i j u a then (if sp P C s i j u a - a = 1 then some (r + u * 4 ^ (23 - n), n + 1) else none) else lfA P C s i j r n k (u + 1) (sp P C s i j u a) x := fun x => rfl
    have hch : chl P C s i j r n (k + 1) u a = (if 2 ≤ sp P C s i j u a - a then [(a, sp P C s i j u a - 1, r + u * 4 ^ (23 - n), n + 1)] else []) ++ chl P C s i j r n k (u + 1) (sp P C s i j u a) := rfl
    obtain ⟨z1, z2⟩ := chd_rz (u := u) hr hz (show n ≤ 23 by omega) (by omega)
    generalize sp P C s i j u a = e at p1 p2 r1 r2 i1 i2 i3 i4 i5 hdl hlf hch
    have hmem : ∀ q, q ∈ chl P C s i j r n (k + 1) u a → (2 ≤ e - a ∧ q = (a, e - 1, r + u * 4 ^ (23 - n), n + 1)) ∨ q ∈ chl P C s i j r n k (u + 1) e := by
      intro q hq
      rw [hch] at hq
      rcases List.mem_append.mp hq with h | h
      · by_cases h2 : 2 ≤ e - a
        · rw [if_pos h2, List.mem_singleton] at h; exact Or.inl ⟨h2, h⟩
        · rw [if_neg h2] at h; cases h
      · exact Or.inr h
    refine ⟨fun q hq => ?_, ?_, ?_, fun x h1 h2 => ⟨fun q hq g1 g2 => ?_, fun hno => ?_⟩, fun x hx => ?_⟩
    · rcases hmem q hq with ⟨h2, rfl⟩ | h
      · exact ⟨Nat.le_refl _, by show a < e - 1; omega, by show e - 1 ≤ j; omega, by show e - 1 - a < j - i; omega, z1, z2, rfl⟩
      · obtain ⟨x1, x2⟩ := i1 q h
        exact ⟨by omega, x2⟩
    · rw [hch, ms_app]
      have hm1 : ms (if 2 ≤ e - a then [(a, e - 1, r + u * 4 ^ (23 - n), n + 1)] else []) = e - 1 - a := by
        by_cases h2 : 2 ≤ e - a
        · rw [if_pos h2]; show e - 1 - a + 0 = _; omega
        · rw [if_neg h2]; show 0 = _; omega
      rw [hm1]
      by_cases hea : e = a
      · rw [hea] at i2 ⊢; omega
      · rw [if_neg (show ¬ e = i by omega)] at i2
        by_cases hai : a = i
        · rw [if_pos hai]
          split at i2 <;> split <;> omega
        · rw [if_neg hai]
          split at i2 <;> split <;> omega
    · rw [hch, List.pairwise_append]
      refine ⟨?_, i3, fun p hp q hq => ?_⟩
      · by_cases h2 : 2 ≤ e - a
        · rw [if_pos h2]; exact List.pairwise_singleton _ _
        · rw [if_neg h2]; exact List.Pairwise.nil
      · by_cases h2 : 2 ≤ e - a
        · rw [if_pos h2, List.mem_singleton] at hp
          subst hp
          have := (i1 q hq).1
          show e - 1 < q.1
          omega
        · rw [if_neg h2] at hp; cases hp
    · rcases hmem q hq with ⟨h3, rfl⟩ | h
      · have g2 : x ≤ e - 1 := g2
        rw [hdl, hlf, if_pos (by omega), if_neg (by omega), if_pos ⟨h1, by omega⟩, if_neg (by omega)]
        exact ⟨rfl, rfl⟩
      · have := (i1 q h).1
        rw [hdl, hlf, if_neg (by omega), if_neg (by omega)]
        exact (i4 x (by omega) h2).1 q h g1 g2
    · by_cases hx : x < e
      · have h3 : ¬ 2 ≤ e - a := fun h3 => hno (a, e - 1, r + u * 4 ^ (23 - n), n + 1) (by rw [hch, if_pos h3]; exact List.mem_append_left _ (List.mem_singleton.mpr rfl)) ⟨h1, by show x ≤ e - 1; omega⟩
        rw [hdl, hlf, if_pos hx, if_pos ⟨h1, hx⟩, if_pos (by omega), if_pos (by omega)]
      · rw [hdl, hlf, if_neg hx, if_neg (by omega)]
        exact (i4 x (by omega) h2).2 (fun q hq => hno q (by rw [hch]; exact List.mem_append_right _ hq))
    · rw [hlf]
      rw [if_neg (by omega)]
      exact i5 x (by omega)
end Dm
