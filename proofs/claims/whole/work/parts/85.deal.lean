/-! ORDERED: how a node is dealt -/
section Dl
variable {P C : Nat → Nat} {s : Nat}
/-- the cost of a node is finite -/
theorem nd_fin (hs : 2 ≤ s) {t : Nat} (hS : Sml P C s t) : ∀ (d i j : Nat), j - i = d → j < t → nd P C s i j ≤ 432000000 * d := by
  intro d
  induction d with
  | zero =>
    intro i j h _
    unfold nd
    rw [h]
    exact Nat.zero_le _
  | succ d ih =>
    intro i j h hj
    have hij : i < j := by omega
    have h1 := ih (i + 1) j (by omega) hj
    have h24 := hS.2.1
    rw [nd_eq hij]
    have key := (le_rD (P := P) (C := C) (s := s) (c := nd P C s) (y := rD P C s (nd P C s) i j s i) hij s (Nat.le_refl _)).mp (Nat.le_refl _)
    have k0 := key.2 0 (i + 1) (by omega) (by omega) (Nat.le_refl _) (by omega)
    -- the rest goes to the next sign
    have hd : dD P C s (nd P C s) j (s - 1) (i + 1) ≤ P 1 * Wt C (i + 1) (j + 1) + nd P C s (i + 1) j := by
      have hstep := dD_step (P := P) (C := C) (s := s) (c := nd P C s) (show i + 1 ≤ j by omega) (s - 2)
      rw [show s - 2 + 1 = s - 1 by omega, show s - 1 - (s - 2) = 1 by omega] at hstep
      have h2 := ((le_mnF (y := dD P C s (nd P C s) j (s - 1) (i + 1)) (j + 1 - (i + 1)) (i + 1 + 1) _).mp (Nat.le_of_eq hstep)).2 (j + 1) (by omega) (by omega)
      rw [dD_end] at h2
      have hc : c1 (nd P C s) (i + 1) (j + 1) = nd P C s (i + 1) j := by
        unfold c1
        by_cases q : j + 1 - (i + 1) < 2
        · rw [if_pos q, show j = i + 1 by omega, nd_self]
        · rw [if_neg q]; rfl
      rw [hc] at h2
      omega
    have p0 := hS.pw (a := i) (e := i + 1) (u := 0) (by omega) (by omega)
    have p1 := hS.pw (a := i + 1) (e := j + 1) (u := 1) (by omega) (by omega)
    have hc0 : c1 (nd P C s) i (i + 1) = 0 := by
      unfold c1
      rw [if_pos (by omega)]
    rw [hc0, show s - (0 + 1) = s - 1 by omega] at k0
    omega
def prB (P C : Nat → Nat) (s i j u a e : Nat) : Bool := decide (dv P C s i j u a e (rD P C s (nd P C s) i j (s - (u + 1)) e) = rD P C s (nd P C s) i j (s - u) a)
/-- where a sign's share ends -/
def sp (P C : Nat → Nat) (s i j u a : Nat) : Nat := (fo (prB P C s i j u a) (j + 2 - a) a).getD (j + 1)
theorem fo_some {Q : Nat → Bool} : ∀ (d i k : Nat), fo Q d i = some k → i ≤ k ∧ k < i + d ∧ Q k = true ∧ ∀ j, i ≤ j → j < k → Q j = false := by
  intro d
  induction d with
  | zero => intro i k h; cases h
  | succ d ih =>
    intro i k h
    rw [fo] at h
    by_cases q : Q i = true
    · rw [if_pos q] at h
      obtain rfl := Option.some.inj h
      exact ⟨Nat.le_refl _, by omega, q, fun j a b => by omega⟩
    · rw [if_neg q] at h
      obtain ⟨h1, h2, h3, h4⟩ := ih (i + 1) k h
      refine ⟨by omega, by omega, h3, fun j a b => ?_⟩
      by_cases e : j = i
      · subst e
        cases hq : Q j with
        | false => rfl
        | true => exact absurd hq q
      · exact h4 j (by omega) b
theorem mnF_at {f : Nat → Nat} : ∀ (d a x : Nat), mnF f d a x < x → ∃ e, a ≤ e ∧ e < a + d ∧ f e = mnF f d a x := by
  intro d
  induction d with
  | zero => intro a x h; exact absurd h (Nat.lt_irrefl _)
  | succ d ih =>
    intro a x h
    rw [mnF] at h ⊢
    by_cases q : mnF f d (a + 1) (min x (f a)) < min x (f a)
    · obtain ⟨e, h1, h2, h3⟩ := ih (a + 1) _ q
      exact ⟨e, by omega, by omega, h3⟩
    · have h2 := mnF_le (f := f) d (a + 1) (min x (f a))
      exact ⟨a, Nat.le_refl _, by omega, by omega⟩
theorem sp_ok {i j u a : Nat} (hu : u < s) (haj : a ≤ j + 1) (hf : rD P C s (nd P C s) i j (s - u) a < EV) : a ≤ sp P C s i j u a ∧ sp P C s i j u a ≤ j + 1 ∧ dv P C s i j u a (sp P C s i j u a) (rD P C s (nd P C s) i j (s - (u + 1)) (sp P C s i j u a)) = rD P C s (nd P C s) i j (s - u) a ∧ ∀ e, a ≤ e → e < sp P C s i j u a → prB P C s i j u a e = false := by
  have hex : fo (prB P C s i j u a) (j + 2 - a) a ≠ none := by
    intro hn
    have hall := (fo_none (j + 2 - a) a).mp hn
    have hk : rD P C s (nd P C s) i j (s - u) a = mnF (fun e => dv P C s i j u a e (rD P C s (nd P C s) i j (s - (u + 1)) e)) (j + 2 - a) a EV := by
      rw [show s - u = (s - (u + 1)) + 1 by omega, rD, show s - 1 - (s - (u + 1)) = u by omega]
      rfl
    rw [hk] at hf
    obtain ⟨e, h1, h2, h3⟩ := mnF_at _ _ _ hf
    have := hall e h1 h2
    unfold prB at this
    rw [hk] at this
    exact absurd h3 (of_decide_eq_false this)
  cases hq : fo (prB P C s i j u a) (j + 2 - a) a with
  | none => exact absurd hq hex
  | some e =>
    obtain ⟨h1, h2, h3, h4⟩ := fo_some _ _ _ hq
    have he : sp P C s i j u a = e := by unfold sp; rw [hq]; rfl
    rw [he]
    exact ⟨h1, by omega, of_decide_eq_true h3, h4⟩
theorem sp_rest {i j u a : Nat} (hu : u < s) (haj : a ≤ j + 1) (hf : rD P C s (nd P C s) i j (s - u) a < EV) : rD P C s (nd P C s) i j (s - (u + 1)) (sp P C s i j u a) < EV ∧ sp P C s i j u a - a ≠ j - i + 1 ∧ P u * Wt C a (sp P C s i j u a) + c1 (nd P C s) a (sp P C s i j u a) + rD P C s (nd P C s) i j (s - (u + 1)) (sp P C s i j u a) = rD P C s (nd P C s) i j (s - u) a := by
  obtain ⟨-, -, h, -⟩ := sp_ok hu haj hf
  unfold dv vv at h
  by_cases h1 : sp P C s i j u a - a = j - i + 1
  · rw [if_pos h1] at h; omega
  · rw [if_neg h1] at h
    by_cases h2 : EV ≤ rD P C s (nd P C s) i j (s - (u + 1)) (sp P C s i j u a)
    · rw [if_pos h2] at h; omega
    · rw [if_neg h2] at h
      exact ⟨by omega, h1, h⟩
/-- all to one sign costs more than the node -/
theorem dD_rD {i j k : Nat} (hij : i < j) (hk : k ≤ s) (hp : ∀ u, u < s → 1 ≤ P u) (hw : 1 ≤ Wt C i (j + 1)) (hfin : nd P C s i j < EV) : dD P C s (nd P C s) j k i = nd P C s i j ↔ rD P C s (nd P C s) i j k i = nd P C s i j := by
  have hle : ∀ y, y ≤ dD P C s (nd P C s) j k i ↔ (y ≤ rD P C s (nd P C s) i j k i ∧ ∀ u, s - k ≤ u → u < s → y ≤ P u * Wt C i (j + 1) + nd P C s i j) := by
    intro y
    rw [le_rD hij k hk]
    clear hfin
    induction k with
    | zero =>
      rw [dD, if_neg (by omega)]
      exact ⟨fun h => ⟨⟨h, fun u e a b => by omega⟩, fun u a b => by omega⟩, fun h => h.1.1⟩
    | succ k ih =>
      rw [dD_step (by omega), le_mnF, ih (by omega), show s - 1 - k = s - (k + 1) by omega]
      have hcj : c1 (nd P C s) i (j + 1) = nd P C s i j := by
        unfold c1
        rw [if_neg (by omega)]
        rfl
      have hsk : s - (s - (k + 1) + 1) = k := by omega
      constructor
      · rintro ⟨⟨⟨h1, h2⟩, h3⟩, h4⟩
        refine ⟨⟨h1, fun u e a b x z => ?_⟩, fun u a b => ?_⟩
        · by_cases hu : u = s - (k + 1)
          · subst hu
            rw [hsk]
            exact h4 e x (by omega)
          · exact h2 u e (by omega) b x z
        · by_cases hu : u = s - (k + 1)
          · subst hu
            have := h4 (j + 1) (by omega) (by omega)
            rw [dD_end, hcj] at this
            omega
          · exact h3 u (by omega) b
      · rintro ⟨⟨h1, h2⟩, h3⟩
        refine ⟨⟨⟨h1, fun u e a b x z => h2 u e (by omega) b x z⟩, fun u a b => h3 u (by omega) b⟩, fun e a b => ?_⟩
        by_cases he : e = j + 1
        · subst he
          rw [dD_end, hcj]
          have := h3 (s - (k + 1)) (Nat.le_refl _) (by omega)
          omega
        · have := h2 (s - (k + 1)) e (Nat.le_refl _) (by omega) a (by omega)
          rw [hsk] at this
          exact this
  have hge : nd P C s i j ≤ rD P C s (nd P C s) i j k i := by
    rw [le_rD hij k hk]
    have h0 := (le_rD (P := P) (C := C) (s := s) (c := nd P C s) (y := nd P C s i j) hij s (Nat.le_refl _)).mp (by rw [← nd_eq hij]; exact Nat.le_refl _)
    exact ⟨h0.1, fun u e a b x z => h0.2 u e (by omega) b x z⟩
  have hex : ∀ u, u < s → nd P C s i j + 1 ≤ P u * Wt C i (j + 1) + nd P C s i j := fun u hu => by
    have := Nat.mul_le_mul (hp u hu) hw
    omega
  constructor
  · intro h
    refine Nat.le_antisymm (Nat.le_of_not_lt fun hlt => ?_) hge
    have := (hle (nd P C s i j + 1)).mpr ⟨by omega, fun u _ hu => hex u hu⟩
    omega
  · intro h
    refine Nat.le_antisymm ?_ ((hle _).mpr ⟨by omega, fun u _ hu => by have := hex u hu; omega⟩)
    have := ((hle (dD P C s (nd P C s) j k i)).mp (Nat.le_refl _)).1
    omega
end Dl
