/-! FREE: the way that is taken -/
theorem ends_cap {b1 b2 b3 : Nat} : ∀ k a b c a' b' c' R, min a R = min a' R → min b R = min b' R → min c R = min c' R → Ends b1 b2 b3 k a b c R → Ends b1 b2 b3 k a' b' c' R := by
  intro k
  induction k with
  | zero =>
    intro a b c a' b' c' R h1 h2 h3 h
    rcases h with h | ⟨rfl, rfl, rfl⟩
    · exact Or.inl (by omega)
    · by_cases hR : R = 0
      · exact Or.inl (by omega)
      · exact Or.inr ⟨by omega, by omega, by omega⟩
  | succ k ih =>
    intro a b c a' b' c' R h1 h2 h3 h
    by_cases hR : R ≤ a'
    · exact Or.inl hR
    · rcases h with h | ⟨rfl, rfl, rfl⟩ | h
      · exact Or.inl (by omega)
      · exact Or.inr (Or.inl ⟨by omega, by omega, by omega⟩)
      · have ha : a = a' := by omega
        subst ha
        exact Or.inr (Or.inr (fun w hw => ih _ _ _ _ _ _ _ (by omega) (by omega) rfl (h w hw)))
/-- the greatest one from n down, or 0 -/
def gw (Q : Nat → Bool) : Nat → Nat
  | 0 => 0
  | w + 1 => if Q (w + 1) = true then w + 1 else gw Q w
theorem gw_le {Q : Nat → Bool} : ∀ n, gw Q n ≤ n := by
  intro n
  induction n with
  | zero => exact Nat.le_refl _
  | succ n ih => rw [gw]; split <;> omega
theorem gw_ge {Q : Nat → Bool} : ∀ n w, w ≤ n → Q w = true → w ≤ gw Q n := by
  intro n
  induction n with
  | zero => intro w h _; omega
  | succ n ih =>
    intro w h hq
    rw [gw]
    by_cases h1 : Q (n + 1) = true
    · rw [if_pos h1]; exact h
    · rw [if_neg h1]
      refine ih w ?_ hq
      rcases Nat.lt_or_ge n w with h2 | h2
      · have : w = n + 1 := by omega
        subst this
        exact absurd hq h1
      · exact h2
theorem gw_ok {Q : Nat → Bool} : ∀ n w, w ≤ n → Q w = true → Q (gw Q n) = true := by
  intro n
  induction n with
  | zero => intro w h hq; rw [gw, ← show w = 0 by omega]; exact hq
  | succ n ih =>
    intro w h hq
    rw [gw]
    by_cases h1 : Q (n + 1) = true
    · rw [if_pos h1]; exact h1
    · rw [if_neg h1]
      refine ih w ?_ hq
      rcases Nat.lt_or_ge n w with h2 | h2
      · have : w = n + 1 := by omega
        subst this
        exact absurd hq h1
      · exact h2
section Ch
variable (b1 b2 b3 : Nat) (lc : Nat → Nat)
/-- what w WORDS here cost -/
def cwF (d a b c R w : Nat) : Nat := adE (lc (R - w)) (gF b1 b2 b3 lc d (b + b1 * (a - w)) (c + b2 * (a - w)) (b3 * (a - w)) (R - w))
/-- how many WORDS are chosen here -/
def chW (d a b c R : Nat) : Nat := if R ≤ a then R else gw (fun w => decide (cwF b1 b2 b3 lc (d - 1) a b c R w = gF b1 b2 b3 lc d a b c R)) a
theorem cw_ge {d a b c R w : Nat} (h : ¬ R ≤ a) (hw : w ≤ a) : gF b1 b2 b3 lc (d + 1) a b c R ≤ cwF b1 b2 b3 lc d a b c R w :=
  ((le_gF b1 b2 b3 lc h).mp (Nat.le_refl _)).2 w hw
theorem chW_ok {d a b c R : Nat} (h : ¬ R ≤ a) (hE : gF b1 b2 b3 lc (d + 1) a b c R < EV) : chW b1 b2 b3 lc (d + 1) a b c R ≤ a ∧ cwF b1 b2 b3 lc d a b c R (chW b1 b2 b3 lc (d + 1) a b c R) = gF b1 b2 b3 lc (d + 1) a b c R := by
  have hE2 := hE
  rw [gF_S b1 b2 b3 lc h] at hE2
  obtain ⟨w, h1, h2, h3⟩ := mnF_at _ _ _ hE2
  rw [← gF_S b1 b2 b3 lc h] at h3
  have hq : (fun w => decide (cwF b1 b2 b3 lc (d + 1 - 1) a b c R w = gF b1 b2 b3 lc (d + 1) a b c R)) w = true := decide_eq_true h3
  unfold chW
  rw [if_neg h]
  have hk := gw_ok (Q := fun w => decide (cwF b1 b2 b3 lc (d + 1 - 1) a b c R w = gF b1 b2 b3 lc (d + 1) a b c R)) a w (by omega) hq
  exact ⟨gw_le _, of_decide_eq_true hk⟩
theorem chW_le {d a b c R : Nat} : chW b1 b2 b3 lc d a b c R ≤ a ∧ chW b1 b2 b3 lc d a b c R ≤ R := by
  unfold chW
  by_cases h : R ≤ a
  · rw [if_pos h]; exact ⟨h, Nat.le_refl _⟩
  · rw [if_neg h]
    have := gw_le (Q := fun w => decide (cwF b1 b2 b3 lc (d - 1) a b c R w = gF b1 b2 b3 lc d a b c R)) a
    exact ⟨this, by omega⟩
/-- whoever can end at the next level gives at least so many here -/
theorem chW_opt (hlc : ∀ x y, x < y → lc x < lc y) {d a b c R w0 : Nat} (h : ¬ R ≤ a) (hE : gF b1 b2 b3 lc (d + 1) a b c R < EV) (h0 : w0 ≤ a) (h1 : R - w0 ≤ b + b1 * (a - w0)) : w0 ≤ chW b1 b2 b3 lc (d + 1) a b c R := by
  obtain ⟨k1, k2⟩ := chW_ok b1 b2 b3 lc h hE
  have k3 := cw_ge b1 b2 b3 lc (d := d) (b := b) (c := c) h h0
  generalize chW b1 b2 b3 lc (d + 1) a b c R = w at k1 k2 ⊢
  rcases Nat.lt_or_ge w w0 with hw | hw
  · exfalso
    have h2 := hlc (R - w0) (R - w) (by omega)
    unfold cwF at k2 k3
    rw [gF_0 b1 b2 b3 lc h1] at k3
    unfold adE at k2 k3
    omega
  · exact hw
end Ch
/-- how many signs of the first n step by j -/
def bC (P : Nat → Nat) (j : Nat) : Nat → Nat
  | 0 => 0
  | u + 1 => bC P j u + (if P u = j then 1 else 0)
/-- rows at a level -/
def cn (l : Nat) (S : List Ent) : Nat := S.countP (fun e => decide (e.2.2 = l))
theorem cn_app (l : Nat) (S T : List Ent) : cn l (S ++ T) = cn l S + cn l T := List.countP_append
theorem cn_perm {l : Nat} {S T : List Ent} (h : S.Perm T) : cn l S = cn l T := h.countP_eq _
theorem cn_0 {l : Nat} {S : List Ent} (h : ∀ e, e ∈ S → e.2.2 ≠ l) : cn l S = 0 := by
  unfold cn
  rw [List.countP_eq_zero]
  intro e he
  rw [decide_eq_true_eq]
  exact h e he
theorem cn_kid {P : Nat → Nat} {x : Nat} {e : Ent} (j : Nat) : ∀ (k u : Nat), u + k ≤ x → bC P j u + cn (e.2.2 + j) (kidL P x e k u) = bC P j (u + k) := by
  intro k
  induction k with
  | zero => intro u _; rfl
  | succ k ih =>
    intro u hu
    have hi := ih (u + 1) (by omega)
    rw [kidL, if_neg (by omega), show kd P e u :: kidL P x e k (u + 1) = [kd P e u] ++ kidL P x e k (u + 1) from rfl, cn_app, show u + (k + 1) = u + 1 + k by omega, ← hi, bC]
    have h1 : cn (e.2.2 + j) [kd P e u] = if P u = j then 1 else 0 := by
      unfold cn
      rw [List.countP_singleton]
      by_cases h : P u = j
      · rw [if_pos h, if_pos (decide_eq_true (by show e.2.2 + P u = e.2.2 + j; omega))]
      · rw [if_neg h, if_neg (by rw [decide_eq_true_eq]; intro h2; have h3 : e.2.2 + P u = e.2.2 + j := h2; omega)]
    rw [h1]
    omega
/-- what is behind some rows -/
def kF (P : Nat → Nat) (s : Nat) (T : List Ent) : List Ent := T.flatMap (fun e => kidL P s e s 0)
theorem kF_cons {P : Nat → Nat} {s : Nat} (e : Ent) (T : List Ent) : kF P s (e :: T) = kidL P s e s 0 ++ kF P s T := rfl
theorem kidL_len3 {P : Nat → Nat} {x : Nat} {e : Ent} : ∀ (k u : Nat), u + k ≤ x → (kidL P x e k u).length = k := by
  intro k
  induction k with
  | zero => intro u _; rfl
  | succ k ih =>
    intro u hu
    rw [kidL, if_neg (by omega)]
    show (kidL P x e k (u + 1)).length + 1 = k + 1
    rw [ih (u + 1) (by omega)]
theorem cn_kF {P : Nat → Nat} {s p : Nat} (j : Nat) : ∀ (T : List Ent), (∀ e, e ∈ T → e.2.2 = p) → cn (p + j) (kF P s T) = bC P j s * T.length := by
  intro T
  induction T with
  | nil => intro _; rfl
  | cons e T ih =>
    intro h
    have he := h e List.mem_cons_self
    have hk := cn_kid (P := P) (x := s) (e := e) j s 0 (by omega)
    rw [he, Nat.zero_add, show bC P j 0 = 0 from rfl, Nat.zero_add] at hk
    rw [kF_cons, cn_app, hk, ih (fun z hz => h z (List.mem_cons_of_mem _ hz)), List.length_cons, Nat.mul_add, Nat.mul_one]
    omega
theorem kF_len {P : Nat → Nat} {s : Nat} : ∀ (T : List Ent), (kF P s T).length = s * T.length := by
  intro T
  induction T with
  | nil => rfl
  | cons e T ih =>
    rw [kF_cons, List.length_append, ih, kidL_len3 s 0 (by omega), List.length_cons, Nat.mul_add, Nat.mul_one]
    omega
theorem kF_mem {P : Nat → Nat} {s : Nat} {z : Ent} : ∀ (T : List Ent), z ∈ kF P s T → ∃ e v, e ∈ T ∧ v < s ∧ z = kd P e v := by
  intro T hz
  obtain ⟨e, he, hz⟩ := List.mem_flatMap.mp hz
  obtain ⟨v, -, b, -, r⟩ := kidL_mem s 0 hz
  exact ⟨e, v, he, by omega, r⟩
/-- the rows are in order, none longer than its level -/
def OkF (s : Nat) (S : List Ent) : Prop := OkL s 24 S ∧ ∀ e, e ∈ S → e.2.1 ≤ e.2.2 ∧ e.2.2 ≤ 30
theorem OkF.perm {s : Nat} {S T : List Ent} (h : OkF s S) (hp : S.Perm T) : OkF s T := ⟨h.1.perm hp, fun e he => h.2 e (hp.mem_iff.mpr he)⟩
theorem OkF.sub {s : Nat} {S T : List Ent} (h : OkF s T) (hp : S.Sublist T) : OkF s S := ⟨⟨h.1.1.sublist hp, fun e he => h.1.2 e (hp.subset he)⟩, fun e he => h.2 e (hp.subset he)⟩
theorem OkF.step {P : Nat → Nat} {s : Nat} (hs : s ≤ 4) (hP : ∀ u, u < s → 1 ≤ P u ∧ P u ≤ 3) {e : Ent} {S : List Ent} (he : e.2.2 ≤ 22) (h : OkF s (e :: S)) : OkF s (S ++ kidL P s e s 0) := by
  obtain ⟨⟨h1, h2⟩, h3⟩ := h
  obtain ⟨a1, a2⟩ := List.pairwise_cons.mp h1
  obtain ⟨e1, e2, e3⟩ := h2 e List.mem_cons_self
  obtain ⟨e4, e5⟩ := h3 e List.mem_cons_self
  refine ⟨⟨?_, fun z hz => ?_⟩, fun z hz => ?_⟩
  · rw [List.pairwise_append]
    refine ⟨a2, kidL_apt e1 (by omega) s 0 (by omega), fun p hp q hq => ?_⟩
    obtain ⟨v, -, b, -, rfl⟩ := kidL_mem s 0 hq
    exact apt_sym (apt_kd e1 (h2 p (List.mem_cons_of_mem _ hp)).1 (by omega) (by omega) (a1 p hp))
  · rcases List.mem_append.mp hz with hz | hz
    · exact h2 z (List.mem_cons_of_mem _ hz)
    · obtain ⟨v, -, b, -, rfl⟩ := kidL_mem s 0 hz
      have := hP v (by omega)
      refine ⟨Wv.add e1 (by omega) (by omega) hs, by show e.2.1 + 1 ≤ 24; omega, ?_⟩
      show e.2.2 + P v ≤ 9 * 24
      omega
  · rcases List.mem_append.mp hz with hz | hz
    · exact h3 z (List.mem_cons_of_mem _ hz)
    · obtain ⟨v, -, b, -, rfl⟩ := kidL_mem s 0 hz
      have := hP v (by omega)
      show e.2.1 + 1 ≤ e.2.2 + P v ∧ e.2.2 + P v ≤ 30
      omega
theorem OkF.steps {P : Nat → Nat} {s : Nat} (hs : s ≤ 4) (hP : ∀ u, u < s → 1 ≤ P u ∧ P u ≤ 3) : ∀ (T V : List Ent), (∀ e, e ∈ T → e.2.2 ≤ 22) → OkF s (T ++ V) → OkF s (V ++ kF P s T) := by
  intro T
  induction T with
  | nil => intro V _ h; rw [show kF P s [] = [] from rfl, List.append_nil]; exact h
  | cons e T ih =>
    intro V hT h
    have h1 := OkF.step hs hP (hT e List.mem_cons_self) (S := T ++ V) h
    rw [List.append_assoc] at h1
    have h2 := ih (V ++ kidL P s e s 0) (fun z hz => hT z (List.mem_cons_of_mem _ hz)) h1
    rw [List.append_assoc, ← kF_cons] at h2
    exact h2
theorem OkF.srt {s : Nat} {S K : List Ent} (h : SrtK S) (hO : OkF s (S ++ K)) : SrtK (insA K S) := insA_srt (Nat.le_refl _) K S h hO.1
