/-! rows apart, and what is behind them -/
def apt (a b : Ent) : Prop := ¬ (min a.2.1 b.2.1 ≤ al (a.1 ^^^ b.1))
theorem apt_sym {a b : Ent} (h : apt a b) : apt b a := by
  unfold apt at *
  rw [Nat.xor_comm, Nat.min_comm]
  exact h
def kd (P : Nat → Nat) (e : Ent) (u : Nat) : Ent := (e.1 + u * 4 ^ (23 - e.2.1), e.2.1 + 1, e.2.2 + P u)
/-- an entry of signs below s -/
def EnW (s : Nat) (e : Ent) : Prop := Wv s (e.1, e.2.1)
theorem ct_low {r u n c : Nat} (hn : n < 24) (hz : rz r n) (hu : u < 4) (hc : c ≤ n) : ct (r + u * 4 ^ (23 - n)) c = ct r c := by
  have h1 := ct_add hn hz hu
  rw [← ct_ct hc (show n ≤ 24 by omega), h1]
theorem apt_kd {P : Nat → Nat} {s : Nat} {e z : Ent} {u : Nat} (he : EnW s e) (hz : EnW s z) (hn : e.2.1 ≤ 23) (hu : u < 4) (h : apt e z) : apt (kd P e u) z := by
  unfold apt at *
  intro hc
  apply h
  obtain ⟨e1, e2, e3, -⟩ := he
  obtain ⟨z1, z2, -, -⟩ := hz
  have e1 : e.1 < 4 ^ 24 := e1
  have z1 : z.1 < 4 ^ 24 := z1
  have z2 : z.2.1 ≤ 24 := z2
  have e3 : rz e.1 e.2.1 := e3
  obtain ⟨k1, k2⟩ := chd_rz (u := u) e1 e3 hn hu
  have hc : min (e.2.1 + 1) z.2.1 ≤ al ((e.1 + u * 4 ^ (23 - e.2.1)) ^^^ z.1) := hc
  have hc2 : min e.2.1 z.2.1 ≤ al ((e.1 + u * 4 ^ (23 - e.2.1)) ^^^ z.1) := by omega
  rw [al_iff k1 z1 (by omega), ← ct_eq_iff, ct_low (by omega) e3 hu (by omega)] at hc2
  rw [al_iff e1 z1 (by omega), ← ct_eq_iff]
  exact hc2
theorem kd_apt {P : Nat → Nat} {s : Nat} {e : Ent} {u v : Nat} (he : EnW s e) (hn : e.2.1 ≤ 23) (hu : u < 4) (hv : v < 4) (huv : u ≠ v) : apt (kd P e u) (kd P e v) := by
  unfold apt
  intro hc
  obtain ⟨e1, e2, e3, -⟩ := he
  have e1 : e.1 < 4 ^ 24 := e1
  have e3 : rz e.1 e.2.1 := e3
  obtain ⟨k1, k2⟩ := chd_rz (u := u) e1 e3 hn hu
  obtain ⟨l1, l2⟩ := chd_rz (u := v) e1 e3 hn hv
  have hc : min (e.2.1 + 1) (e.2.1 + 1) ≤ al ((e.1 + u * 4 ^ (23 - e.2.1)) ^^^ (e.1 + v * 4 ^ (23 - e.2.1))) := hc
  rw [Nat.min_self, al_iff k1 l1 (by omega), ← ct_eq_iff, ct_all k2, ct_all l2] at hc
  exact huv (Nat.eq_of_mul_eq_mul_right (Nat.pow_pos (by decide)) (Nat.add_left_cancel hc))
theorem apt_row {a b : Ent} (ha : a.2.1 ≤ 24) (h : apt a b) : a.1 ≠ b.1 := by
  intro e
  apply h
  rw [e, Nat.xor_self]
  show min a.2.1 b.2.1 ≤ 24
  omega
theorem apt_ky {a b : Ent} (ha : EnS a) (hb : EnS b) (h : apt a b) : ky a ≠ ky b := by
  intro e
  have h1 := apt_row ha.2.1 h
  rcases Nat.lt_or_ge a.1 b.1 with q | q
  · have r1 : ¬ ky a < ky b := by omega
    have r2 : ¬ ky b < ky a := by omega
    rw [ky_lt ha hb] at r1
    rw [ky_lt hb ha] at r2
    omega
  · have r1 : ¬ ky a < ky b := by omega
    have r2 : ¬ ky b < ky a := by omega
    rw [ky_lt ha hb] at r1
    rw [ky_lt hb ha] at r2
    omega
def insA : List Ent → List Ent → List Ent
  | [], S => S
  | y :: K, S => insA K (insS y S)
theorem insA_perm : ∀ (K S : List Ent), (insA K S).Perm (S ++ K) := by
  intro K
  induction K with
  | nil => intro S; rw [List.append_nil]; exact List.Perm.refl _
  | cons y K ih =>
    intro S
    refine (ih (insS y S)).trans ?_
    refine ((insS_perm y S).append_right K).trans ?_
    exact (List.perm_middle (a := y) (l₁ := S) (l₂ := K)).symm
theorem insA_len (K S : List Ent) : (insA K S).length = S.length + K.length := by rw [(insA_perm K S).length_eq, List.length_append]
/-- the OPEN ROWS are in order -/
def OkL (s d : Nat) (S : List Ent) : Prop := S.Pairwise apt ∧ ∀ e, e ∈ S → EnW s e ∧ e.2.1 ≤ d ∧ e.2.2 ≤ 9 * d
theorem OkL.ens {s d : Nat} {S : List Ent} (h : OkL s d S) (hd : d ≤ 24) : ∀ e, e ∈ S → EnS e := fun e he => by
  obtain ⟨h1, h2, h3⟩ := h.2 e he
  exact ⟨h1.1, by omega, by omega⟩
theorem OkL.perm {s d : Nat} {S T : List Ent} (h : OkL s d S) (hp : S.Perm T) : OkL s d T := ⟨(hp.pairwise_iff (fun {a b} h => apt_sym h)).mp h.1, fun e he => h.2 e (hp.mem_iff.mpr he)⟩
theorem OkL.mono {s d d' : Nat} {S : List Ent} (h : OkL s d S) (hd : d ≤ d') : OkL s d' S := ⟨h.1, fun e he => by obtain ⟨h1, h2, h3⟩ := h.2 e he; exact ⟨h1, by omega, by omega⟩⟩
theorem OkL.key {s d : Nat} {S : List Ent} (h : OkL s d S) (hd : d ≤ 24) : S.Pairwise (fun a b => ky a ≠ ky b) := by
  have h1 := h.1
  have h2 := h.ens hd
  exact List.Pairwise.imp_of_mem (fun {a b} ha hb hab => apt_ky (h2 a ha) (h2 b hb) hab) h1
theorem insA_srt {s d : Nat} (hd : d ≤ 24) : ∀ (K S : List Ent), SrtK S → OkL s d (S ++ K) → SrtK (insA K S) := by
  intro K
  induction K with
  | nil => intro S h _; exact h
  | cons y K ih =>
    intro S h hO
    have hp : (S ++ y :: K).Perm (insS y S ++ K) := (List.perm_middle (a := y) (l₁ := S) (l₂ := K)).trans (((insS_perm y S).symm).append_right K)
    refine ih (insS y S) (insS_sort h (fun z hz => ?_)) (hO.perm hp)
    have hk := hO.key hd
    rw [List.pairwise_append] at hk
    exact hk.2.2 z hz y List.mem_cons_self
/-- what a list of signs brings behind e -/
def kidL (P : Nat → Nat) (x : Nat) (e : Ent) : Nat → Nat → List Ent
  | 0, _ => []
  | k + 1, u => if u = x then kidL P x e k (u + 1) else kd P e u :: kidL P x e k (u + 1)
theorem kidL_mem {P : Nat → Nat} {x : Nat} {e z : Ent} : ∀ (k u : Nat), z ∈ kidL P x e k u → ∃ v, u ≤ v ∧ v < u + k ∧ v ≠ x ∧ z = kd P e v := by
  intro k
  induction k with
  | zero => intro u h; cases h
  | succ k ih =>
    intro u h
    rw [kidL] at h
    by_cases hx : u = x
    · rw [if_pos hx] at h
      obtain ⟨v, a, b, c⟩ := ih (u + 1) h
      exact ⟨v, by omega, by omega, c⟩
    · rw [if_neg hx] at h
      rcases List.mem_cons.mp h with rfl | h
      · exact ⟨u, Nat.le_refl _, by omega, hx, rfl⟩
      · obtain ⟨v, a, b, c⟩ := ih (u + 1) h
        exact ⟨v, by omega, by omega, c⟩
theorem kidL_len {P : Nat → Nat} {x : Nat} {e : Ent} : ∀ (k u : Nat), (kidL P x e k u).length ≤ k := by
  intro k
  induction k with
  | zero => intro u; exact Nat.le_refl _
  | succ k ih =>
    intro u
    rw [kidL]
    have := ih (u + 1)
    by_cases hx : u = x
    · rw [if_pos hx]; omega
    · rw [if_neg hx]; show (kidL P x e k (u + 1)).length + 1 ≤ k + 1; omega
theorem kidL_len2 {P : Nat → Nat} {x : Nat} {e : Ent} : ∀ (k u : Nat), u ≤ x → x < u + k → (kidL P x e k u).length + 1 = k := by
  intro k
  induction k with
  | zero => intro u _ _; omega
  | succ k ih =>
    intro u h1 h2
    rw [kidL]
    by_cases hx : u = x
    · rw [if_pos hx]
      have : ∀ (k u : Nat), x < u → (kidL P x e k u).length = k := by
        intro k
        induction k with
        | zero => intro u _; rfl
        | succ k ih2 =>
          intro u hu
          rw [kidL, if_neg (by omega)]
          show (kidL P x e k (u + 1)).length + 1 = k + 1
          rw [ih2 (u + 1) (by omega)]
      rw [this k (u + 1) (by omega)]
    · rw [if_neg hx]
      show (kidL P x e k (u + 1)).length + 1 + 1 = k + 1
      rw [ih (u + 1) (by omega) (by omega)]
theorem kidL_apt {P : Nat → Nat} {s x : Nat} {e : Ent} (he : EnW s e) (hn : e.2.1 ≤ 23) : ∀ (k u : Nat), u + k ≤ 4 → (kidL P x e k u).Pairwise apt := by
  intro k
  induction k with
  | zero => intro u _; exact List.Pairwise.nil
  | succ k ih =>
    intro u hu
    rw [kidL]
    by_cases hx : u = x
    · rw [if_pos hx]; exact ih (u + 1) (by omega)
    · rw [if_neg hx]
      refine List.pairwise_cons.mpr ⟨fun z hz => ?_, ih (u + 1) (by omega)⟩
      obtain ⟨v, a, b, -, rfl⟩ := kidL_mem k (u + 1) hz
      exact kd_apt he hn (by omega) (by omega) (by omega)
/-- one entry is replaced by what is behind it -/
theorem OkL.step {P : Nat → Nat} {s x d : Nat} (hs : s ≤ 4) (hP : ∀ u, u < s → P u ≤ 9) (hd : d ≤ 23) {e : Ent} {S : List Ent} (h : OkL s d (e :: S)) : OkL s (d + 1) (S ++ kidL P x e s 0) := by
  obtain ⟨h1, h2⟩ := h
  obtain ⟨a1, a2⟩ := List.pairwise_cons.mp h1
  obtain ⟨e1, e2, e3⟩ := h2 e List.mem_cons_self
  refine ⟨?_, fun z hz => ?_⟩
  · rw [List.pairwise_append]
    refine ⟨a2, kidL_apt e1 (by omega) s 0 (by omega), fun p hp q hq => ?_⟩
    obtain ⟨v, -, b, -, rfl⟩ := kidL_mem s 0 hq
    exact apt_sym (apt_kd e1 (h2 p (List.mem_cons_of_mem _ hp)).1 (by omega) (by omega) (a1 p hp))
  · rcases List.mem_append.mp hz with hz | hz
    · obtain ⟨z1, z2, z3⟩ := h2 z (List.mem_cons_of_mem _ hz)
      exact ⟨z1, by omega, by omega⟩
    · obtain ⟨v, -, b, -, rfl⟩ := kidL_mem s 0 hz
      refine ⟨Wv.add e1 (by omega) (by omega) hs, by show e.2.1 + 1 ≤ d + 1; omega, ?_⟩
      show e.2.2 + P v ≤ 9 * (d + 1)
      have := hP v (by omega)
      omega
/-- the OPEN ROWS ahead of the word number r -/
def stE (P : Nat → Nat) (s x : Nat) : Nat → List Ent
  | 0 => [(0, 0, 0)]
  | r + 1 => match stE P s x r with
    | [] => []
    | e :: S => insA (kidL P x e s 0) S
theorem stE_ok {P : Nat → Nat} {s x : Nat} (hs2 : 2 ≤ s) (hs : s ≤ 4) (hx : x < s) (hP : ∀ u, u < s → P u ≤ 9) : ∀ r, r ≤ 24 → SrtK (stE P s x r) ∧ OkL s r (stE P s x r) ∧ (stE P s x r).length = 1 + r * (s - 2) := by
  intro r
  induction r with
  | zero =>
    intro _
    refine ⟨List.pairwise_singleton _ _, ⟨List.pairwise_singleton _ _, fun e he => ?_⟩, by rw [Nat.zero_mul]; rfl⟩
    rw [stE, List.mem_singleton] at he
    subst he
    exact ⟨Wv0 s, Nat.le_refl _, Nat.le_refl _⟩
  | succ r ih =>
    intro hr
    obtain ⟨i1, i2, i3⟩ := ih (by omega)
    rw [stE]
    cases hS : stE P s x r with
    | nil => rw [hS] at i3; have : ([] : List Ent).length = 0 := rfl; omega
    | cons e S =>
      rw [hS] at i1 i2 i3
      dsimp only
      have hst := i2.step (x := x) hs hP (by omega)
      refine ⟨insA_srt (s := s) (d := r + 1) (by omega) _ _ (List.pairwise_cons.mp i1).2 hst, hst.perm (insA_perm _ _).symm, ?_⟩
      have hl := kidL_len2 (P := P) (e := e) s 0 (Nat.zero_le x) (by omega)
      have hc : (e :: S).length = S.length + 1 := rfl
      rw [insA_len, Nat.add_mul, Nat.one_mul]
      omega
