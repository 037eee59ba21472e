/-! FREE: the way, level by level -/
def lvT (p : Nat) (S : List Ent) : List Ent := S.filter (fun e => decide (e.2.2 = p))
def lvV (p : Nat) (S : List Ent) : List Ent := S.filter (fun e => decide (p < e.2.2))
theorem lv_perm {p : Nat} {S : List Ent} (h : ∀ e, e ∈ S → p ≤ e.2.2) : (lvT p S ++ lvV p S).Perm S := by
  have h1 : lvV p S = S.filter (fun e => !(decide (e.2.2 = p))) := by
    unfold lvV
    refine List.filter_congr (fun e he => ?_)
    have := h e he
    by_cases h2 : e.2.2 = p
    · rw [decide_eq_false (by omega), decide_eq_true h2]; rfl
    · rw [decide_eq_true (by omega), decide_eq_false h2]; rfl
  rw [h1]
  exact List.filter_append_perm _ _
theorem lvT_mem {p : Nat} {S : List Ent} {e : Ent} (h : e ∈ lvT p S) : e ∈ S ∧ e.2.2 = p := by
  have := List.mem_filter.mp h
  exact ⟨this.1, of_decide_eq_true this.2⟩
theorem lvV_mem {p : Nat} {S : List Ent} {e : Ent} (h : e ∈ lvV p S) : e ∈ S ∧ p < e.2.2 := by
  have := List.mem_filter.mp h
  exact ⟨this.1, of_decide_eq_true this.2⟩
theorem lvT_len (p : Nat) (S : List Ent) : (lvT p S).length = cn p S := by
  unfold cn lvT
  rw [List.countP_eq_length_filter]
def wd1 (e : Ent) : Nat × Nat := (e.1, e.2.1)
section Pa
variable (P : Nat → Nat) (s : Nat) (lc : Nat → Nat)
/-- the rows of the next level on -/
def nxL (p w : Nat) (S : List Ent) : List Ent := insA (lvV p S ++ kF P s ((lvT p S).drop w)) []
/-- the WORDS, in the order of the ranks -/
def fr : Nat → Nat → List Ent → Nat → Nat → Nat → Nat → List (Nat × Nat)
  | 0, p, S, _, _, _, R => ((lvT p S).take R).map wd1
  | d + 1, p, S, a, b, c, R => if R ≤ a then ((lvT p S).take R).map wd1 else
    ((lvT p S).take (chW (bC P 1 s) (bC P 2 s) (bC P 3 s) lc (d + 1) a b c R)).map wd1 ++
      fr d (p + 1) (nxL P s p (chW (bC P 1 s) (bC P 2 s) (bC P 3 s) lc (d + 1) a b c R) S)
        (min (R - chW (bC P 1 s) (bC P 2 s) (bC P 3 s) lc (d + 1) a b c R) (b + bC P 1 s * (a - chW (bC P 1 s) (bC P 2 s) (bC P 3 s) lc (d + 1) a b c R)))
        (min (R - chW (bC P 1 s) (bC P 2 s) (bC P 3 s) lc (d + 1) a b c R) (c + bC P 2 s * (a - chW (bC P 1 s) (bC P 2 s) (bC P 3 s) lc (d + 1) a b c R)))
        (min (R - chW (bC P 1 s) (bC P 2 s) (bC P 3 s) lc (d + 1) a b c R) (bC P 3 s * (a - chW (bC P 1 s) (bC P 2 s) (bC P 3 s) lc (d + 1) a b c R)))
        (R - chW (bC P 1 s) (bC P 2 s) (bC P 3 s) lc (d + 1) a b c R)
/-- what is told -/
def FrH (t : Nat) : Prop := 2 ≤ s ∧ s ≤ 4 ∧ (∀ u, u < s → 1 ≤ P u ∧ P u ≤ 3) ∧ t ≤ 24 ∧ ((bC P 1 s = s ∧ bC P 2 s = 0 ∧ bC P 3 s = 0) ∨ (t ≤ 8 ∧ bC P 3 s ≤ 3 ∧ (1 ≤ bC P 1 s ∨ (1 ≤ bC P 2 s ∧ 1 ≤ bC P 3 s)))) ∧ (∀ x y, x < y → lc x < lc y)
/-- what holds ahead of a level -/
def Pth (t d p : Nat) (S : List Ent) (a b c R : Nat) : Prop := SrtK S ∧ OkF s S ∧ (∀ e, e ∈ S → p ≤ e.2.2 ∧ e.2.2 ≤ p + 2) ∧ a = min R (cn p S) ∧ b = min R (cn (p + 1) S) ∧ c = min R (cn (p + 2) S) ∧
  Ends (bC P 1 s) (bC P 2 s) (bC P 3 s) (23 - p) a b c R ∧ gF (bC P 1 s) (bC P 2 s) (bC P 3 s) lc d a b c R < EV ∧ R ≤ t ∧ t - R + S.length ≤ 49 ∧ cn (p + 2) S ≤ 21 ∧ (bC P 1 s = s → bC P 3 s = 0 → bC P 2 s = 0 → cn (p + 1) S = 0 ∧ cn (p + 2) S = 0)
variable {P s lc}
theorem bC_lt {j : Nat} : ∀ n, bC P j n ≤ n := by
  intro n
  induction n with
  | zero => exact Nat.le_refl _
  | succ n ih => rw [bC]; split <;> omega
theorem pth_step {t d p : Nat} {S : List Ent} {a b c R : Nat} (hH : FrH P s lc t) (h : Pth P s lc t (d + 1) p S a b c R) (hR : ¬ R ≤ a) {w : Nat} (hw : w = chW (bC P 1 s) (bC P 2 s) (bC P 3 s) lc (d + 1) a b c R) :
    w ≤ a ∧ p ≤ 22 ∧ (lvT p S).length = a ∧ OkF s (lvV p S ++ kF P s ((lvT p S).drop w)) ∧ t - (R - w) + (lvV p S ++ kF P s ((lvT p S).drop w)).length ≤ 49 ∧ Pth P s lc t d (p + 1) (nxL P s p w S) (min (R - w) (b + bC P 1 s * (a - w))) (min (R - w) (c + bC P 2 s * (a - w))) (min (R - w) (bC P 3 s * (a - w))) (R - w) := by
  obtain ⟨hs2, hs4, hP, ht, hL, hlc⟩ := hH
  obtain ⟨h1, h2, h3, h4, h5, h6, h7, h8, h9, h10, h11, h12⟩ := h
  obtain ⟨k1, k2⟩ := chW_ok _ _ _ lc hR h8
  have hopt := fun w0 => chW_opt (bC P 1 s) (bC P 2 s) (bC P 3 s) lc hlc (d := d) (a := a) (b := b) (c := c) (R := R) (w0 := w0) hR h8
  rw [← hw] at k1 k2 hopt
  have hT : (lvT p S).length = a := by rw [lvT_len]; omega
  have hE : ∃ k, 23 - p = k + 1 ∧ Ends (bC P 1 s) (bC P 2 s) (bC P 3 s) k (b + bC P 1 s * (a - w)) (c + bC P 2 s * (a - w)) (bC P 3 s * (a - w)) (R - w) := by
    have hd : ¬ (a = 0 ∧ b = 0 ∧ c = 0) := by
      rintro ⟨rfl, rfl, rfl⟩
      rw [gF_dead _ _ _ lc _ _ (by omega)] at h8
      exact Nat.lt_irrefl _ h8
    cases hk : 23 - p with
    | zero =>
      rw [hk] at h7
      rcases h7 with q | q
      · exact absurd q hR
      · exact absurd q hd
    | succ k =>
      rw [hk] at h7
      rcases h7 with q | q | q
      · exact absurd q hR
      · exact absurd q hd
      · exact ⟨k, rfl, q w k1⟩
  obtain ⟨k, hk, hEk⟩ := hE
  have hp22 : p ≤ 22 := by omega
  have hpm : (lvT p S ++ lvV p S).Perm S := lv_perm (fun e he => (h3 e he).1)
  have hsub : ((lvT p S).drop w ++ lvV p S).Sublist (lvT p S ++ lvV p S) := (List.drop_sublist w (lvT p S)).append_right _
  have hO1 : OkF s ((lvT p S).drop w ++ lvV p S) := (h2.perm hpm.symm).sub hsub
  have hTl : ∀ e, e ∈ (lvT p S).drop w → e.2.2 = p := fun e he => (lvT_mem ((List.drop_sublist _ _).subset he)).2
  have hO2 : OkF s (lvV p S ++ kF P s ((lvT p S).drop w)) := OkF.steps hs4 hP _ _ (fun e he => by rw [hTl e he]; exact hp22) hO1
  have hnp : (nxL P s p w S).Perm (lvV p S ++ kF P s ((lvT p S).drop w)) := by
    have := insA_perm (lvV p S ++ kF P s ((lvT p S).drop w)) []
    rw [List.nil_append] at this
    exact this
  have hdl : ((lvT p S).drop w).length = a - w := by rw [List.length_drop, hT]
  have hcV : ∀ l, l ≠ p → cn l (lvV p S) = cn l S := fun l hl => by
    rw [← cn_perm hpm, cn_app, cn_0 (S := lvT p S) (fun e he => by rw [(lvT_mem he).2]; omega), Nat.zero_add]
  have c1 : cn (p + 1) (nxL P s p w S) = cn (p + 1) S + bC P 1 s * (a - w) := by
    rw [cn_perm hnp, cn_app, hcV _ (by omega), cn_kF 1 _ hTl, hdl]
  have c2 : cn (p + 1 + 1) (nxL P s p w S) = cn (p + 2) S + bC P 2 s * (a - w) := by
    rw [show p + 1 + 1 = p + 2 from rfl, cn_perm hnp, cn_app, hcV _ (by omega), cn_kF 2 _ hTl, hdl]
  have c3 : cn (p + 1 + 2) (nxL P s p w S) = bC P 3 s * (a - w) := by
    rw [show p + 1 + 2 = p + 3 from rfl, cn_perm hnp, cn_app, hcV _ (by omega), cn_kF 3 _ hTl, hdl, cn_0 (S := S) (fun e he => by have := h3 e he; omega), Nat.zero_add]
  have hSl : S.length = a + (lvV p S).length := by rw [← hpm.length_eq, List.length_append, hT]
  have hVl : (lvV p S).length = cn (p + 1) S + cn (p + 2) S := by
    have : ∀ (V : List Ent), (∀ e, e ∈ V → e.2.2 = p + 1 ∨ e.2.2 = p + 2) → V.length = cn (p + 1) V + cn (p + 2) V := by
      intro V
      induction V with
      | nil => intro _; rfl
      | cons e V ih =>
        intro he
        have hi := ih (fun z hz => he z (List.mem_cons_of_mem _ hz))
        rw [show e :: V = [e] ++ V from rfl, cn_app, cn_app, List.length_append, hi]
        have hs1 : ∀ l, cn l [e] = if e.2.2 = l then 1 else 0 := fun l => by
          unfold cn
          rw [List.countP_singleton]
          by_cases q : e.2.2 = l
          · rw [if_pos q, if_pos (decide_eq_true q)]
          · rw [if_neg q, if_neg (by rw [decide_eq_true_eq]; exact q)]
        rw [hs1, hs1]
        rcases he e List.mem_cons_self with q | q
        · rw [if_pos q, if_neg (by omega)]; show 1 + _ = _; omega
        · rw [if_neg (by omega), if_pos q]; show 1 + _ = _; omega
    rw [this _ (fun e he => by have := lvV_mem he; have := h3 e this.1; omega), hcV _ (by omega), hcV _ (by omega)]
  have hnl : (lvV p S ++ kF P s ((lvT p S).drop w)).length = (lvV p S).length + s * (a - w) := by rw [List.length_append, kF_len, hdl]
  have hlen : t - (R - w) + ((lvV p S).length + s * (a - w)) ≤ 49 := by
    by_cases hm : w = a
    · rw [hm, Nat.sub_self, Nat.mul_zero]; omega
    · rcases hL with ⟨l1, l2, l3⟩ | ⟨l1, l2, -⟩
      · obtain ⟨z1, z2⟩ := h12 l1 l3 l2
        have hn : ¬ R - (w + 1) ≤ b + bC P 1 s * (a - (w + 1)) := fun q => by have := hopt (w + 1) (by omega) q; omega
        rw [l1] at hn
        have : s * (a - w) = s * (a - (w + 1)) + s := by rw [show a - w = a - (w + 1) + 1 by omega, Nat.mul_add, Nat.mul_one]
        omega
      · have hn : ¬ R - a ≤ b + bC P 1 s * (a - a) := fun q => by have := hopt a (by omega) q; omega
        rw [Nat.sub_self, Nat.mul_zero] at hn
        have : s * (a - w) ≤ 4 * (a - w) := Nat.mul_le_mul_right _ hs4
        omega
  have hG : gF (bC P 1 s) (bC P 2 s) (bC P 3 s) lc d (b + bC P 1 s * (a - w)) (c + bC P 2 s * (a - w)) (bC P 3 s * (a - w)) (R - w) < EV := by
    rw [← k2] at h8
    unfold cwF adE at h8
    have := gF_le (bC P 1 s) (bC P 2 s) (bC P 3 s) lc d (b + bC P 1 s * (a - w)) (c + bC P 2 s * (a - w)) (bC P 3 s * (a - w)) (R - w)
    omega
  refine ⟨k1, hp22, hT, hO2, by rw [hnl]; exact hlen, ?_⟩
  have hO3 : OkF s (nxL P s p w S) := hO2.perm hnp.symm
  refine ⟨OkF.srt List.Pairwise.nil (by rw [List.nil_append]; exact hO2), hO3, ?_, ?_, ?_, ?_, ?_, ?_, by omega, ?_, ?_, ?_⟩
  · intro e he
    rcases List.mem_append.mp (hnp.mem_iff.mp he) with he | he
    · have q1 := lvV_mem he
      have q2 := h3 e q1.1
      omega
    · obtain ⟨e0, v, q1, q2, rfl⟩ := kF_mem _ he
      have q3 := hTl e0 q1
      have q4 := hP v q2
      show p + 1 ≤ e0.2.2 + P v ∧ e0.2.2 + P v ≤ p + 1 + 2
      omega
  · rw [c1]; omega
  · rw [c2]; omega
  · rw [c3]
  · rw [show 23 - (p + 1) = k by omega]
    exact ends_cap k _ _ _ _ _ _ _ (by omega) (by omega) (by omega) hEk
  · rw [gF_cap (bC P 1 s) (bC P 2 s) (bC P 3 s) lc d _ _ _ (b + bC P 1 s * (a - w)) (c + bC P 2 s * (a - w)) (bC P 3 s * (a - w)) (R - w) (by omega) (by omega) (by omega)]
    exact hG
  · rw [hnp.length_eq, hnl]; exact hlen
  · rw [c3]
    rcases hL with ⟨l1, l2, l3⟩ | ⟨l1, l2, -⟩
    · rw [l3, Nat.zero_mul]; omega
    · have : bC P 3 s * (a - w) ≤ 3 * (a - w) := Nat.mul_le_mul_right _ l2
      omega
  · intro l1 l3 l2
    rw [c2, c3, l2, l3, Nat.zero_mul]
    obtain ⟨z1, z2⟩ := h12 l1 l3 l2
    rw [z2]
    exact ⟨rfl, rfl⟩
theorem fr_ok {t : Nat} (hH : FrH P s lc t) : ∀ (d p : Nat) (S : List Ent) (a b c R : Nat), Pth P s lc t d p S a b c R → (fr P s lc d p S a b c R).length = R ∧ ∀ w, w ∈ fr P s lc d p S a b c R → Wv s w := by
  have last : ∀ (d p : Nat) (S : List Ent) (a b c R k : Nat), Pth P s lc t d p S a b c R → k ≤ a → (((lvT p S).take k).map wd1).length = k ∧ ∀ w, w ∈ ((lvT p S).take k).map wd1 → Wv s w := by
    intro d p S a b c R k h hk
    obtain ⟨h1, h2, h3, h4, -⟩ := h
    refine ⟨by rw [List.length_map, List.length_take, lvT_len]; omega, fun w hw => ?_⟩
    obtain ⟨e, he, rfl⟩ := List.mem_map.mp hw
    exact (h2.1.2 e (lvT_mem ((List.take_sublist _ _).subset he)).1).1
  intro d
  induction d with
  | zero =>
    intro p S a b c R h
    have hR : R ≤ a := by
      have := h.2.2.2.2.2.2.2.1
      rw [gF] at this
      by_cases q : R ≤ a
      · exact q
      · rw [if_neg q] at this; exact absurd this (Nat.lt_irrefl _)
    exact last 0 p S a b c R R h hR
  | succ d ih =>
    intro p S a b c R h
    rw [fr]
    by_cases hR : R ≤ a
    · rw [if_pos hR]
      exact last (d + 1) p S a b c R R h hR
    · rw [if_neg hR]
      generalize hw : chW (bC P 1 s) (bC P 2 s) (bC P 3 s) lc (d + 1) a b c R = w
      obtain ⟨k1, k2, k3, -, -, k4⟩ := pth_step hH h hR hw.symm
      obtain ⟨i1, i2⟩ := ih _ _ _ _ _ _ k4
      obtain ⟨l1, l2⟩ := last (d + 1) p S a b c R w h k1
      refine ⟨by rw [List.length_append, l1, i1]; omega, fun x hx => ?_⟩
      rcases List.mem_append.mp hx with hx | hx
      · exact l2 x hx
      · exact i2 x hx
end Pa
