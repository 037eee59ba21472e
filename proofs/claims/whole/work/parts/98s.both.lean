/-! FREE: there is a code, and both sides lay the same -/
section Fe
variable {b1 b2 b3 : Nat} {lc : Nat → Nat}
theorem gF_by (hlc : ∀ x y, x ≤ y → lc x ≤ lc y) {d a b c R w : Nat} (hw : w ≤ a) (h : gF b1 b2 b3 lc d (b + b1 * (a - w)) (c + b2 * (a - w)) (b3 * (a - w)) (R - w) ≤ d * lc R) : gF b1 b2 b3 lc (d + 1) a b c R ≤ (d + 1) * lc R := by
  by_cases hR : R ≤ a
  · rw [gF_0 b1 b2 b3 lc hR]; exact Nat.zero_le _
  · refine Nat.le_trans (cw_ge (w := w) b1 b2 b3 lc hR hw) ?_
    unfold cwF adE
    have h1 := hlc (R - w) R (by omega)
    rw [Nat.add_mul, Nat.one_mul]
    omega
theorem gF_three (hlc : ∀ x y, x ≤ y → lc x ≤ lc y) {d a b c R : Nat} (hd : 2 ≤ d) (h : R ≤ a + b + c) : gF b1 b2 b3 lc d a b c R ≤ d * lc R := by
  obtain ⟨d, rfl⟩ : ∃ j, d = j + 2 := ⟨d - 2, by omega⟩
  refine gF_by hlc (Nat.le_refl a) ?_
  simp only [Nat.sub_self, Nat.mul_zero, Nat.add_zero]
  have h1 := hlc (R - a) R (by omega)
  refine Nat.le_trans (gF_by hlc (Nat.le_refl b) ?_) (Nat.mul_le_mul_left _ h1)
  simp only [Nat.sub_self, Nat.mul_zero, Nat.add_zero]
  rw [gF_0 b1 b2 b3 lc (show R - a - b ≤ c by omega)]
  exact Nat.zero_le _
theorem gF_like {s : Nat} (hs : 2 ≤ s) (hlc : ∀ x y, x ≤ y → lc x ≤ lc y) : ∀ (d a R : Nat), 0 < a → R ≤ a + d → gF s 0 0 lc d a 0 0 R ≤ d * lc R := by
  intro d
  induction d with
  | zero => intro a R _ h; rw [gF_0 s 0 0 lc (show R ≤ a by omega)]; exact Nat.zero_le _
  | succ d ih =>
    intro a R ha h
    refine gF_by hlc (Nat.zero_le a) ?_
    rw [Nat.zero_mul, Nat.add_zero, Nat.zero_add, Nat.sub_zero, Nat.sub_zero]
    have : 2 * a ≤ s * a := Nat.mul_le_mul_right _ hs
    exact ih (s * a) R (by omega) (by omega)
theorem gF_unl (hs : 2 ≤ b1 + b2 + b3) (hlc : ∀ x y, x ≤ y → lc x ≤ lc y) : ∀ (d e a b c R : Nat), R ≤ a + b + c + e → (0 < a ∧ 3 * e + 2 ≤ d) ∨ (0 < b ∧ 3 * e + 3 ≤ d) ∨ (0 < c ∧ 3 * e + 4 ≤ d) → gF b1 b2 b3 lc d a b c R ≤ d * lc R := by
  intro d
  induction d with
  | zero => intro e a b c R _ h; omega
  | succ d ih =>
    intro e a b c R h hp
    by_cases he : e = 0
    · exact gF_three hlc (by omega) (by omega)
    · refine gF_by hlc (Nat.zero_le a) ?_
      rw [Nat.sub_zero, Nat.sub_zero]
      have grow : 2 * a ≤ b1 * a + b2 * a + b3 * a := by
        have := Nat.mul_le_mul_right a hs
        rw [Nat.add_mul, Nat.add_mul] at this
        exact this
      rcases hp with ⟨h1, h2⟩ | ⟨h1, h2⟩ | ⟨h1, h2⟩
      · exact ih (e - 1) _ _ _ _ (by omega) (by omega)
      · exact ih e _ _ _ _ (by omega) (Or.inl ⟨by omega, by omega⟩)
      · exact ih e _ _ _ _ (by omega) (Or.inr (Or.inl ⟨by omega, by omega⟩))
end Fe
/-- where no bound is told there is always a code -/
theorem free_is {P : Nat → Nat} {s t : Nat} {lc : Nat → Nat} {d : Nat} (hF : FrH P s lc t) (ht0 : 0 < t) (hlt : lc t ≤ 24000000) (hd : 22 ≤ d) (hd2 : d ≤ 40) : gF (bC P 1 s) (bC P 2 s) (bC P 3 s) lc d (min t (bC P 1 s)) (min t (bC P 2 s)) (min t (bC P 3 s)) t < EV := by
  obtain ⟨hs2, hs4, hP, ht, hL, hlc⟩ := hF
  have hm : ∀ x y, x ≤ y → lc x ≤ lc y := fun x y h => by
    rcases Nat.lt_or_ge x y with q | q
    · exact Nat.le_of_lt (hlc x y q)
    · rw [show x = y by omega]; exact Nat.le_refl _
  have hsum := bC_sum (P := P) s hP
  have key : gF (bC P 1 s) (bC P 2 s) (bC P 3 s) lc d (min t (bC P 1 s)) (min t (bC P 2 s)) (min t (bC P 3 s)) t ≤ d * lc t := by
    rcases hL with ⟨q1, q2, q3⟩ | ⟨q1, q2, q3⟩
    · rw [q1, q2, q3, Nat.min_zero]
      exact gF_like hs2 hm d _ _ (by omega) (by omega)
    · exact gF_unl (by omega) hm d (t - (min t (bC P 1 s) + min t (bC P 2 s) + min t (bC P 3 s))) _ _ _ _ (by omega) (by omega)
  have h1 : d * lc t ≤ 40 * 24000000 := Nat.mul_le_mul hd2 hlt
  unfold EV
  omega
theorem fr_pos {P : Nat → Nat} {s : Nat} {lc : Nat → Nat} : ∀ (d p : Nat) (S : List Ent) (a b c R : Nat), (∀ e, e ∈ S → 1 ≤ e.2.1) → ∀ w, w ∈ fr P s lc d p S a b c R → 1 ≤ w.2 := by
  have last : ∀ (p k : Nat) (S : List Ent), (∀ e, e ∈ S → 1 ≤ e.2.1) → ∀ w, w ∈ ((lvT p S).take k).map wd1 → 1 ≤ w.2 := by
    intro p k S h w hw
    obtain ⟨e, he, rfl⟩ := List.mem_map.mp hw
    exact h e (lvT_mem ((List.take_sublist _ _).subset he)).1
  intro d
  induction d with
  | zero => intro p S a b c R h; rw [fr]; exact last p R S h
  | succ d ih =>
    intro p S a b c R h
    rw [fr]
    by_cases hR : R ≤ a
    · rw [if_pos hR]; exact last p R S h
    · rw [if_neg hR]
      intro w hw
      rcases List.mem_append.mp hw with hw | hw
      · exact last _ _ _ h w hw
      · refine ih _ _ _ _ _ _ (fun e he => ?_) w hw
        unfold nxL at he
        have he2 := (insA_perm _ _).mem_iff.mp he
        rw [List.nil_append] at he2
        rcases List.mem_append.mp he2 with he2 | he2
        · exact h e (lvV_mem he2).1
        · obtain ⟨e', v, h1, h2, rfl⟩ := kF_mem _ he2
          show 1 ≤ e'.2.1 + 1
          omega
theorem St1_pos {P : Nat → Nat} {s : Nat} : ∀ e, e ∈ St1 P s → 1 ≤ e.2.1 := by
  intro e he
  unfold St1 at he
  have he2 := (insA_perm _ _).mem_iff.mp he
  rw [List.nil_append] at he2
  obtain ⟨v, h1, h2, h3, rfl⟩ := kidL_mem _ _ he2
  show 1 ≤ 0 + 1
  omega
/-- the words are none the beginning of another -/
def aptW (x y : Nat × Nat) : Prop := ¬ (min x.2 y.2 ≤ al (x.1 ^^^ y.1))
theorem fr_apt {P : Nat → Nat} {s : Nat} {lc : Nat → Nat} {t : Nat} (hH : FrH P s lc t) : ∀ (d p : Nat) (S : List Ent) (a b c R : Nat) (D : List Ent), Pth P s lc t d p S a b c R → OkF s (D ++ S) → (D.map wd1 ++ fr P s lc d p S a b c R).Pairwise aptW := by
  have last : ∀ (p k : Nat) (S D : List Ent), OkF s (D ++ S) → (D.map wd1 ++ ((lvT p S).take k).map wd1).Pairwise aptW := by
    intro p k S D h
    rw [← List.map_append, List.pairwise_map]
    exact h.1.1.sublist (List.Sublist.append (List.Sublist.refl D) ((List.take_sublist _ _).trans List.filter_sublist))
  intro d
  induction d with
  | zero => intro p S a b c R D _ h; rw [fr]; exact last p R S D h
  | succ d ih =>
    intro p S a b c R D hp h
    rw [fr]
    by_cases hR : R ≤ a
    · rw [if_pos hR]; exact last p R S D h
    · rw [if_neg hR]
      generalize hw : chW (bC P 1 s) (bC P 2 s) (bC P 3 s) lc (d + 1) a b c R = w
      obtain ⟨k1, k2, k3, -, -, k4⟩ := pth_step hH hp hR hw.symm
      have hS : (lvT p S ++ lvV p S).Perm S := lv_perm (fun e he => (hp.2.2.1 e he).1)
      have e1 : (D ++ S).Perm ((lvT p S).drop w ++ (D ++ (lvT p S).take w ++ lvV p S)) := by
        refine ((List.Perm.refl D).append hS.symm).trans ?_
        have e2 : (lvT p S ++ lvV p S) = (lvT p S).take w ++ ((lvT p S).drop w ++ lvV p S) := by rw [← List.append_assoc, List.take_append_drop]
        rw [e2, ← List.append_assoc, ← List.append_assoc, ← List.append_assoc]
        refine List.Perm.append_right (lvV p S) ?_
        have e3 : (D ++ (lvT p S).take w ++ (lvT p S).drop w).Perm ((lvT p S).drop w ++ (D ++ (lvT p S).take w)) := List.perm_append_comm
        simp only [List.append_assoc] at e3 ⊢
        exact e3
      have e3 := OkF.steps hH.2.1 hH.2.2.1 _ _ (fun e he => by
        have := (lvT_mem ((List.drop_sublist _ _).subset he)).2
        omega) (h.perm e1)
      have e4 : OkF s ((D ++ (lvT p S).take w) ++ nxL P s p w S) := by
        refine e3.perm ?_
        rw [List.append_assoc]
        refine (List.Perm.refl _).append ?_
        unfold nxL
        have := insA_perm (lvV p S ++ kF P s ((lvT p S).drop w)) []
        rw [List.nil_append] at this
        exact this.symm
      have e5 := ih _ _ _ _ _ _ _ k4 e4
      rw [List.map_append, List.append_assoc] at e5
      exact e5
/-- the class makes by levels -/
def LmSp (pr C : Nat → Nat) (s t bd : Nat) (ok : Prop) (W : Nat → Nat × Nat) : Prop := ∀ (fl : Nat → Bool) (A : Nat → Nat → Int32) (B : Nat → Nat → Int64) (G : Nat → Nat → Int32) (cd ct sp : Nat), fl 1 = true → cdL fl cd → cd < 50 → lay fl ct = some (.inl (0, 24)) → ct < 50 → ct ≠ cd + 2 → G 0 10 = nI s → G 0 11 = nI t → (∀ u, u < s → A 1 u = nI (pr u)) → (∀ i, i < t → A ct i = nI (C i)) → G 82 7 = nI sp → (∀ j, j < 7200 → ∃ q, q ≤ sp ∧ A 84 j = nI q) → sp + 1 < 2 ^ 30 →
  ∃ A' B' G' r, f_X6_makeByLevels_A_K18 NN 0 cd ct (nI bd) (mem A B G fl) = some (r, mem A' B' G' fl) ∧ (∀ k, k ≠ 84 → k ≠ 86 → k ≠ 87 → k ≠ 88 → k ≠ 91 → k ≠ 92 → k ≠ cd + 2 → A' k = A k) ∧ (∀ k, k ≠ 83 → k ≠ 85 → k ≠ 90 → k ≠ cd + 1 → B' k = B k) ∧ (∀ k, k ≠ 82 → k ≠ 89 → k ≠ cd → G' k = G k) ∧ G' 82 7 = nI (sp + 1) ∧ (∀ j, j < 7200 → ∃ q, q ≤ sp + 1 ∧ A' 84 j = nI q) ∧
    ((ok ∧ r = 1 ∧ G' cd = upd (G cd) 2 (nI t) ∧ ∀ i, i < t → B' (cd + 1) i = lN (W i).1 ∧ A' (cd + 2) i = nI (W i).2) ∨ (¬ ok ∧ r = 0 ∧ A' (cd + 2) = A (cd + 2) ∧ B' (cd + 1) = B (cd + 1) ∧ G' cd = G cd))
/-- the reference builds -/
def RfSp (pr C : Nat → Nat) (s t bd : Nat) (ok : Prop) (W : Nat → Nat × Nat) : Prop := ∀ (fl : Nat → Bool) (A : Nat → Nat → Int32) (B : Nat → Nat → Int64) (G : Nat → Nat → Int32) (by_ : Nat), lay fl by_ = some (.inl (0, 24)) → by_ ≠ 50 ∧ by_ ≠ 54 → G 44 1 = nI s → G 44 3 = nI t → (∀ u, u < s → A 45 u = nI (pr u)) → (∀ i, i < t → A by_ i = nI (C i)) →
  ∃ A' B' G' r, f_X7_buildFree NN 44 by_ (nI (if bd = 0 then 24 else bd)) (mem A B G fl) = some (r, mem A' B' G' fl) ∧ (∀ k, k ≠ 48 → k ≠ 50 → k ≠ 52 → k ≠ 54 → k ≠ 56 → k ≠ 57 → k ≠ 58 → A' k = A k) ∧ (∀ k, k ≠ 47 → k ≠ 51 → k ≠ 53 → k ≠ 55 → B' k = B k) ∧ (∀ k, k ≠ 44 → G' k = G k) ∧ (∀ f, f ≠ 14 → f ≠ 15 → f ≠ 16 → f ≠ 21 → f ≠ 23 → f ≠ 25 → f ≠ 26 → G' 44 f = G 44 f) ∧
    ((ok ∧ r = 1 ∧ ∀ i, i < t → B' 47 i = lN (W i).1 ∧ A' 48 i = nI (W i).2) ∨ (¬ ok ∧ r = 0 ∧ A' 48 = A 48 ∧ B' 47 = B 47))
theorem two_free {pr C : Nat → Nat} {s t bd : Nat} (hM : MayF pr s t) (hs : s ≤ 4) (ht : t ≤ 24) (hpr : ∀ u, u < s → 1 ≤ pr u ∧ pr u ≤ 9) (hC : ∀ i, i < t → 1 ≤ C i ∧ C i ≤ 1000000) (hbd : bd ≤ 24) (hb0 : bd ≠ 0 → ∀ u, u < s → pr u = pr 0) :
    ∃ (ok : Prop) (W : Nat → Nat × Nat), (bd = 0 → ok) ∧ (ok → ∀ i, i < t → Wv s (W i) ∧ 1 ≤ (W i).2) ∧ LmSp pr C s t bd ok W ∧ RfSp pr C s t bd ok W ∧ (ok → PF (fun i => (W i).1) (fun i => (W i).2) t) := by
  obtain ⟨al, hA⟩ := alH_ex pr s
  obtain ⟨o, o1, o2, o3⟩ := rkG_P0 (c := fun i => nI (C i)) (r := fun _ => 0) (t := t) (by omega)
  have hoL : ∀ j, j < t → o j < t := fun j hj => (o1 j hj).2
  have hb1 : bd ≠ 0 → al = 1 := fun q => by
    rcases hA with ⟨h, -⟩ | ⟨-, u, h1, h2⟩
    · exact h
    · exact absurd (hb0 q u h1) h2
  have hal : al = 0 ∨ al = 1 := by
    rcases hA with ⟨h, -⟩ | ⟨h, -⟩
    · exact Or.inr h
    · exact Or.inl h
  obtain ⟨hF, -, hR, hD31, hDb, hPr⟩ := free_H (C := C) (o := o) (bd := bd) (sp := 0) hA hM hs ht hpr hoL hC hbd hb1 (by decide)
  have hle := lcS_le (C := C) (o := o) (t := t) hoL (fun i hi => (hC i hi).2) t (Nat.le_refl _)
  generalize hL : fr (stP al pr) s (lcS C o t) (DDf al bd - 1) 1 (St1 (stP al pr) s) (min t (bC (stP al pr) 1 s)) (min t (bC (stP al pr) 2 s)) (min t (bC (stP al pr) 3 s)) t = L
  have hW : ∃ W : Nat → Nat × Nat, ∀ i, i < t → ∃ j, j < t ∧ o j = i ∧ W i = L.getD j (0, 0) := by
    have : ∀ i, ∃ w : Nat × Nat, i < t → ∃ j, j < t ∧ o j = i ∧ w = L.getD j (0, 0) := fun i => by
      by_cases hi : i < t
      · obtain ⟨j, h1, h2⟩ := inj_all hoL o2 hi
        exact ⟨_, fun _ => ⟨j, h1, h2, rfl⟩⟩
      · exact ⟨(0, 0), fun h => absurd h hi⟩
    obtain ⟨f, hf⟩ := Classical.axiomOfChoice this
    exact ⟨f, hf⟩
  obtain ⟨W, hW⟩ := hW
  have hlen : gF (bC (stP al pr) 1 s) (bC (stP al pr) 2 s) (bC (stP al pr) 3 s) (lcS C o t) (DDf al bd - 1) (min t (bC (stP al pr) 1 s)) (min t (bC (stP al pr) 2 s)) (min t (bC (stP al pr) 3 s)) t < EV → L.length = t ∧ ∀ w, w ∈ L → Wv s w ∧ 1 ≤ w.2 := fun h => by
    obtain ⟨q, -⟩ := pth_0 hF h
    obtain ⟨h1, h2⟩ := fr_ok hF _ _ _ _ _ _ _ q
    rw [← hL]
    exact ⟨h1, fun w hw => ⟨h2 w hw, fr_pos _ _ _ _ _ _ _ St1_pos w hw⟩⟩
  refine ⟨gF (bC (stP al pr) 1 s) (bC (stP al pr) 2 s) (bC (stP al pr) 3 s) (lcS C o t) (DDf al bd - 1) (min t (bC (stP al pr) 1 s)) (min t (bC (stP al pr) 2 s)) (min t (bC (stP al pr) 3 s)) t < EV, W, fun h => ?_, fun h i hi => ?_, ?_, ?_, fun h => ⟨fun i hi => ?_, fun i j hij hj => ?_⟩⟩
  · have := hDb.2 h
    exact free_is hF hM.2.1 (by omega) (by omega) (by omega)
  · obtain ⟨j, h1, h2, h3⟩ := hW i hi
    obtain ⟨l1, l2⟩ := hlen h
    have hjl : j < L.length := by omega
    rw [h3, List.getD_eq_getElem?_getD, List.getElem?_eq_getElem hjl, Option.getD_some]
    exact l2 _ (List.getElem_mem hjl)
  · intro fl A B G cd ct sp f1 hcd hc2 hct hct2 hctc g10 g11 hp hc g7 a84 hsp
    obtain ⟨-, hH, -, -, -, -⟩ := free_H (C := C) (o := o) (bd := bd) (sp := sp) hA hM hs ht hpr hoL hC hbd hb1 hsp
    obtain ⟨A1, G1, e1, e2, e3, e4, e5, e6, e7, e8, e9⟩ := s_prep (fl := fl) (N := NN) (P := stP al pr) (ul := 1 - al) (bd := bd) f1 (by decide) hs (by omega) A B G (fun v hv => ⟨(hPr v hv).1, (hPr v hv).2, fun q => by unfold stP; rw [if_pos (by omega)], fun q => by unfold stP; rw [if_neg (by omega)]; exact hp v hv⟩)
    obtain ⟨A2, B2, G2, r, c1, c2, c3, c4, c5, c6, c7⟩ := s_lmake (fl := fl) (N := NN) f1 (by decide) hM.2.1 hF hH hD31 hDb hcd hc2 hct hct2 hctc o2 A1 B G1 (by rw [e4]; exact g7) e5 e6 e7 e8 e9 (fun j hj => by rw [e2 84 (by omega) (by omega)]; exact a84 j hj) (fun i hi => by rw [e2 ct (by omega) (by omega)]; exact ⟨hc i hi, (hC i hi).2⟩) (fun j hj => by
      rw [rkG_cg (c := A1 ct) (c' := fun i => nI (C i)) (n := t) (fun i hi => by rw [e2 ct (by omega) (by omega)]; exact hc i hi) (by omega) t 0 (A1 86) (fun _ => 0) (by omega) (RkB0 _ _) (fun j hj => absurd hj (by omega)) j (by omega)]
      exact o1 j hj)
    have hcd0 : cd ≠ 82 ∧ cd ≠ 89 := by omega
    have hkv : G1 cd = G cd := e3 cd (by omega)
    refine ⟨A2, B2, G2, r, ?_, fun k w1 w2 w3 w4 w5 w6 w7 => by rw [c2 k w1 w2 w5 w6 w7, e2 k w3 w4], c3, fun k w1 w2 w3 => by rw [c4 k w1 w2 w3, e3 k w1], c5, c6, ?_⟩
    · have hr : r = 0 ∨ r = 1 := by
        rcases c7 with ⟨-, h, -⟩ | ⟨-, h, -⟩
        · exact Or.inr h
        · exact Or.inl h
      have hzb : zb r = some () := by
        rcases hr with h | h <;> rw [h] <;> rfl
      unfold f_X6_makeByLevels_A_K18
      rw [gx_0_15 f1, sb, gx_0_0, sb, gx_0_10, sb, ck_0, sb, s_unl (by decide) g10 (by have := hM.1; omega) hs (fun u hu => ⟨hp u hu, (hpr u hu).2⟩) hA, b2s, ck_82 f1, sb, g10, e1, sb, gx_0_15 f1, sb, gx_0_11, sb, e3 0 (by omega), g11, ck_82 f1, sb, c1, b2s, hzb, sb]
    · rcases c7 with ⟨h1, h2, h3, h4⟩ | ⟨h1, h2, h3, h4, h5⟩
      · refine Or.inl ⟨h1, h2, by rw [h3, hkv], fun i hi => ?_⟩
        obtain ⟨j, j1, j2, j3⟩ := hW i hi
        rw [hL] at h4
        obtain ⟨l1, l2⟩ := hlen h1
        have := h4 j (by omega)
        rw [Nat.zero_add, j2, ← j3] at this
        exact this
      · exact Or.inr ⟨h1, h2, by rw [h3, e2 _ (by omega) (by omega)], h4, by rw [h5, hkv]⟩
  · intro fl A B G by_ hby hby2 g1 g3 hp hc
    have hDD : al = 1 → (if bd = 0 then 24 else bd) = DDf al bd := fun q => by unfold DDf; rw [if_pos q]
    obtain ⟨A2, B2, G2, r, c1, c2, c3, c4, c5, c7⟩ := s_bFree (fl := fl) (N := NN) (lg := if bd = 0 then 24 else bd) (by decide) hM.1 hs hM.2.1 hA A B G (fun u hu => ⟨hp u hu, (hpr u hu).2⟩) g1 g3 hF hR hby hby2 (fun i hi => ⟨hc i hi, (hC i hi).2⟩) (fun j hj => by
      rw [rkG_cg (c := A by_) (c' := fun i => nI (C i)) (n := t) hc (by omega) t 0 (A 50) (fun _ => 0) (by omega) (RkB0 _ _) (fun j hj => absurd hj (by omega)) j (by omega)]
      exact o1 j hj) o2 hDD
    refine ⟨A2, B2, G2, r, c1, c2, c3, c4, c5, ?_⟩
    rcases c7 with ⟨h1, h2, h4⟩ | ⟨h1, h2, h3, h4⟩
    · refine Or.inl ⟨h1, h2, fun i hi => ?_⟩
      obtain ⟨j, j1, j2, j3⟩ := hW i hi
      rw [hL] at h4
      obtain ⟨l1, l2⟩ := hlen h1
      have := h4 j (by omega)
      rw [Nat.zero_add, j2, ← j3] at this
      exact this
    · exact Or.inr ⟨h1, h2, h3, h4⟩
  · obtain ⟨j, h1, h2, h3⟩ := hW i hi
    obtain ⟨l1, l2⟩ := hlen h
    have hjl : j < L.length := by omega
    show 0 < (W i).2
    rw [h3, List.getD_eq_getElem?_getD, List.getElem?_eq_getElem hjl, Option.getD_some]
    exact (l2 _ (List.getElem_mem hjl)).2
  · obtain ⟨q, -⟩ := pth_0 hF h
    have hap := fr_apt hF _ _ _ _ _ _ _ [] q (by rw [List.nil_append]; exact q.2.1)
    rw [List.map_nil, List.nil_append, hL] at hap
    obtain ⟨l1, l2⟩ := hlen h
    obtain ⟨ji, i1, i2, i3⟩ := hW i (by omega)
    obtain ⟨jj, j1, j2, j3⟩ := hW j hj
    have hil : ji < L.length := by omega
    have hjl : jj < L.length := by omega
    have hne : ji ≠ jj := fun e => by subst e; omega
    have hpw := List.pairwise_iff_getElem.mp hap
    show aptW (W i) (W j)
    rw [i3, j3, List.getD_eq_getElem?_getD, List.getElem?_eq_getElem hil, Option.getD_some, List.getD_eq_getElem?_getD, List.getElem?_eq_getElem hjl, Option.getD_some]
    rcases Nat.lt_or_ge ji jj with q2 | q2
    · exact hpw ji jj hil hjl q2
    · have := hpw jj ji hjl hil (by omega)
      unfold aptW at this ⊢
      rw [Nat.min_comm, Nat.xor_comm]
      exact this
/-- the words as a function of the counts -/
theorem free_F {pr : Nat → Nat} {s t : Nat} (hM : MayF pr s t) (hs : s ≤ 4) (ht : t ≤ 24) (hpr : ∀ u, u < s → 1 ≤ pr u ∧ pr u ≤ 9) : ∃ F : (Nat → Nat) → Nat → Nat × Nat, ∀ C : Nat → Nat, (∀ i, i < t → 1 ≤ C i ∧ C i ≤ 1000000) → (∀ i, i < t → Wv s (F C i)) ∧ PF (fun i => (F C i).1) (fun i => (F C i).2) t ∧ LmSp pr C s t 0 True (F C) ∧ RfSp pr C s t 0 True (F C) := by
  have : ∀ C : Nat → Nat, ∃ W : Nat → Nat × Nat, (∀ i, i < t → 1 ≤ C i ∧ C i ≤ 1000000) → (∀ i, i < t → Wv s (W i)) ∧ PF (fun i => (W i).1) (fun i => (W i).2) t ∧ LmSp pr C s t 0 True W ∧ RfSp pr C s t 0 True W := fun C => by
    by_cases hC : ∀ i, i < t → 1 ≤ C i ∧ C i ≤ 1000000
    · obtain ⟨ok, W, w1, w2, w3, w4, w5⟩ := two_free (C := C) (bd := 0) hM hs ht hpr hC (by omega) (fun q => absurd rfl q)
      have hok : ok = True := eq_true (w1 rfl)
      subst hok
      exact ⟨W, fun _ => ⟨fun i hi => (w2 trivial i hi).1, w5 trivial, w3, w4⟩⟩
    · exact ⟨fun _ => (0, 0), fun q => absurd q hC⟩
  exact Classical.axiomOfChoice this
