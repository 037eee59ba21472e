/-! a maker is made -/
theorem pV_do {M : A_M} {a ci j : Nat} {v : Value} {fs : List Value} (h : M a = some (.inr (ci, fs))) (hj : j < fs.length) : pV M a ci j v = some (upM M a (.inr (ci, fs.set j v))) := by
  unfold pV
  rw [h]
  show (if ci = ci ∧ j < fs.length then _ else _) = _
  rw [if_pos ⟨rfl, hj⟩]
theorem alM_do {M : A_M} {n : Nat} {c : A_C} (h : M n = none) : alM M n c = some (upM M n c) := by
  unfold alM
  rw [h]
def flN (fl : Nat → Bool) (d : Nat) : Nat → Bool := fun x => if x = d then true else fl x
/-- an id of another maker, or of none, without a field for this one -/
def okE (d : Nat) : Option (Nat × Lay) → Bool
  | none => true
  | some (e, .inl _) => e != d
  | some (e, .inr (_, tpl)) => e != d && tpl.all (fun c => c != 1000 + d)
theorem tv_fl {fl : Nat → Bool} {d : Nat} (g : Nat → Int32) : ∀ (tpl : List Nat) (i : Nat), tpl.all (fun c => c != 1000 + d) = true → tv g (flN fl d) i tpl = tv g fl i tpl := by
  intro tpl
  induction tpl with
  | nil => intro i _; rfl
  | cons c t ih =>
    intro i h
    rw [List.all_cons, Bool.and_eq_true] at h
    show fv (g i) (flN fl d) c :: tv g (flN fl d) (i + 1) t = fv (g i) fl c :: tv g fl (i + 1) t
    have hc : c ≠ 1000 + d := by
      intro e
      rw [e] at h
      simp at h
    have hv : fv (g i) (flN fl d) c = fv (g i) fl c := by
      unfold fv
      by_cases h0 : c = 0
      · rw [if_pos h0, if_pos h0]
      · rw [if_neg h0, if_neg h0]
        by_cases h1 : c < 1000
        · rw [if_pos h1, if_pos h1]
        · rw [if_neg h1, if_neg h1]
          have : flN fl d (c - 1000) = fl (c - 1000) := if_neg (by omega)
          rw [this]
    rw [ih (i + 1) h.2, hv]
theorem mem_other {A A' : Nat → Nat → Int32} {B B' : Nat → Nat → Int64} {G G' : Nat → Nat → Int32} {fl : Nat → Bool} {d k : Nat} (h : okE d (layT[k]?) = true) (hA : A' k = A k) (hB : B' k = B k) (hG : G' k = G k) : mem A' B' G' (flN fl d) k = mem A B G fl k := by
  unfold mem lay
  cases hl : layT[k]? with
  | none => rfl
  | some x =>
    obtain ⟨e, L⟩ := x
    rw [hl] at h
    dsimp only
    have he : e ≠ d := by
      intro q
      subst q
      cases L with
      | inl l => simp [okE] at h
      | inr l => obtain ⟨ci, tpl⟩ := l; simp [okE] at h
    have hf : flN fl d e = fl e := if_neg he
    rw [hf]
    by_cases hc : e = 0 ∨ fl e = true
    · rw [if_pos hc]
      cases L with
      | inl l =>
        obtain ⟨kd, nn⟩ := l
        rw [hA, hB]
        rcases kd with _ | _ | _ | kd <;> rfl
      | inr l =>
        obtain ⟨ci, tpl⟩ := l
        have h2 : tpl.all (fun c => c != 1000 + d) = true := by
          unfold okE at h
          rw [Bool.and_eq_true] at h
          exact h.2
        dsimp only
        rw [hG, tv_fl _ _ _ h2]
    · rw [if_neg hc]
theorem mem_none {A : Nat → Nat → Int32} {B : Nat → Nat → Int64} {G : Nat → Nat → Int32} {fl : Nat → Bool} {k d : Nat} {L : Lay} (h : layT[k]? = some (d, L)) (h0 : d ≠ 0) (hf : fl d = false) : mem A B G fl k = none := by
  unfold mem lay
  rw [h]
  dsimp only
  rw [if_neg (by rw [hf]; rintro (h | h) <;> first | exact h0 h | cases h)]
/-- ids that have nothing to do with the StepFinder -/
theorem ok3 : ∀ k, k < 105 → k ≠ 0 → k < 98 → okE 3 (layT[k]?) = true := by decide +kernel
theorem layT_len : layT.length = 105 := by decide +kernel
def gInit3 (G : Nat → Nat → Int32) : Nat → Nat → Int32 := upA G 98 (fun j => if j = 9 then -1 else 0)
def aInit3 (A : Nat → Nat → Int32) : Nat → Nat → Int32 := fun k => if 99 ≤ k ∧ k ≤ 103 then (fun _ => 0) else A k
def bInit3 (B : Nat → Nat → Int64) : Nat → Nat → Int64 := fun k => if k = 100 ∨ k = 104 then (fun _ => 0) else B k
theorem s_init3 {A : Nat → Nat → Int32} {B : Nat → Nat → Int64} {G : Nat → Nat → Int32} {fl : Nat → Bool} {N : Nat} (hf : fl 3 = false) :
    alM (mem A B G fl) 98 (.inr (5, [.null, .null, .null, .null, .null, .null, .int 0, .int 0, .int 0, .int 0, .int 0])) = some (upM (mem A B G fl) 98 (.inr (5, [.null, .null, .null, .null, .null, .null, .int 0, .int 0, .int 0, .int 0, .int 0]))) ∧
    ∃ M35, f_X5_init N 99 98 (upM (mem A B G fl) 98 (.inr (5, [.null, .null, .null, .null, .null, .null, .int 0, .int 0, .int 0, .int 0, .int 0]))) = some M35 ∧ pV M35 0 6 17 (.ref 98) = some (mem (aInit3 A) (bInit3 B) (gInit3 G) (flN fl 3)) := by
  have n98 : mem A B G fl 98 = none := mem_none (d := 3) rfl (by decide) hf
  have n99 : mem A B G fl 99 = none := mem_none (d := 3) rfl (by decide) hf
  have n100 : mem A B G fl 100 = none := mem_none (d := 3) rfl (by decide) hf
  have n101 : mem A B G fl 101 = none := mem_none (d := 3) rfl (by decide) hf
  have n102 : mem A B G fl 102 = none := mem_none (d := 3) rfl (by decide) hf
  have n103 : mem A B G fl 103 = none := mem_none (d := 3) rfl (by decide) hf
  have n104 : mem A B G fl 104 = none := mem_none (d := 3) rfl (by decide) hf
  have n0 : mem A B G fl 0 = some (.inr (6, tv (G 0) fl 0 [2, 3, 4, 5, 6, 7, 10, 14, 17, 20, 0, 0, 0, 0, 0, 1001, 1002, 1003])) := mem_O (ly0 fl)
  generalize hM : mem A B G fl = M at n98 n99 n100 n101 n102 n103 n104 n0
  refine ⟨alM_do n98, ?_⟩
  unfold f_X5_init
  rw [alM_do (by rw [upM_ne _ _ (by decide)]; exact n99), sb]
  rw [pV_do (fs := [.null, .null, .null, .null, .null, .null, .int 0, .int 0, .int 0, .int 0, .int 0]) (by rw [upM_ne _ _ (by decide), upM_eq]) (by decide), sb]
  rw [alM_do (by rw [upM_ne _ _ (by decide), upM_ne _ _ (by decide), upM_ne _ _ (by decide)]; exact n100), sb]
  rw [pV_do (by rw [upM_ne _ _ (by decide), upM_eq]) (by decide), sb]
  rw [alM_do (by rw [upM_ne _ _ (by decide), upM_ne _ _ (by decide), upM_ne _ _ (by decide), upM_ne _ _ (by decide), upM_ne _ _ (by decide)]; exact n101), sb]
  rw [pV_do (by rw [upM_ne _ _ (by decide), upM_eq]) (by decide), sb]
  rw [alM_do (by rw [upM_ne _ _ (by decide), upM_ne _ _ (by decide), upM_ne _ _ (by decide), upM_ne _ _ (by decide), upM_ne _ _ (by decide), upM_ne _ _ (by decide), upM_ne _ _ (by decide)]; exact n102), sb]
  rw [pV_do (by rw [upM_ne _ _ (by decide), upM_eq]) (by decide), sb]
  rw [alM_do (by rw [upM_ne _ _ (by decide), upM_ne _ _ (by decide), upM_ne _ _ (by decide), upM_ne _ _ (by decide), upM_ne _ _ (by decide), upM_ne _ _ (by decide), upM_ne _ _ (by decide), upM_ne _ _ (by decide), upM_ne _ _ (by decide)]; exact n103), sb]
  rw [pV_do (by rw [upM_ne _ _ (by decide), upM_eq]) (by decide), sb]
  rw [alM_do (by rw [upM_ne _ _ (by decide), upM_ne _ _ (by decide), upM_ne _ _ (by decide), upM_ne _ _ (by decide), upM_ne _ _ (by decide), upM_ne _ _ (by decide), upM_ne _ _ (by decide), upM_ne _ _ (by decide), upM_ne _ _ (by decide), upM_ne _ _ (by decide), upM_ne _ _ (by decide)]; exact n104), sb]
  rw [pV_do (by rw [upM_ne _ _ (by decide), upM_eq]) (by decide), sb]
  rw [pV_do (by rw [upM_eq]) (by decide), sb]
  refine ⟨_, rfl, ?_⟩
  rw [pV_do (by
    rw [upM_ne _ _ (by decide), upM_ne _ _ (by decide), upM_ne _ _ (by decide), upM_ne _ _ (by decide), upM_ne _ _ (by decide), upM_ne _ _ (by decide), upM_ne _ _ (by decide), upM_ne _ _ (by decide), upM_ne _ _ (by decide), upM_ne _ _ (by decide), upM_ne _ _ (by decide), upM_ne _ _ (by decide), upM_ne _ _ (by decide), upM_ne _ _ (by decide)]
    exact n0) (by rw [tv_len]; decide)]
  congr 1
  have f3 : flN fl 3 3 = true := if_pos rfl
  funext k
  by_cases k0 : k = 0
  · subst k0
    rw [upM_eq, mem_O (ly0 (flN fl 3))]
    rfl
  rw [upM_ne _ _ k0]
  by_cases k98 : k = 98
  · subst k98
    rw [upM_eq, mem_O (ly98 f3)]
    rfl
  rw [upM_ne _ _ k98, upM_ne _ _ k98]
  by_cases k104 : k = 104
  · subst k104
    rw [upM_eq, mem_J (ly104 f3)]
    rfl
  rw [upM_ne _ _ k104, upM_ne _ _ k98]
  by_cases k103 : k = 103
  · subst k103
    rw [upM_eq, mem_I (ly103 f3)]
    rfl
  rw [upM_ne _ _ k103, upM_ne _ _ k98]
  by_cases k102 : k = 102
  · subst k102
    rw [upM_eq, mem_I (ly102 f3)]
    rfl
  rw [upM_ne _ _ k102, upM_ne _ _ k98]
  by_cases k101 : k = 101
  · subst k101
    rw [upM_eq, mem_I (ly101 f3)]
    rfl
  rw [upM_ne _ _ k101, upM_ne _ _ k98]
  by_cases k100 : k = 100
  · subst k100
    rw [upM_eq, mem_J (ly100 f3)]
    rfl
  rw [upM_ne _ _ k100, upM_ne _ _ k98]
  by_cases k99 : k = 99
  · subst k99
    rw [upM_eq, mem_I (ly99 f3)]
    rfl
  rw [upM_ne _ _ k99, upM_ne _ _ k98, ← hM]
  refine (mem_other ?_ ?_ ?_ ?_).symm
  · by_cases hk : k < 98
    · exact ok3 k (by omega) k0 hk
    · rw [List.getElem?_eq_none (by rw [layT_len]; omega)]
      rfl
  · exact if_neg (by omega)
  · exact if_neg (by omega)
  · exact upA_ne _ _ _ k98
theorem lo_step : LO_step Inv := by
  rintro z M cs sl hz ⟨A, B, G, fl, rfl, rfl, rfl, hR⟩
  obtain ⟨s, t, h1, hc, h3, h4, h5, h6, h7, h8⟩ := id hR
  obtain ⟨n1, n2, n3, n4, n5, n6, n7, n8⟩ := id h1
  rcases id hc with ⟨c1, c2⟩ | ⟨c1, c2, c3, c4, c5, -⟩
  · refine ⟨-3, mem A B G fl, mem A B G fl, 0, 0, ok_X6_step_A NN ?_, ok_X7_step NN ?_, ck_0, ck_44, A, B, G, fl, rfl, rfl, rfl, hR.next⟩
    · unfold f_X6_step_A
      rw [ck_0, sb, s_hasCode0 c1, b2s, if_pos rfl]
    · unfold f_X7_step
      rw [gx_44_4, sb, c2, if_pos rfl]
  · obtain ⟨R, n, w1, w2⟩ := ws_both c5
    by_cases hf : fo (badB R n 0 0 t) t 0 = none
    · by_cases f1 : fl 3 = true
      · obtain ⟨r, A1, B1, G1, A2, B2, G2, e1, e2, e3⟩ := s_stepCore f1 h1 hc h3 h4 h5 h6 h8 c1 c2 c3 w1 w2 hf
        refine ⟨r, mem A1 B1 G1 fl, mem A2 B2 G2 fl, 0, 0, ok_X6_step_A NN ?_, ok_X7_step NN e2, ck_0, ck_44, A2, B2, G2, fl, rfl, rfl, rfl, e3⟩
        unfold f_X6_step_A
        rw [ck_0, sb, s_hasCode1 c1 c3 n6, b2s, if_neg (show ¬ (1 : Int32) = 0 by decide), gx_0_7, sb, ck_13, sb, s_isFreeX n6 w1 c1 (by show _ < 300000; omega), b2s, if_neg (bz1 hf), gx_0_17 f1, sb, sb, gx_0_7, sb, gx_0_10, sb, n1, ck_98 f1, sb, e1, b2s]
      · have f0 : fl 3 = false := by cases h : fl 3 with | false => rfl | true => exact absurd h f1
        have f3 : flN fl 3 3 = true := if_pos rfl
        obtain ⟨a1, M35, a2, a3⟩ := s_init3 (A := A) (B := B) (G := G) (N := NN) f0
        have iA : ∀ k, k < 99 → aInit3 A k = A k := fun k hk => if_neg (by omega)
        have iB : ∀ k, k < 99 → bInit3 B k = B k := fun k hk => if_neg (by omega)
        have iG : ∀ k, k ≠ 98 → gInit3 G k = G k := fun k hk => upA_ne _ _ _ hk
        have hc' : CodeOk z (aInit3 A) (bInit3 B) (gInit3 G) (flN fl 3) s t := by
          unfold CodeOk MayFree at hc ⊢
          rw [iG 13 (by omega), iG 44 (by omega), iG 0 (by omega), iA 15 (by omega), iA 48 (by omega), iA 1 (by omega), iA 4 (by omega), iA 49 (by omega), iB 14 (by omega), iB 47 (by omega), show flN fl 3 1 = fl 1 from rfl]
          exact hc
        have h1' : Num (aInit3 A) (gInit3 G) s t := by
          refine h1.congr ?_ ?_ ?_ ?_ ?_ ?_ ?_ ?_
          all_goals first | (rw [iG _ (by omega)]; done) | (rw [iA _ (by omega)]; done)
        have h3' : LineOk (aInit3 A) (gInit3 G) := by
          refine h3.congr ?_ ?_ ?_ ?_
          all_goals first | (rw [iG _ (by omega)]; done) | (rw [iA _ (by omega)]; done)
        have h4' : ItemOk (aInit3 A) (gInit3 G) := by
          refine h4.congr ?_ ?_ ?_ ?_
          all_goals first | (rw [iG _ (by omega)]; done) | (rw [iA _ (by omega)]; done)
        have h5' : BrkOk (gInit3 G) := by
          refine h5.congr ?_ ?_ ?_ ?_
          all_goals (rw [iG _ (by omega)]; done)
        have h6' : ChestOk (aInit3 A) (bInit3 B) (gInit3 G) s t := by
          refine h6.congr (fun p hp => ?_) ?_ ?_ (fun p hp => ?_) ?_ (fun p hp => ?_)
          all_goals first | (rw [iG _ (by omega)]; done) | (rw [iA _ (by omega)]; done) | (rw [iB _ (by omega)]; done)
        have h8' : LmOk z (aInit3 A) (gInit3 G) (flN fl 3) := by
          unfold LmOk at h8 ⊢
          rw [iG 82 (by omega), iA 84 (by omega), show flN fl 3 1 = fl 1 from rfl]
          exact h8
        have hw1 : Ws s t (bInit3 B 14) (aInit3 A 15) R n := by rw [iA 15 (by omega), iB 14 (by omega)]; exact w1
        have hw2 : Ws s t (bInit3 B 47) (aInit3 A 48) R n := by rw [iA 48 (by omega), iB 47 (by omega)]; exact w2
        obtain ⟨r, A1, B1, G1, A2, B2, G2, e1, e2, e3⟩ := s_stepCore f3 h1' hc' h3' h4' h5' h6' h8' (by rw [iG 13 (by omega)]; exact c1) (by rw [iG 44 (by omega)]; exact c2) c3 hw1 hw2 hf
        refine ⟨r, mem A1 B1 G1 (flN fl 3), mem A2 B2 G2 (flN fl 3), 7, 28328, ok_X6_step_B NN ?_, ok_X7_step NN e2, ck_0, ck_44, A2, B2, G2, flN fl 3, rfl, ?_, ?_, e3⟩
        · unfold f_X6_step_B
          rw [ck_0, sb, s_hasCode1 c1 c3 n6, b2s, if_neg (show ¬ (1 : Int32) = 0 by decide), gx_0_7, sb, ck_13, sb, s_isFreeX n6 w1 c1 (by show _ < 300000; omega), b2s, if_neg (bz1 hf), gZ_mem (ly0 fl) (d := 3) rfl f0, sb, a1, sb, a2, sb, a3, sb, gx_0_17 f3, sb, gx_0_7, sb, gx_0_10, sb, iG 0 (by omega), n1, ck_98 f3, sb, e1, b2s]
        · unfold csF
          rw [f0, f3, show flN fl 3 1 = fl 1 from rfl, show flN fl 3 2 = fl 2 from rfl]
          rfl
        · unfold slF
          rw [f0, f3, show flN fl 3 1 = fl 1 from rfl, show flN fl 3 2 = fl 2 from rfl]
          rfl
    · refine ⟨-5, mem A B G fl, mem A B G fl, 0, 0, ok_X6_step_A NN ?_, ok_X7_step NN ?_, ck_0, ck_44, A, B, G, fl, rfl, rfl, rfl, hR.next⟩
      · unfold f_X6_step_A
        rw [ck_0, sb, s_hasCode1 c1 c3 n6, b2s, if_neg (show ¬ (1 : Int32) = 0 by decide), gx_0_7, sb, ck_13, sb, s_isFreeX n6 w1 c1 (by show _ < 300000; omega), b2s, if_pos (bz0 hf)]
      · unfold f_X7_step
        rw [gx_44_4, sb, c2, if_neg (show ¬ (1 : Int32) = 0 by decide), ck_44, sb, s_isFreeM n6 w2 n5 (by show _ < 300000; omega), b2s, if_pos (bz0 hf)]
