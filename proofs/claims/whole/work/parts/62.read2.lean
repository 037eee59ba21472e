section RL
variable {B : Nat → Nat → Int64} {fl : Nat → Bool} {N s t : Nat} {R n : Nat → Nat} {l : Nat → Nat} {L : Nat}
theorem upd2_self {f : Nat → Int32} {a b : Int32} (ha : f 4 = a) (hb : f 3 = b) : upd (upd f 4 a) 3 b = f := by
  rw [← ha, upd_self, ← hb, upd_self]
theorem upd43 (f : Nat → Int32) (a b c d : Int32) : upd (upd (upd (upd f 4 a) 3 b) 4 c) 3 d = upd (upd f 4 c) 3 d := by
  funext j
  by_cases e3 : j = 3
  · subst e3; rw [upd_eq, upd_eq]
  · rw [upd_ne _ _ _ e3, upd_ne _ _ _ e3]
    by_cases e4 : j = 4
    · subst e4; rw [upd_eq, upd_eq]
    · rw [upd_ne _ _ _ e4, upd_ne _ _ _ e3, upd_ne _ _ _ e4, upd_ne _ _ _ e4]
/-- the word at the place, on the class's side -/
theorem s_readX {A : Nat → Nat → Int32} {G : Nat → Nat → Int32} {kc p c : Nat} (hc : cdL fl kc) (hkc : kc = 13 ∨ kc = 16) (ht : t ≤ 24) (hW : Ws s t (B (kc + 1)) (A (kc + 2)) R n) (hG : G kc 2 = nI t) (hN : 24 < N) (hL : L ≤ 200) (hg : G 6 2 = nI L) (hA : ∀ j, j < L → A 7 j = nI (l j) ∧ l j < 4) (hp : p < L) (hg4 : G 6 4 = nI p) (hg3 : G 6 3 = nI c) (hc2 : c < 200) : f_X2_readWord N 6 kc (mem A B G fl) = match rdF (rwF l p (min 24 (L - p))) (min 24 (L - p)) R n t with
    | some j => some (nI j, mem (upA A 8 (upd (A 8) c (nI j))) B (upA G 6 (upd (upd (G 6) 4 (nI (p + n j))) 3 (nI (c + 1)))) fl)
    | none => some ((-100 : Int32) - nI (p + fmx (rwF l p (min 24 (L - p))) (min 24 (L - p)) R n t 0 0), mem A B G fl) := by
  unfold f_X2_readWord
  rw [gx_6_2, sb, gx_6_4, sb, hg, hg4, pk_sub (by omega), show (24 : Int32) = nI 24 from rfl, mnI_n (by decide) (by omega)]
  generalize ha : min 24 (L - p) = a
  have ha24 : a ≤ 24 := by omega
  have haL : p + a ≤ L := by omega
  have hX := rwF_ok (l := l) (p := p) (a := a) (fun j hj => (hA (p + j) (by omega)).2) a ha24 (Nat.le_refl _)
  have e := s_rowX (B := B) (fl := fl) (N := N) (kc := kc) hL ha24 haL hg4 hA a 0 N (by omega) (by omega)
  refine Eq.trans e ?_
  unfold f_X2_readWord_K51
  refine Eq.trans (s_wordX (N := N) hc hkc ht hW hG hX.2 ha24 hg4 hg3 hc2 t 0 N 0 (by omega) (by omega) (by omega)) ?_
  unfold rdF
  rw [i_sub2]
  generalize fo (fun i => decide (mI (rwF l p a) a R n i = n i)) t 0 = o
  cases o <;> rfl
theorem rd_lt {X a : Nat} {j : Nat} (h : rdF X a R n t = some j) : j < t ∧ n j ≤ a := by
  obtain ⟨-, h1, h2⟩ := fo_lt _ _ _ _ h
  have h2 := of_decide_eq_true h2
  refine ⟨by omega, ?_⟩
  unfold mI at h2
  omega
theorem s_readLX (ht : t ≤ 24) (hN : 24 < N) (hL : L ≤ 200) (hP : PF R n t) : ∀ (f c p m : Nat) (A : Nat → Nat → Int32) (G : Nat → Nat → Int32), c + f = 201 → f < m → c ≤ p → c ≤ 200 → p ≤ L → Ws s t (B 14) (A 15) R n → G 13 2 = nI t → G 6 2 = nI L → (∀ j, j < L → A 7 j = nI (l j) ∧ l j < 4) → G 6 4 = nI p → G 6 3 = nI c → f_X6_read_L32 N m 0 (nI c) (mem A B G fl) = some (rdV (rdAll l L R n t f p c (A 8)), mem (upA A 8 (rdAll l L R n t f p c (A 8)).1) B (upA G 6 (upd (upd (G 6) 4 (nI (rdAll l L R n t f p c (A 8)).2.2.1)) 3 (nI (rdAll l L R n t f p c (A 8)).2.1))) fl) := by
  intro f
  induction f with
  | zero => intro c p m A G h1 _ _ h4; omega
  | succ f ih =>
    intro c p m A G h1 hm hcp hc200 hpL hW hG hg hA hg4 hg3
    obtain ⟨m, rfl⟩ : ∃ j, m = j + 1 := ⟨m - 1, by omega⟩
    have hu : rdAll l L R n t (f + 1) p c (A 8) = if L ≤ p then (A 8, c, p, none) else match rdF (rwF l p (min 24 (L - p))) (min 24 (L - p)) R n t with
      | some j => rdAll l L R n t f (p + n j) (c + 1) (upd (A 8) c (nI j))
      | none => (A 8, c, p, some (p + fmx (rwF l p (min 24 (L - p))) (min 24 (L - p)) R n t 0 0)) := rfl
    rw [hu]
    by_cases hLp : L ≤ p
    · rw [if_pos hLp]
      have hs : mem (upA A 8 (A 8)) B (upA G 6 (upd (upd (G 6) 4 (nI p)) 3 (nI c))) fl = mem A B G fl := by rw [upA_self, upd2_self hg4 hg3, upA_self]
      show _ = some (nI c, mem (upA A 8 (A 8)) B (upA G 6 (upd (upd (G 6) 4 (nI p)) 3 (nI c))) fl)
      rw [hs, f_X6_read_L32]
      have hend : ((gR (mem A B G fl) 0 6 5).bind fun v74 => (gI (mem A B G fl) v74 2 3).bind fun v77 => some (v77, mem A B G fl)) = some (nI c, mem A B G fl) := by rw [gx_0_5, sb, gx_6_3, sb, hg3]
      by_cases h200 : (200 : Int32) ≤ nI c
      · rw [if_pos h200, hend]
      · rw [if_neg h200, gx_0_5, sb, ck_6, sb]
        unfold f_X2_goesOn
        rw [gx_6_4, sb, gx_6_2, sb, hg4, hg, if_pos (show nI L ≤ nI p from nI_le hLp (by omega)), b2s, if_pos rfl]
        exact hend
    · rw [if_neg hLp, f_X6_read_L32, if_neg (show ¬ (200 : Int32) ≤ nI c from nI_ge (b := 200) (by omega) (by decide)), gx_0_5, sb, ck_6, sb]
      unfold f_X2_goesOn
      rw [gx_6_4, sb, gx_6_2, sb, hg4, hg, if_neg (show ¬ nI L ≤ nI p from nI_ge (by omega) (by omega)), b2s, if_neg (show ¬ (1 : Int32) = 0 by decide), gx_0_5, sb, gx_0_7, sb, ck_6, sb, s_readX (cd13 fl) (Or.inl rfl) ht hW hG hN hL hg hA (by omega) hg4 hg3 (by omega)]
      cases hr : rdF (rwF l p (min 24 (L - p))) (min 24 (L - p)) R n t with
      | none =>
        have hF : fmx (rwF l p (min 24 (L - p))) (min 24 (L - p)) R n t 0 0 ≤ L - p := fmx_le (by omega) t 0 0 (by omega)
        dsimp only
        rw [b2s, if_neg (neg100 _ (by omega)), upA_self, upd2_self hg4 hg3, upA_self]
        rfl
      | some j =>
        obtain ⟨hj, hja⟩ := rd_lt hr
        have hj0 := hP.1 j hj
        dsimp only
        rw [b2s, if_pos (nI_pos' (by omega)), nI_1]
        have e := ih (c + 1) (p + n j) m (upA A 8 (upd (A 8) c (nI j))) (upA G 6 (upd (upd (G 6) 4 (nI (p + n j))) 3 (nI (c + 1)))) (by omega) (by omega) (by omega) (by omega) (by omega) hW hG hg hA rfl rfl
        rw [upA_same, upA_same, upA_twice, upA_twice, upd43] at e
        exact e
theorem s_readLM (ht : t ≤ 24) (hN : 24 < N) (hL : L ≤ 200) (hP : PF R n t) : ∀ (f c p m : Nat) (A : Nat → Nat → Int32) (G : Nat → Nat → Int32), c + f = 201 → f < m → c ≤ p → c ≤ 200 → p ≤ L → Ws s t (B 47) (A 48) R n → G 44 3 = nI t → G 44 44 = nI L → (∀ j, j < L → A 72 j = nI (l j) ∧ l j < 4) → G 44 46 = nI c → f_X7_read_L27 N m 44 (nI p) (mem A B G fl) = some (rdV (rdAll l L R n t f p c (A 73)), mem (upA A 73 (rdAll l L R n t f p c (A 73)).1) B (upA G 44 (upd (G 44) 46 (nI (rdAll l L R n t f p c (A 73)).2.1))) fl) := by
  intro f
  induction f with
  | zero => intro c p m A G h1 _ _ h4; omega
  | succ f ih =>
    intro c p m A G h1 hm hcp hc200 hpL hW hG hg hA hg3
    obtain ⟨m, rfl⟩ : ∃ j, m = j + 1 := ⟨m - 1, by omega⟩
    have hu : rdAll l L R n t (f + 1) p c (A 73) = if L ≤ p then (A 73, c, p, none) else match rdF (rwF l p (min 24 (L - p))) (min 24 (L - p)) R n t with
      | some j => rdAll l L R n t f (p + n j) (c + 1) (upd (A 73) c (nI j))
      | none => (A 73, c, p, some (p + fmx (rwF l p (min 24 (L - p))) (min 24 (L - p)) R n t 0 0)) := rfl
    rw [hu]
    by_cases hLp : L ≤ p
    · rw [if_pos hLp, f_X7_read_L27, gx_44_44, sb, hg, if_pos (nI_le hLp (by omega)), gx_44_46, sb]
      show _ = some (nI c, mem (upA A 73 (A 73)) B (upA G 44 (upd (G 44) 46 (nI c))) fl)
      rw [upA_self, ← hg3, upd_self, upA_self]
    · rw [if_neg hLp, f_X7_read_L27, gx_44_44, sb, hg, if_neg (nI_ge (by omega) (by omega)), ck_44, sb, s_atM ht hW hP hG hN hL hg hA (by omega), b2s]
      cases hr : rdF (rwF l p (min 24 (L - p))) (min 24 (L - p)) R n t with
      | none =>
        have hF : fmx (rwF l p (min 24 (L - p))) (min 24 (L - p)) R n t 0 0 ≤ L - p := fmx_le (by omega) t 0 0 (by omega)
        dsimp only
        rw [if_neg (neg1q _ (by omega)), neg2q, upA_self, ← hg3, upd_self, upA_self]
        rfl
      | some j =>
        obtain ⟨hj, hja⟩ := rd_lt hr
        have hj0 := hP.1 j hj
        have w := hW j hj
        dsimp only
        rw [if_pos (nI_pos' (by omega)), gx_44_45, sb, gx_44_46, sb, hg3, stI_n (ly73 fl) (by omega) (by decide), sb, gx_44_46, sb, hg3, nI_1, px_44_46, sb, gx_44_8, sb, ldI_n (ly48 fl) (by omega) (by decide), sb]
        have e48 : upA A 73 (upd (A 73) c (nI j)) 48 j = nI (n j) := w.2.1
        have e := ih (c + 1) (p + n j) m (upA A 73 (upd (A 73) c (nI j))) (upA G 44 (upd (G 44) 46 (nI (c + 1)))) (by omega) (by omega) (by omega) (by omega) (by omega) hW hG hg hA rfl
        rw [upA_same, upA_same, upA_twice, upA_twice, upd_twice] at e
        rw [e48, nI_add]
        exact e
theorem rdAll_cg : ∀ (f p c : Nat) (it it' : Nat → Int32), (∀ j, j < c → it j = it' j) → (rdAll l L R n t f p c it).2 = (rdAll l L R n t f p c it').2 ∧ ∀ j, j < (rdAll l L R n t f p c it).2.1 → (rdAll l L R n t f p c it).1 j = (rdAll l L R n t f p c it').1 j := by
  intro f
  induction f with
  | zero => intro p c it it' h; exact ⟨rfl, h⟩
  | succ f ih =>
    intro p c it it' h
    unfold rdAll
    by_cases hLp : L ≤ p
    · rw [if_pos hLp, if_pos hLp]
      exact ⟨rfl, h⟩
    · rw [if_neg hLp, if_neg hLp]
      cases hr : rdF (rwF l p (min 24 (L - p))) (min 24 (L - p)) R n t with
      | none => exact ⟨rfl, h⟩
      | some j =>
        refine ih (p + n j) (c + 1) _ _ (fun k hk => ?_)
        by_cases e : k = c
        · subst e; rw [upd_eq, upd_eq]
        · rw [upd_ne _ _ _ e, upd_ne _ _ _ e]; exact h k (by omega)
theorem rdAll_le (hP : PF R n t) (hL : L ≤ 200) : ∀ (f p c : Nat) (it : Nat → Int32), c ≤ p → p ≤ L → (rdAll l L R n t f p c it).2.1 ≤ 200 := by
  intro f
  induction f with
  | zero => intro p c it h1 h2; show c ≤ 200; omega
  | succ f ih =>
    intro p c it h1 h2
    unfold rdAll
    by_cases hLp : L ≤ p
    · rw [if_pos hLp]; show c ≤ 200; omega
    · rw [if_neg hLp]
      cases hr : rdF (rwF l p (min 24 (L - p))) (min 24 (L - p)) R n t with
      | none => show c ≤ 200; omega
      | some j =>
        obtain ⟨hj, hja⟩ := rd_lt hr
        have hj0 := hP.1 j hj
        exact ih (p + n j) (c + 1) _ (by omega) (by omega)
end RL
theorem rdV_eq {x y : (Nat → Int32) × Nat × Nat × Option Nat} (h : x.2 = y.2) : rdV x = rdV y := by
  obtain ⟨a, b, c, d⟩ := x
  obtain ⟨a', b', c', d'⟩ := y
  cases h
  cases d <;> rfl
theorem s_isFreeM {A : Nat → Nat → Int32} {B : Nat → Nat → Int64} {G : Nat → Nat → Int32} {fl : Nat → Bool} {N s t : Nat} {R n : Nat → Nat} (ht : t ≤ 24) (hW : Ws s t (B 47) (A 48) R n) (hG : G 44 3 = nI t) (hN : 25 < N) : f_X7_isFree N 44 (mem A B G fl) = some (bz (fo (badB R n 0 0 t) t 0 = none), mem A B G fl) := by
  have e2 := s_ofKind (N := N) (fl := fl) ht hW hG hN 0 0 false t 0 N (by omega) (by omega)
  unfold f_X7_isFree f_X7_isOfKind
  rw [ck_44, sb]
  refine Eq.trans (congrArg (fun o => bnd2 o _) e2) ?_
  cases h : fo (badB R n 0 0 t) t 0 with
  | none => rfl
  | some j => rfl
theorem s_isFreeX {A : Nat → Nat → Int32} {B : Nat → Nat → Int64} {G : Nat → Nat → Int32} {fl : Nat → Bool} {N s t : Nat} {R n : Nat → Nat} (ht : t ≤ 24) (hW : Ws s t (B 14) (A 15) R n) (hG : G 13 2 = nI t) (hN : 25 < N) : f_X0_isFree N 13 (mem A B G fl) = some (bz (fo (badB R n 0 0 t) t 0 = none), mem A B G fl) :=
  s_isFree (N := N) ht hW hG (by omega) t 0 N (by omega) (by omega)
theorem lo_read : LO_read Inv := LawI.mk (fx := f_X6_read NN 0) (fm := f_X7_read NN 44) (fun h => ok_X6_read NN h) (fun h => ok_X7_read NN h) (by
  intro z A B G fl hz hR
  obtain ⟨s, t, h1, hc, h3, h4, h5, h6, h7, h8⟩ := id hR
  obtain ⟨n1, n2, n3, n4, n5, n6, n7, n8⟩ := id h1
  unfold f_X6_read f_X7_read
  rcases id hc with ⟨c1, c2⟩ | ⟨c1, c2, c3, c4, c5, -⟩
  · refine ⟨-3, A, B, G, A, B, G, ?_, ?_, hR.next⟩
    · rw [ck_0, sb, s_hasCode0 c1, b2s, if_pos rfl]
    · rw [gx_44_4, sb, c2, if_pos rfl]
  · obtain ⟨R, n, w1, w2⟩ := ws_both c5
    by_cases hf : fo (badB R n 0 0 t) t 0 = none
    · obtain ⟨L, l1, l2, l3, l4⟩ := id h3
      obtain ⟨l, hl⟩ := nat_of (n := L) (a := A 7) (Q := fun q => q < 4) (fun i hi => by
        obtain ⟨-, v, h, e⟩ := l4 i hi
        exact ⟨v, by omega, h, e⟩)
      have hP := pf_of hf
      have e1 := s_readLX (B := B) (fl := fl) (N := NN) (s := s) (l := l) n6 (by show _ < 300000; omega) l3 hP 201 0 0 NN A (upA G 6 (upd (upd (G 6) 4 0) 3 0)) (by omega) (by show _ < 300000; omega) (by omega) (by omega) (by omega) w1 c1 l1 (fun j hj => ⟨(hl j hj).1, (hl j hj).2.1⟩) rfl rfl
      rw [upA_same, upA_twice, upd43] at e1
      have e2 := s_readLM (B := B) (fl := fl) (N := NN) (s := s) (l := l) n6 (by show _ < 300000; omega) l3 hP 201 0 0 NN (upA A 8 (rdAll l L R n t 201 0 0 (A 8)).1) (upA (upA G 6 (upd (upd (G 6) 4 (nI (rdAll l L R n t 201 0 0 (A 8)).2.2.1)) 3 (nI (rdAll l L R n t 201 0 0 (A 8)).2.1))) 44 (upd (G 44) 46 0)) (by omega) (by show _ < 300000; omega) (by omega) (by omega) (by omega) w2 n5 l2 (fun j hj => by
        refine ⟨?_, (hl j hj).2.1⟩
        show A 72 j = _
        rw [(l4 j hj).1]
        exact (hl j hj).1) rfl
      rw [upA_same, upA_twice, upd_twice] at e2
      have hcg := rdAll_cg (l := l) (L := L) (R := R) (n := n) (t := t) 201 0 0 (A 8) (A 73) (fun j hj => absurd hj (by omega))
      have hle := rdAll_le (l := l) hP l3 201 0 0 (A 8) (by omega) (by omega)
      have e73 : upA A 8 (rdAll l L R n t 201 0 0 (A 8)).1 73 = A 73 := rfl
      rw [e73] at e2
      generalize hD : rdAll l L R n t 201 0 0 (A 8) = D at e1 e2 hcg hle
      generalize hD2 : rdAll l L R n t 201 0 0 (A 73) = D2 at e2 hcg
      refine ⟨rdV D, upA A 8 D.1, B, upA G 6 (upd (upd (G 6) 4 (nI D.2.2.1)) 3 (nI D.2.1)), upA (upA A 8 D.1) 73 D2.1, B, upA (upA G 6 (upd (upd (G 6) 4 (nI D.2.2.1)) 3 (nI D.2.1))) 44 (upd (G 44) 46 (nI D2.2.1)), ?_, ?_, s, t, h1.congr rfl rfl rfl rfl rfl rfl rfl rfl, hc.congr rfl rfl rfl rfl rfl rfl rfl rfl rfl rfl rfl rfl, h3.congr rfl rfl rfl rfl, ?_, h5.congr rfl rfl rfl rfl, h6.congr (fun p hp => ?_) rfl rfl (fun p hp => ?_) rfl (fun p hp => rfl), h7.congr rfl rfl rfl rfl rfl rfl rfl rfl, h8.congr rfl rfl⟩
      · rw [ck_0, sb, s_hasCode1 c1 c3 n6, b2s, if_neg (show ¬ (1 : Int32) = 0 by decide), gx_0_7, sb, ck_13, sb, s_isFreeX n6 w1 c1 (by show _ < 300000; omega), b2s, if_neg (bz1 hf), gx_0_5, sb, ck_6, sb]
        unfold f_X2_beginReading
        rw [px_6_4, sb, px_6_3, sb, sb, upA_same, upA_twice]
        exact e1
      · rw [gx_44_4, sb]
        show (if G 44 4 = 0 then _ else _) = _
        rw [c2, if_neg (show ¬ (1 : Int32) = 0 by decide), ck_44, sb, s_isFreeM (s := s) (R := R) (n := n) (t := t) n6 (by exact w2) (by exact n5) (by show _ < 300000; omega), b2s, if_neg (bz1 hf), px_44_46, sb, rdV_eq hcg.1]
        exact e2
      · refine ⟨D.2.1, rfl, by rw [hcg.1]; rfl, hle, fun i hi => ?_⟩
        exact (hcg.2 i hi).symm
      · rw [upA_ne _ _ _ (by omega), upA_ne _ _ _ (by omega)]
      · rw [upA_ne _ _ _ (by omega), upA_ne _ _ _ (by omega)]
    · refine ⟨-5, A, B, G, A, B, G, ?_, ?_, hR.next⟩
      · rw [ck_0, sb, s_hasCode1 c1 c3 n6, b2s, if_neg (show ¬ (1 : Int32) = 0 by decide), gx_0_7, sb, ck_13, sb, s_isFreeX n6 w1 c1 (by show _ < 300000; omega), b2s, if_pos (bz0 hf)]
      · rw [gx_44_4, sb, c2, if_neg (show ¬ (1 : Int32) = 0 by decide), ck_44, sb, s_isFreeM n6 w2 n5 (by show _ < 300000; omega), b2s, if_pos (bz0 hf)])
