/-! holds -/
section Ki
variable {A : Nat → Nat → Int32} {B : Nat → Nat → Int64} {G : Nat → Nat → Int32} {fl : Nat → Bool} {N s : Nat}
/-- a KIND with what belongs to it -/
def KOk (s : Nat) (a x : Int32) : Prop := (a = 1 ∧ 1 ≤ x.toInt ∧ x.toInt ≤ 24) ∨ (a = 3 ∧ 0 ≤ x.toInt ∧ x.toInt < s) ∨ a = 0 ∨ a = 2
theorem s_isKind (h : G 0 10 = nI s) (hs : s ≤ 4) (a x : Int32) : (KOk s a x ∧ f_X6_isKind N 0 a x (mem A B G fl) = some (1, mem A B G fl)) ∨ (¬ KOk s a x ∧ f_X6_isKind N 0 a x (mem A B G fl) = some (0, mem A B G fl)) := by
  unfold f_X6_isKind KOk
  by_cases a1 : a = 1
  · subst a1
    rw [if_pos rfl]
    by_cases h1 : x < 1
    · have h1' : x.toInt < 1 := Int32.lt_iff_toInt_lt.mp h1
      rw [if_pos h1]
      exact Or.inr ⟨by rintro (⟨-, q⟩ | ⟨q, -⟩ | q | q) <;> first | omega | exact absurd q (by decide), rfl⟩
    · have h1' : ¬ x.toInt < 1 := fun q => h1 (Int32.lt_iff_toInt_lt.mpr q)
      rw [if_neg h1]
      by_cases h2 : 24 < x
      · have h2' : 24 < x.toInt := Int32.lt_iff_toInt_lt.mp h2
        rw [if_pos h2]
        exact Or.inr ⟨by rintro (⟨-, q⟩ | ⟨q, -⟩ | q | q) <;> first | omega | exact absurd q (by decide), rfl⟩
      · have h2' : ¬ 24 < x.toInt := fun q => h2 (Int32.lt_iff_toInt_lt.mpr q)
        rw [if_neg h2]
        exact Or.inl ⟨Or.inl ⟨rfl, by omega, by omega⟩, rfl⟩
  · rw [if_neg a1]
    by_cases a3 : a = 3
    · subst a3
      rw [if_pos rfl, ck_0, sb, s_isSignX h (by omega), b2s, bz_zb, sb]
      by_cases hx : 0 ≤ x.toInt ∧ x.toInt < s
      · rw [bz_t hx]
        exact Or.inl ⟨Or.inr (Or.inl ⟨rfl, hx⟩), rfl⟩
      · rw [bz_f hx]
        exact Or.inr ⟨by rintro (⟨q, -⟩ | ⟨-, q⟩ | q | q) <;> first | exact hx q | exact absurd q (by decide), rfl⟩
    · rw [if_neg a3]
      by_cases a0 : a = 0
      · rw [if_pos a0]
        exact Or.inl ⟨Or.inr (Or.inr (Or.inl a0)), rfl⟩
      · rw [if_neg a0]
        by_cases a2 : a = 2
        · rw [if_pos a2]
          exact Or.inl ⟨Or.inr (Or.inr (Or.inr a2)), rfl⟩
        · rw [if_neg a2]
          exact Or.inr ⟨by rintro (⟨q, -⟩ | ⟨q, -⟩ | q | q) <;> contradiction, rfl⟩
theorem in03 {M : A_M} (a : Int32) : f_X7_in N a.toInt64 0 3 M = some (bz (a = 0 ∨ a = 1 ∨ a = 2 ∨ a = 3), M) := by
  rw [s_in, i64]
  congr 2
  apply bz_congr
  show 0 ≤ a.toInt ∧ a.toInt ≤ 3 ↔ _
  constructor
  · intro h
    obtain ⟨j, hj, rfl⟩ := ix_of (a := a) (n := 4) ⟨h.1, by omega⟩ (by decide)
    have : j = 0 ∨ j = 1 ∨ j = 2 ∨ j = 3 := by omega
    rcases this with rfl | rfl | rfl | rfl
    · exact Or.inl rfl
    · exact Or.inr (Or.inl rfl)
    · exact Or.inr (Or.inr (Or.inl rfl))
    · exact Or.inr (Or.inr (Or.inr rfl))
  · rintro (rfl | rfl | rfl | rfl) <;> decide
theorem in24 {M : A_M} (x : Int32) : f_X7_in N x.toInt64 1 24 M = some (bz (1 ≤ x.toInt ∧ x.toInt ≤ 24), M) := by
  rw [s_in, i64]
  rfl
/-- the reference's same question, whatever comes behind -/
def kdM (N : Nat) (a x : Int32) {α : Type} (no k : A_M → Option α) (M : A_M) : Option α :=
  bnd2 (f_X7_in N (a.toInt64) (0 : Int64) (3 : Int64) M) fun v6 M6 => if v6 = 0 then no M6 else (if a = (1 : Int32) then (bnd2 (f_X7_in N (x.toInt64) (1 : Int64) (24 : Int64) M6) fun v23 M23 => if v23 = 0 then no M23 else (if a = (3 : Int32) then ((chk M23 44 7).bind fun _ => bnd2 (f_X7_isSign N 44 x M23) fun v36 M36 => if v36 = 0 then no M36 else k M36) else k M23)) else (if a = (3 : Int32) then ((chk M6 44 7).bind fun _ => bnd2 (f_X7_isSign N 44 x M6) fun v36 M36 => if v36 = 0 then no M36 else k M36) else k M6))
theorem s_kindM (h : G 44 1 = nI s) (hs : s ≤ 4) (a x : Int32) {α : Type} (no k : A_M → Option α) : (KOk s a x → kdM N a x no k (mem A B G fl) = k (mem A B G fl)) ∧ (¬ KOk s a x → kdM N a x no k (mem A B G fl) = no (mem A B G fl)) := by
  unfold kdM
  rw [in03, b2s]
  by_cases h4 : a = 0 ∨ a = 1 ∨ a = 2 ∨ a = 3
  · rw [if_neg (bz1 h4)]
    by_cases a1 : a = 1
    · subst a1
      rw [if_pos rfl, in24, b2s, if_neg (show ¬ (1 : Int32) = 3 by decide)]
      by_cases hx : 1 ≤ x.toInt ∧ x.toInt ≤ 24
      · rw [if_neg (bz1 hx)]
        exact ⟨fun _ => rfl, fun q => absurd (Or.inl ⟨rfl, hx⟩) q⟩
      · rw [if_pos (bz0 hx)]
        exact ⟨by rintro (⟨-, q⟩ | ⟨q, -⟩ | q | q) <;> first | exact absurd q hx | exact absurd q (by decide), fun _ => rfl⟩
    · rw [if_neg a1]
      by_cases a3 : a = 3
      · subst a3
        rw [if_pos rfl, ck_44, sb, s_isSignM h (by omega), b2s]
        by_cases hx : 0 ≤ x.toInt ∧ x.toInt < s
        · rw [if_neg (bz1 hx)]
          exact ⟨fun _ => rfl, fun q => absurd (Or.inr (Or.inl ⟨rfl, hx⟩)) q⟩
        · rw [if_pos (bz0 hx)]
          exact ⟨by rintro (⟨q, -⟩ | ⟨-, q⟩ | q | q) <;> first | exact absurd q hx | exact absurd q (by decide), fun _ => rfl⟩
      · rw [if_neg a3]
        refine ⟨fun _ => rfl, fun q => absurd ?_ q⟩
        rcases h4 with q | q | q | q
        · exact Or.inr (Or.inr (Or.inl q))
        · exact absurd q a1
        · exact Or.inr (Or.inr (Or.inr q))
        · exact absurd q a3
  · rw [if_pos (bz0 h4)]
    refine ⟨fun q => ?_, fun _ => rfl⟩
    exfalso
    rcases q with ⟨q, -⟩ | ⟨q, -⟩ | q | q
    · exact h4 (Or.inr (Or.inl q))
    · exact h4 (Or.inr (Or.inr (Or.inr q)))
    · exact h4 (Or.inl q)
    · exact h4 (Or.inr (Or.inr (Or.inl q)))
end Ki
theorem lo_holds : LO_holds Inv := fun a x => LawI.mk (fx := f_X6_holds NN 0 a x) (fm := f_X7_holds NN 44 a x) (fun h => ok_X6_holds NN h) (fun h => ok_X7_holds NN h) (by
  intro z A B G fl hz hR
  obtain ⟨s, t, h1, hc, h3, h4, h5, h6, h7, h8⟩ := id hR
  obtain ⟨n1, n2, n3, n4, n5, n6, n7, n8⟩ := id h1
  have hm : ∀ A B G fl, G 44 1 = nI s → (KOk s a x → f_X7_holds NN 44 a x (mem A B G fl) = f_X7_holds_K45 NN 44 a x (mem A B G fl)) ∧ (¬ KOk s a x → f_X7_holds NN 44 a x (mem A B G fl) = some (-2, mem A B G fl)) := fun A B G fl hg => s_kindM (N := NN) (A := A) (B := B) (G := G) (fl := fl) hg n3 a x (fun M => some ((-2 : Int32), M)) (f_X7_holds_K45 NN 44 a x)
  unfold f_X6_holds
  rcases s_isKind (A := A) (B := B) (fl := fl) (N := NN) n1 n3 a x with ⟨q, e⟩ | ⟨q, e⟩
  · rcases id hc with ⟨c1, c2⟩ | ⟨c1, c2, c3, c4, c5, -⟩
    · refine ⟨-3, A, B, G, A, B, G, ?_, ?_, hR.next⟩
      · rw [ck_0, sb, e, b2s, if_neg (show ¬ (1 : Int32) = 0 by decide), ck_0, sb, s_hasCode0 c1, b2s, if_pos rfl]
      · rw [(hm A B G fl n2).1 q]
        unfold f_X7_holds_K45
        rw [gx_44_4, sb, c2, if_pos rfl]
    · obtain ⟨R, n, w1, w2⟩ := ws_both c5
      have e1 := s_holdsX (N := NN) (fl := fl) n6 w1 c1 (by show _ < 300000; omega) a x t 0 NN (by omega) (by show _ < 300000; omega)
      cases hb : fo (badB R n a x t) t 0 with
      | none =>
        rw [hb] at e1
        refine ⟨1, A, B, G, A, B, G, ?_, ?_, hR.next⟩
        · rw [ck_0, sb, e, b2s, if_neg (show ¬ (1 : Int32) = 0 by decide), ck_0, sb, s_hasCode1 c1 c3 n6, b2s, if_neg (show ¬ (1 : Int32) = 0 by decide)]
          exact e1
        · have e2 := s_ofKind (N := NN) (fl := fl) n6 w2 n5 (by show _ < 300000; omega) a x true t 0 NN (by omega) (by show _ < 300000; omega)
          rw [hb] at e2
          rw [(hm A B G fl n2).1 q]
          unfold f_X7_holds_K45 f_X7_isOfKind
          rw [gx_44_4, sb, c2, if_neg (show ¬ (1 : Int32) = 0 by decide), ck_44, sb]
          refine Eq.trans (congrArg (fun o => bnd2 o _) e2) ?_
          rw [b2s, if_neg (show ¬ (1 : Int32) = 0 by decide)]
      | some j =>
        rw [hb] at e1
        refine ⟨0, A, B, upA G 0 (upd (upd (G 0) 13 (nI j)) 14 (brV R n a x t j)), A, B, upA (upA G 0 (upd (upd (G 0) 13 (nI j)) 14 (brV R n a x t j))) 44 (upd (upd (G 44) 36 (nI j)) 37 (brV R n a x t j)), ?_, ?_, s, t, h1.congr rfl rfl rfl rfl rfl rfl rfl rfl, hc.congr rfl rfl rfl rfl rfl rfl rfl rfl rfl rfl rfl rfl, h3.congr rfl rfl rfl rfl, h4.congr rfl rfl rfl rfl, ⟨rfl, rfl⟩, h6.congr (fun p hp => ?_) rfl rfl (fun p hp => rfl) rfl (fun p hp => rfl), h7.congr rfl rfl rfl rfl rfl rfl rfl rfl, h8.congr rfl rfl⟩
        · rw [ck_0, sb, e, b2s, if_neg (show ¬ (1 : Int32) = 0 by decide), ck_0, sb, s_hasCode1 c1 c3 n6, b2s, if_neg (show ¬ (1 : Int32) = 0 by decide)]
          exact e1
        · have e2 := s_ofKind (N := NN) (fl := fl) (G := upA G 0 (upd (upd (G 0) 13 (nI j)) 14 (brV R n a x t j))) n6 w2 n5 (by show _ < 300000; omega) a x true t 0 NN (by omega) (by show _ < 300000; omega)
          rw [hb] at e2
          rw [(hm _ _ _ _ (by exact n2)).1 q]
          unfold f_X7_holds_K45 f_X7_isOfKind
          rw [gx_44_4, sb]
          show (if G 44 4 = 0 then _ else _) = _
          rw [c2, if_neg (show ¬ (1 : Int32) = 0 by decide), ck_44, sb]
          refine Eq.trans (congrArg (fun o => bnd2 o _) e2) ?_
          rw [b2s, if_pos rfl]
          rfl
        · rw [upA_ne _ _ _ (by omega), upA_ne _ _ _ (by omega)]
  · refine ⟨-2, A, B, G, A, B, G, ?_, ?_, hR.next⟩
    · rw [ck_0, sb, e, b2s, if_pos rfl]
    · rw [(hm A B G fl n2).2 q])
