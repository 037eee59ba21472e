/-! THE INVARIANT'S PARTS look at few cells -/
section Cg
variable {z : Nat} {A A' : Nat → Nat → Int32} {B B' : Nat → Nat → Int64} {G G' : Nat → Nat → Int32} {fl : Nat → Bool} {s t : Nat}
theorem Num.congr (h : Num A G s t) (g1 : G' 0 10 = G 0 10) (g2 : G' 44 1 = G 44 1) (g3 : G' 0 11 = G 0 11) (g4 : G' 44 3 = G 44 3) (a1 : A' 45 = A 45) (a2 : A' 1 = A 1) (a3 : A' 46 = A 46) (a4 : A' 2 = A 2) : Num A' G' s t := by
  unfold Num at *
  rw [g1, g2, g3, g4, a1, a2, a3, a4]
  exact h
theorem CodeOk.congr (h : CodeOk z A B G fl s t) (g1 : G' 13 2 = G 13 2) (g2 : G' 44 4 = G 44 4) (g3 : G' 44 5 = G 44 5) (g4 : G' 44 6 = G 44 6) (g5 : G' 0 12 = G 0 12) (a1 : A' 15 = A 15) (a2 : A' 48 = A 48) (a3 : A' 1 = A 1) (a4 : A' 4 = A 4) (a5 : A' 49 = A 49) (b1 : B' 14 = B 14) (b2 : B' 47 = B 47) : CodeOk (z + 1) A' B' G' fl s t := by
  have h := h.next
  unfold CodeOk MayFree at *
  rw [g1, g2, g3, g4, g5, a1, a2, a3, a4, a5, b1, b2]
  exact h
theorem LineOk.congr (h : LineOk A G) (g1 : G' 6 2 = G 6 2) (g2 : G' 44 44 = G 44 44) (a1 : A' 72 = A 72) (a2 : A' 7 = A 7) : LineOk A' G' := by
  unfold LineOk at *
  rw [g1, g2, a1, a2]
  exact h
theorem ItemOk.congr (h : ItemOk A G) (g1 : G' 6 3 = G 6 3) (g2 : G' 44 46 = G 44 46) (a1 : A' 73 = A 73) (a2 : A' 8 = A 8) : ItemOk A' G' := by
  unfold ItemOk at *
  rw [g1, g2, a1, a2]
  exact h
theorem BrkOk.congr (h : BrkOk G) (g1 : G' 44 36 = G 44 36) (g2 : G' 44 37 = G 44 37) (g3 : G' 0 13 = G 0 13) (g4 : G' 0 14 = G 0 14) : BrkOk G' := by
  unfold BrkOk at *
  rw [g1, g2, g3, g4]
  exact h
theorem ChestOk.congr (h : ChestOk A B G s t) (g1 : ∀ p, p < 8 → G' (20 + 3 * p) 2 = G (20 + 3 * p) 2) (a1 : A' 81 = A 81) (a2 : A' 80 = A 80) (a3 : ∀ p, p < 8 → A' (22 + 3 * p) = A (22 + 3 * p)) (b1 : B' 79 = B 79) (b2 : ∀ p, p < 8 → B' (21 + 3 * p) = B (21 + 3 * p)) : ChestOk A' B' G' s t := by
  intro p hp
  rw [g1 p hp, a1, a2, a3 p hp, b1, b2 p hp]
  exact h p hp
theorem StepOk.congr (h : StepOk A G fl) (g1 : G' 44 53 = G 44 53) (g2 : G' 44 50 = G 44 50) (g3 : G' 98 8 = G 98 8) (g4 : G' 98 9 = G 98 9) (g5 : G' 98 10 = G 98 10) (a1 : A' 101 = A 101) (a2 : A' 102 = A 102) (a3 : A' 78 = A 78) : StepOk A' G' fl := by
  unfold StepOk at *
  rw [g1, g2, g3, g4, g5, a1, a2, a3]
  exact h
theorem LmOk.congr (h : LmOk z A G fl) (g1 : G' 82 7 = G 82 7) (a1 : A' 84 = A 84) : LmOk (z + 1) A' G' fl := by
  have h := h.next
  unfold LmOk at *
  rw [g1, a1]
  exact h
end Cg
theorem upd_eq (f : Nat → Int32) (k : Nat) (x : Int32) : upd f k x k = x := if_pos rfl
theorem upd_ne (f : Nat → Int32) (k : Nat) (x : Int32) {j : Nat} (h : j ≠ k) : upd f k x j = f j := if_neg h
theorem lo_wipe : LO_wipe Inv := LawI.mk (fx := f_X6_wipe NN 0) (fm := f_X7_wipe NN 44) (fun h => ok_X6_wipe NN h) (fun h => ok_X7_wipe NN h) (by
  intro z A B G fl hz hR
  obtain ⟨s, t, h1, h2, ⟨n, l1, l2, l3, l4⟩, h4, h5, h6, h7, h8⟩ := id hR
  refine ⟨nI n, A, B, upA G 6 (upd (G 6) 2 0), A, B, upA (upA G 6 (upd (G 6) 2 0)) 44 (upd (upA G 6 (upd (G 6) 2 0) 44) 44 0), ?_, ?_, s, t, h1.congr rfl rfl rfl rfl rfl rfl rfl rfl, h2.congr rfl rfl rfl rfl rfl rfl rfl rfl rfl rfl rfl rfl, ?_, h4.congr rfl rfl rfl rfl, h5.congr rfl rfl rfl rfl, h6.congr (fun p hp => ?_) rfl rfl (fun _ _ => rfl) rfl (fun _ _ => rfl), h7.congr rfl rfl rfl rfl rfl rfl rfl rfl, h8.congr rfl rfl⟩
  · unfold f_X6_wipe
    rw [gx_0_5, sb, gx_6_2, sb, sb, px_6_2, sb, l1]
  · unfold f_X7_wipe
    rw [gx_44_44, sb, px_44_44, sb]
    show some (G 44 44, _) = _
    rw [l2]
  · exact ⟨0, rfl, rfl, by omega, fun i hi => absurd hi (by omega)⟩
  · rw [upA_ne _ _ _ (by omega), upA_ne _ _ _ (by omega)])
theorem lo_put : LO_put Inv := fun a => LawI.mk (fx := f_X6_put NN 0 a) (fm := f_X7_put NN 44 a) (fun h => ok_X6_put NN h) (fun h => ok_X7_put NN h) (by
  intro z A B G fl hz hR
  obtain ⟨s, t, h1, h2, ⟨n, l1, l2, l3, l4⟩, h4, h5, h6, h7, h8⟩ := id hR
  obtain ⟨n1, n2, n3, n4, n5, n6, n7, n8⟩ := id h1
  unfold f_X6_put f_X7_put
  by_cases h : 0 ≤ a.toInt ∧ a.toInt < s
  · obtain ⟨j, hj, rfl⟩ := ix_of h (by omega)
    by_cases hn : n < 200
    · refine ⟨nI (n + 1), upA A 7 (upd (A 7) n (nI j)), B, upA G 6 (upd (G 6) 2 (nI (n + 1))), upA (upA A 7 (upd (A 7) n (nI j))) 72 (upd (A 72) n (nI j)), B, upA (upA G 6 (upd (G 6) 2 (nI (n + 1)))) 44 (upd (G 44) 44 (nI (n + 1))), ?_, ?_, s, t, h1.congr rfl rfl rfl rfl rfl rfl rfl rfl, h2.congr rfl rfl rfl rfl rfl rfl rfl rfl rfl rfl rfl rfl, ?_, h4.congr rfl rfl rfl rfl, h5.congr rfl rfl rfl rfl, h6.congr (fun p hp => ?_) rfl rfl (fun p hp => ?_) rfl (fun _ _ => rfl), h7.congr rfl rfl rfl rfl rfl rfl rfl rfl, h8.congr rfl rfl⟩
      · rw [ck_0, sb, s_isSignX n1 (by omega), b2s, if_neg (bz1 h), gx_0_5, sb, gx_6_2, sb, l1, if_pos (show nI n < 200 from nI_lt (b := 200) hn (by decide)), sb, ck_6, sb]
        unfold f_X2_putSign
        rw [gx_6_0, sb, gx_6_2, sb, l1, stI_n (ly7 fl) hn (by decide), sb, gx_6_2, sb, px_6_2, sb, sb, l1, nI_1, gx_0_5, sb, gx_6_2, sb]
        rfl
      · rw [ck_44, sb, s_isSignM (n := s) (by exact n2) (by omega), b2s, if_neg (bz1 h), gx_44_44, sb]
        show (if G 44 44 = 200 then _ else _) = _
        rw [l2, if_neg (show ¬ nI n = 200 from fun e => by have := (nI_eq (b := 200) (by omega) (by decide)).mp e; omega), gx_44_43, sb]
        show ((stI _ 72 (G 44 44) (nI j)).bind _) = _
        rw [l2, stI_n (ly72 fl) hn (by decide), sb, gx_44_44, sb, px_44_44, sb, gx_44_44, sb]
        show some (G 44 44 + 1, _) = _
        have e : upA G 6 (upd (G 6) 2 (nI (n + 1))) 44 = G 44 := rfl
        have e2 : upA A 7 (upd (A 7) n (nI j)) 72 = A 72 := rfl
        rw [e, e2, l2, nI_1]
      · refine ⟨n + 1, rfl, rfl, by omega, fun i hi => ?_⟩
        show upd (A 72) n (nI j) i = upd (A 7) n (nI j) i ∧ ∃ v, v < 4 ∧ upd (A 7) n (nI j) i = nI v
        by_cases e : i = n
        · subst e
          rw [upd_eq, upd_eq]
          exact ⟨rfl, j, by omega, rfl⟩
        · rw [upd_ne _ _ _ e, upd_ne _ _ _ e]
          exact l4 i (by omega)
      · rw [upA_ne _ _ _ (by omega), upA_ne _ _ _ (by omega)]
      · rw [upA_ne _ _ _ (by omega), upA_ne _ _ _ (by omega)]
    · have hn2 : n = 200 := by omega
      refine ⟨-4, A, B, G, A, B, G, ?_, ?_, hR.next⟩
      · rw [ck_0, sb, s_isSignX n1 (by omega), b2s, if_neg (bz1 h), gx_0_5, sb, gx_6_2, sb, l1, if_neg (show ¬ nI n < 200 from nI_nlt (b := 200) (by omega) (by omega))]
      · rw [ck_44, sb, s_isSignM n2 (by omega), b2s, if_neg (bz1 h), gx_44_44, sb, l2, if_pos (show nI n = 200 by rw [hn2]; rfl)]
  · refine ⟨-1, A, B, G, A, B, G, ?_, ?_, hR.next⟩
    · rw [ck_0, sb, s_isSignX n1 (by omega), b2s, if_pos (bz0 h)]
    · rw [ck_44, sb, s_isSignM n2 (by omega), b2s, if_pos (bz0 h)])
