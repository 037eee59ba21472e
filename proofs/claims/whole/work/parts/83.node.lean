/-! node -/
theorem ok2 : ∀ k, k < 105 → k ≠ 0 → (k < 93 ∨ 97 < k) → okE 2 (layT[k]?) = true := by decide +kernel
def gInit2 (G : Nat → Nat → Int32) : Nat → Nat → Int32 := upA G 93 (fun _ => 0)
def aInit2 (A : Nat → Nat → Int32) : Nat → Nat → Int32 := upA A 97 (fun _ => 0)
def bInit2 (B : Nat → Nat → Int64) : Nat → Nat → Int64 := fun k => if 94 ≤ k ∧ k ≤ 96 then (fun _ => 0) else B k
theorem s_init2 {A : Nat → Nat → Int32} {B : Nat → Nat → Int64} {G : Nat → Nat → Int32} {fl : Nat → Bool} {N : Nat} (hf : fl 2 = false) : f_X6_orders_B N 0 (mem A B G fl) = some (93, mem (aInit2 A) (bInit2 B) (gInit2 G) (flN fl 2)) := by
  have n93 : mem A B G fl 93 = none := mem_none (d := 2) rfl (by decide) hf
  have n94 : mem A B G fl 94 = none := mem_none (d := 2) rfl (by decide) hf
  have n95 : mem A B G fl 95 = none := mem_none (d := 2) rfl (by decide) hf
  have n96 : mem A B G fl 96 = none := mem_none (d := 2) rfl (by decide) hf
  have n97 : mem A B G fl 97 = none := mem_none (d := 2) rfl (by decide) hf
  have n0 : mem A B G fl 0 = some (.inr (6, tv (G 0) fl 0 [2, 3, 4, 5, 6, 7, 10, 14, 17, 20, 0, 0, 0, 0, 0, 1001, 1002, 1003])) := mem_O (ly0 fl)
  have f2 : flN fl 2 2 = true := if_pos rfl
  unfold f_X6_orders_B
  rw [gZ_mem (ly0 fl) (d := 2) rfl hf, sb]
  generalize hM : mem A B G fl = M at n93 n94 n95 n96 n97 n0
  rw [alM_do n93, sb]
  unfold f_X4_init
  rw [alM_do (by rw [upM_ne _ _ (by decide)]; exact n94), sb]
  rw [pV_do (fs := [.null, .null, .null, .null, .int 0]) (by rw [upM_ne _ _ (by decide), upM_eq]) (by decide), sb]
  rw [alM_do (by rw [upM_ne _ _ (by decide), upM_ne _ _ (by decide), upM_ne _ _ (by decide)]; exact n95), sb]
  rw [pV_do (by rw [upM_ne _ _ (by decide), upM_eq]) (by decide), sb]
  rw [alM_do (by rw [upM_ne _ _ (by decide), upM_ne _ _ (by decide), upM_ne _ _ (by decide), upM_ne _ _ (by decide), upM_ne _ _ (by decide)]; exact n96), sb]
  rw [pV_do (by rw [upM_ne _ _ (by decide), upM_eq]) (by decide), sb]
  rw [alM_do (by rw [upM_ne _ _ (by decide), upM_ne _ _ (by decide), upM_ne _ _ (by decide), upM_ne _ _ (by decide), upM_ne _ _ (by decide), upM_ne _ _ (by decide), upM_ne _ _ (by decide)]; exact n97), sb]
  rw [pV_do (by rw [upM_ne _ _ (by decide), upM_eq]) (by decide), sb, sb]
  rw [pV_do (by
    rw [upM_ne _ _ (by decide), upM_ne _ _ (by decide), upM_ne _ _ (by decide), upM_ne _ _ (by decide), upM_ne _ _ (by decide), upM_ne _ _ (by decide), upM_ne _ _ (by decide), upM_ne _ _ (by decide), upM_ne _ _ (by decide)]
    exact n0) (by rw [tv_len]; decide), sb]
  have key : ∀ X : A_M, X = mem (aInit2 A) (bInit2 B) (gInit2 G) (flN fl 2) → ((gR X 0 6 16).bind fun v19 => some (v19, X)) = some (93, mem (aInit2 A) (bInit2 B) (gInit2 G) (flN fl 2)) := by
    intro X hX
    rw [hX, gx_0_16 f2, sb]
  refine key _ ?_
  funext k
  by_cases k0 : k = 0
  · subst k0
    rw [upM_eq, mem_O (ly0 (flN fl 2))]
    rfl
  rw [upM_ne _ _ k0]
  by_cases k93 : k = 93
  · subst k93
    rw [upM_eq, mem_O (ly93 f2)]
    rfl
  rw [upM_ne _ _ k93]
  by_cases k97 : k = 97
  · subst k97
    rw [upM_eq, mem_I (ly97 f2)]
    rfl
  rw [upM_ne _ _ k97, upM_ne _ _ k93]
  by_cases k96 : k = 96
  · subst k96
    rw [upM_eq, mem_J (ly96 f2)]
    rfl
  rw [upM_ne _ _ k96, upM_ne _ _ k93]
  by_cases k95 : k = 95
  · subst k95
    rw [upM_eq, mem_J (ly95 f2)]
    rfl
  rw [upM_ne _ _ k95, upM_ne _ _ k93]
  by_cases k94 : k = 94
  · subst k94
    rw [upM_eq, mem_J (ly94 f2)]
    rfl
  rw [upM_ne _ _ k94, upM_ne _ _ k93, ← hM]
  refine (mem_other ?_ ?_ ?_ ?_).symm
  · by_cases hk : k < 105
    · exact ok2 k hk k0 (by omega)
    · rw [List.getElem?_eq_none (by rw [layT_len]; omega)]
      rfl
  · exact upA_ne _ _ _ k97
  · exact if_neg (by omega)
  · exact upA_ne _ _ _ k93
/-- what ordering leaves alone -/
def FrO (A A' : Nat → Nat → Int32) (B B' : Nat → Nat → Int64) (G G' : Nat → Nat → Int32) : Prop := (∀ k, k ≠ 97 → A' k = A k) ∧ (∀ k, k ≠ 60 → k ≠ 61 → k ≠ 94 → k ≠ 95 → k ≠ 96 → B' k = B k) ∧ (∀ k, k ≠ 93 → G' k = G k)
theorem rv_parts {z : Nat} {A A' : Nat → Nat → Int32} {B B' : Nat → Nat → Int64} {G G' : Nat → Nat → Int32} {fl fl' : Nat → Bool} (h : FrO A A' B B' G G') (f1 : fl' 1 = fl 1) (f3 : fl' 3 = fl 3) {s t : Nat} (hR : Num A G s t ∧ CodeOk z A B G fl s t ∧ LineOk A G ∧ ItemOk A G ∧ BrkOk G ∧ ChestOk A B G s t ∧ StepOk A G fl ∧ LmOk z A G fl) : Num A' G' s t ∧ CodeOk z A' B' G' fl' s t ∧ LineOk A' G' ∧ ItemOk A' G' ∧ BrkOk G' ∧ ChestOk A' B' G' s t ∧ StepOk A' G' fl' ∧ LmOk z A' G' fl' := by
  obtain ⟨h1, hc, h3, h4, h5, h6, h7, h8⟩ := hR
  obtain ⟨iA, iB, iG⟩ := h
  refine ⟨?_, ?_, ?_, ?_, ?_, ?_, ?_, ?_⟩
  · refine h1.congr ?_ ?_ ?_ ?_ ?_ ?_ ?_ ?_
    all_goals first | (rw [iG _ (by omega)]; done) | (rw [iA _ (by omega)]; done)
  · unfold CodeOk MayFree at hc ⊢
    rw [iG 13 (by omega), iG 44 (by omega), iG 0 (by omega), iA 15 (by omega), iA 48 (by omega), iA 1 (by omega), iA 4 (by omega), iA 49 (by omega), iB 14 (by omega) (by omega) (by omega) (by omega) (by omega), iB 47 (by omega) (by omega) (by omega) (by omega) (by omega), f1]
    exact hc
  · refine h3.congr ?_ ?_ ?_ ?_
    all_goals first | (rw [iG _ (by omega)]; done) | (rw [iA _ (by omega)]; done)
  · refine h4.congr ?_ ?_ ?_ ?_
    all_goals first | (rw [iG _ (by omega)]; done) | (rw [iA _ (by omega)]; done)
  · refine h5.congr ?_ ?_ ?_ ?_
    all_goals (rw [iG _ (by omega)]; done)
  · refine h6.congr (fun p hp => ?_) ?_ ?_ (fun p hp => ?_) ?_ (fun p hp => ?_)
    all_goals first | (rw [iG _ (by omega)]; done) | (rw [iA _ (by omega)]; done) | (rw [iB _ (by omega) (by omega) (by omega) (by omega) (by omega)]; done)
  · unfold StepOk at h7 ⊢
    rw [iG 44 (by omega), iG 98 (by omega), iA 101 (by omega), iA 102 (by omega), iA 78 (by omega), f3]
    exact h7
  · unfold LmOk at h8 ⊢
    rw [iG 82 (by omega), iA 84 (by omega), f1]
    exact h8
theorem Rv.frO {z : Nat} {A A' : Nat → Nat → Int32} {B B' : Nat → Nat → Int64} {G G' : Nat → Nat → Int32} {fl fl' : Nat → Bool} (h : FrO A A' B B' G G') (f1 : fl' 1 = fl 1) (f3 : fl' 3 = fl 3) (hR : Rv z A B G fl) : Rv z A' B' G' fl' := by
  obtain ⟨s, t, hR⟩ := hR
  exact ⟨s, t, rv_parts h f1 f3 hR⟩
theorem fr_init2 (A : Nat → Nat → Int32) (B : Nat → Nat → Int64) (G : Nat → Nat → Int32) : FrO A (aInit2 A) B (bInit2 B) G (gInit2 G) := ⟨fun k hk => upA_ne _ _ _ hk, fun k _ _ h1 h2 h3 => if_neg (by omega), fun k hk => upA_ne _ _ _ hk⟩
/-- weighing on both sides -/
theorem s_nodeCore {fl : Nat → Bool} (f2 : fl 2 = true) {z : Nat} {A : Nat → Nat → Int32} {B : Nat → Nat → Int64} {G : Nat → Nat → Int32} {s t : Nat} (hR : Rv z A B G fl) (h1 : Num A G s t) (hs : 2 ≤ s) {i j : Nat} (hij : i ≤ j) (hj : j < t) :
    ∃ A1 B1 G1 B2 P C, f_X4_weigh NN 93 2 (nI i) (nI j) 1 (nI s) (mem A B G fl) = some (mem A1 B1 G1 fl) ∧ f_X4_leastOf NN 93 (nI i) (nI j) (mem A1 B1 G1 fl) = some (lN (nd P C s i j), mem A1 B1 G1 fl) ∧ f_X7_findNodes NN 44 (mem A1 B1 G1 fl) = some (mem A1 B2 G1 fl) ∧ f_X7_costOfNode NN 44 (nI i) (nI (j + 1)) (mem A1 B2 G1 fl) = some (lN (nd P C s i j), mem A1 B2 G1 fl) ∧ FrO A A1 B B1 G G1 ∧ FrO A A1 B B2 G G1 := by
  obtain ⟨n1, n2, n3, n4, n5, n6, n7, n8⟩ := id h1
  obtain ⟨P, C, hP, hC⟩ := h1.nums
  have hS : Sml P C s t := ⟨n3, n6, fun u hu => (hP u hu).2.2.2, fun i hi => (hC i hi).2.2.2⟩
  obtain ⟨A1, B1, G1, e1, e2, e3, e4, e5, e6⟩ := s_weigh (fl := fl) (N := NN) f2 (by decide) hS (by omega) hij hj A B G (fun u hu => (hP u hu).1) (fun i hi => (hC i hi).1)
  have hNd : NdC A1 G1 P C s t := ⟨by rw [e4 44 (by omega)]; exact n2, by rw [e4 44 (by omega)]; exact n5, fun u hu => by rw [e2 45 (by omega)]; exact (hP u hu).2.1, fun i hi => by rw [e2 46 (by omega)]; exact (hC i hi).2.1⟩
  obtain ⟨B2, g1, g2, g3⟩ := s_findNodes (A := A1) (G := G1) (fl := fl) (N := NN) (by decide) hS hNd B1
  refine ⟨A1, B1, G1, B2, P, C, e1, ?_, g1, ?_, ⟨e2, fun k _ _ a b c => e3 k a b c, e4⟩, ⟨e2, fun k a b c d e => by rw [g2 k a b, e3 k c d e], e4⟩⟩
  · unfold f_X4_leastOf
    rw [gx_93_0 f2, sb, show (24 : Int32) = nI 24 from rfl, pk_mul, nI_add, ldJ_n (ly94 f2) (by omega) (by decide), sb, (e6 i j (Nat.le_refl _) hij (Nat.le_refl _)).1]
  · unfold f_X7_costOfNode
    rw [pk_sub (by omega)]
    by_cases h : i = j
    · subst h
      rw [if_neg (show ¬ (2 : Int32) ≤ nI (i + 1 - i) from nI_ge (b := 2) (by omega) (by omega)), nd_self]
      rfl
    · rw [if_pos (show (2 : Int32) ≤ nI (j + 1 - i) from nI_le (a := 2) (by omega) (by omega)), gx_44_27, sb, show (24 : Int32) = nI 24 from rfl, pk_mul, nI_add, show (1 : Int32) = nI 1 from rfl, pk_sub (by omega), show 24 * i + (j + 1) - 1 = 24 * i + j by omega, ldJ_n (ly60 fl) (by omega) (by decide), sb, g3 i j (by omega) hj]
theorem lo_node : LO_node Inv := by
  rintro a b z M cs sl hz ⟨A, B, G, fl, rfl, rfl, rfl, hR⟩
  obtain ⟨s, t, h1, -⟩ := id hR
  obtain ⟨n1, n2, n3, n4, n5, n6, n7, n8⟩ := id h1
  by_cases ha' : ¬ (0 ≤ a.toInt ∧ a.toInt < t)
  · have ha := ha'
    refine ⟨-1, mem A B G fl, mem A B G fl, 0, 0, ok_X6_node_A NN ?_, ok_X7_node NN ?_, ck_0, ck_44, A, B, G, fl, rfl, rfl, rfl, hR.next⟩
    · unfold f_X6_node_A
      rw [ck_0, sb, s_isThingX n4 (by omega), b2s, if_pos (bz0 ha)]
    · unfold f_X7_node
      rw [ck_44, sb, s_isThingM n5 (by omega), b2s, if_pos (bz0 ha)]
  have ha : 0 ≤ a.toInt ∧ a.toInt < t := Classical.not_not.mp ha'
  by_cases hb' : ¬ (0 ≤ b.toInt ∧ b.toInt < t)
  · have hb := hb'
    refine ⟨-1, mem A B G fl, mem A B G fl, 0, 0, ok_X6_node_A NN ?_, ok_X7_node NN ?_, ck_0, ck_44, A, B, G, fl, rfl, rfl, rfl, hR.next⟩
    · unfold f_X6_node_A
      rw [ck_0, sb, s_isThingX n4 (by omega), b2s, if_neg (bz1 ha), ck_0, sb, s_isThingX n4 (by omega), b2s, if_pos (bz0 hb)]
    · unfold f_X7_node
      rw [ck_44, sb, s_isThingM n5 (by omega), b2s, if_neg (bz1 ha), ck_44, sb, s_isThingM n5 (by omega), b2s, if_pos (bz0 hb)]
  have hb : 0 ≤ b.toInt ∧ b.toInt < t := Classical.not_not.mp hb'
  obtain ⟨i, hi, rfl⟩ := ix_of ha (by omega)
  obtain ⟨j, hj, rfl⟩ := ix_of hb (by omega)
  by_cases hij' : ¬ (i ≤ j)
  · have hij := hij'
    refine ⟨-1, mem A B G fl, mem A B G fl, 0, 0, ok_X6_node_A NN ?_, ok_X7_node NN ?_, ck_0, ck_44, A, B, G, fl, rfl, rfl, rfl, hR.next⟩
    · unfold f_X6_node_A
      rw [ck_0, sb, s_isThingX n4 (by omega), b2s, if_neg (bz1 ha), ck_0, sb, s_isThingX n4 (by omega), b2s, if_neg (bz1 hb), if_neg (nI_ge (by omega) (by omega))]
    · unfold f_X7_node
      rw [ck_44, sb, s_isThingM n5 (by omega), b2s, if_neg (bz1 ha), ck_44, sb, s_isThingM n5 (by omega), b2s, if_neg (bz1 hb), if_neg (nI_ge (by omega) (by omega))]
  have hij : i ≤ j := Classical.not_not.mp hij'
  by_cases hs' : ¬ (2 ≤ s)
  · have hs := hs'
    refine ⟨-3, mem A B G fl, mem A B G fl, 0, 0, ok_X6_node_A NN ?_, ok_X7_node NN ?_, ck_0, ck_44, A, B, G, fl, rfl, rfl, rfl, hR.next⟩
    · unfold f_X6_node_A
      rw [ck_0, sb, s_isThingX n4 (by omega), b2s, if_neg (bz1 ha), ck_0, sb, s_isThingX n4 (by omega), b2s, if_neg (bz1 hb), if_pos (nI_le hij (by omega)), gx_0_10, sb, n1, if_neg (show ¬ (2 : Int32) ≤ nI s from nI_ge (b := 2) (by omega) (by omega))]
    · unfold f_X7_node
      rw [ck_44, sb, s_isThingM n5 (by omega), b2s, if_neg (bz1 ha), ck_44, sb, s_isThingM n5 (by omega), b2s, if_neg (bz1 hb), if_pos (nI_le hij (by omega)), gx_44_1, sb, n2, if_neg (show ¬ (2 : Int32) ≤ nI s from nI_ge (b := 2) (by omega) (by omega))]
  have hs : 2 ≤ s := Classical.not_not.mp hs'
  have h2s : (2 : Int32) ≤ nI s := nI_le (a := 2) hs (by omega)
  by_cases f2 : fl 2 = true
  · obtain ⟨A1, B1, G1, B2, P, C, e1, e2, e3, e4, e5, e6⟩ := s_nodeCore f2 hR h1 hs hij hj
    have qG := e5.2.2 44 (by omega)
    refine ⟨lN (nd P C s i j), mem A1 B1 G1 fl, mem A1 B2 G1 fl, 0, 0, ok_X6_node_A NN ?_, ok_X7_node NN ?_, ck_0, ck_44, A1, B2, G1, fl, rfl, rfl, rfl, (hR.frO e6 rfl rfl).next⟩
    · unfold f_X6_node_A f_X6_orders_A
      rw [ck_0, sb, s_isThingX n4 (by omega), b2s, if_neg (bz1 ha), ck_0, sb, s_isThingX n4 (by omega), b2s, if_neg (bz1 hb), if_pos (nI_le hij (by omega)), gx_0_10, sb, n1, if_pos h2s, ck_0, sb, gx_0_16 f2, sb, sb, b2s, gx_0_1, sb, gx_0_0, sb, gx_0_10, sb, n1, ck_93 f2, sb]
      rw [show f_X4_weigh NN 93 2 (nI i) (nI j) 1 (nI s) (mem A B G fl) = _ from e1, sb, ck_93 f2, sb, e2, b2s]
    · unfold f_X7_node
      rw [ck_44, sb, s_isThingM (G := G1) (n := t) (by rw [qG]; exact n5) (by omega), b2s, if_neg (bz1 ha), ck_44, sb, s_isThingM (G := G1) (n := t) (by rw [qG]; exact n5) (by omega), b2s, if_neg (bz1 hb), if_pos (nI_le hij (by omega)), gx_44_1, sb, qG, n2, if_pos h2s, ck_44, sb, e3, sb, ck_44, sb, show (1 : Int32) = nI 1 from rfl, nI_add, e4, b2s]
  · have f0 : fl 2 = false := by cases h : fl 2 with | false => rfl | true => exact absurd h f2
    have f2' : flN fl 2 2 = true := if_pos rfl
    have hR' : Rv z (aInit2 A) (bInit2 B) (gInit2 G) (flN fl 2) := hR.frO (fr_init2 A B G) rfl rfl
    have h1' : Num (aInit2 A) (gInit2 G) s t := by
      obtain ⟨iA, -, iG⟩ := fr_init2 A B G
      refine h1.congr ?_ ?_ ?_ ?_ ?_ ?_ ?_ ?_
      all_goals first | (rw [iG _ (by omega)]; done) | (rw [iA _ (by omega)]; done)
    obtain ⟨A1, B1, G1, B2, P, C, e1, e2, e3, e4, e5, e6⟩ := s_nodeCore f2' hR' h1' hs hij hj
    have qG := (e5.2.2 44 (by omega)).trans ((fr_init2 A B G).2.2 44 (by omega))
    have q0 := (fr_init2 A B G).2.2 0 (by omega)
    refine ⟨lN (nd P C s i j), mem A1 B1 G1 (flN fl 2), mem A1 B2 G1 (flN fl 2), 5, 3490, ok_X6_node_B NN ?_, ok_X7_node NN ?_, ck_0, ck_44, A1, B2, G1, flN fl 2, rfl, ?_, ?_, (hR'.frO e6 rfl rfl).next⟩
    · unfold f_X6_node_B
      rw [ck_0, sb, s_isThingX n4 (by omega), b2s, if_neg (bz1 ha), ck_0, sb, s_isThingX n4 (by omega), b2s, if_neg (bz1 hb), if_pos (nI_le hij (by omega)), gx_0_10, sb, n1, if_pos h2s, ck_0, sb, s_init2 f0, b2s, gx_0_1, sb, gx_0_0, sb, gx_0_10, sb, q0, n1, ck_93 f2', sb]
      rw [show f_X4_weigh NN 93 2 (nI i) (nI j) 1 (nI s) (mem (aInit2 A) (bInit2 B) (gInit2 G) (flN fl 2)) = _ from e1, sb, ck_93 f2', sb, e2, b2s]
    · unfold f_X7_node
      rw [ck_44, sb, s_isThingM (G := G1) (n := t) (by rw [qG]; exact n5) (by omega), b2s, if_neg (bz1 ha), ck_44, sb, s_isThingM (G := G1) (n := t) (by rw [qG]; exact n5) (by omega), b2s, if_neg (bz1 hb), if_pos (nI_le hij (by omega)), gx_44_1, sb, qG, n2, if_pos h2s, ck_44, sb, e3, sb, ck_44, sb, show (1 : Int32) = nI 1 from rfl, nI_add, e4, b2s]
    · unfold csF
      rw [f0, f2', show flN fl 2 1 = fl 1 from rfl, show flN fl 2 3 = fl 3 from rfl]
      cases fl 1 <;> cases fl 3 <;> rfl
    · unfold slF
      rw [f0, f2', show flN fl 2 1 = fl 1 from rfl, show flN fl 2 3 = fl 3 from rfl]
      cases fl 1 <;> cases fl 3 <;> rfl
