def f_X4_make (N : Nat) (a0 : Nat) (a1 : Nat) (a2 : Nat) (a3 : Int32) (a4 : Nat) (a5 : Int32) (M : A_M) : Option A_M :=
  (chk M a1 0).bind fun _ =>
  (f_X0_begin N a1 a3 M).bind fun M2 =>
  (chk M2 a0 4).bind fun _ =>
  (f_X4_weigh N a0 a2 (0 : Int32) (a3 - (1 : Int32)) a4 a5 M2).bind fun M15 =>
  if a3 = (1 : Int32) then
  ((chk M15 a0 4).bind fun _ =>
  bnd2 (f_X4_cheapestSign N a0 M15) fun v28 M28 =>
  bnd2 (f_X6_rowAndSign N (0 : Int64) (0 : Int32) v28 M28) fun v31 M31 =>
  (chk M31 a1 0).bind fun _ =>
  (f_X0_giveWord N a1 (0 : Int32) v31 (1 : Int32) M31).bind fun M35 =>
  some M35)
  else
  ((chk M15 a0 4).bind fun _ =>
  (f_X4_dealNode N 48 a0 a1 (0 : Int32) (a3 - (1 : Int32)) (0 : Int64) (0 : Int32) M15).bind fun M49 =>
  some M49)
set_option maxHeartbeats 4000000 in
set_option maxRecDepth 100000 in
theorem ok_X4_make (N : Nat) {a0 : Nat} {a1 : Nat} {a2 : Nat} {a3 : Int32} {a4 : Nat} {a5 : Int32} {M : A_M} {M' : A_M} (h : f_X4_make N a0 a1 a2 a3 a4 a5 M = some M') : Runs yX4_make cX4_make 6 none 145 3537 0 0 [.ref a0, .ref a1, .ref a2, .int a3, .ref a4, .int a5] M none M' := by
  refine Runs.intro (by decide) (Nat.le_of_ble_eq_true rfl) (fun X C hnm hMC hMS => ?_)
  have C : Cx X cX4_make RX4 6 none 145 3537 := C
  show J X 6 0 [(0, .ref a0), (1, .ref a1), (2, .ref a2), (3, .int a3), (4, .ref a4), (5, .int a5)] [] M 0 0 none M'
  unfold f_X4_make at h
  refine J_aload_n (pc' := 1) C 1 dX4_make_0 rfl rfl rfl ?_
  refine J_iload_n (pc' := 2) C 3 dX4_make_1 rfl rfl rfl ?_
  obtain ⟨_, q2, h⟩ := bd h
  obtain ⟨M2, e2, h⟩ := bd h
  refine J_cV (pc' := 5) (st := []) (st2 := []) (cs2 := 0) (sl2 := 0) C 0 rfl rfl q2 (ok_X0_begin N e2) mw_X0_begin wq_480 rfl dX4_make_2 rfl rfl (Nat.le_of_ble_eq_true rfl) (by decide) (by decide) rfl rfl rfl (Nat.zero_le _) (Nat.zero_le _) ?_
  refine J_aload_n (pc' := 6) C 0 dX4_make_5 rfl rfl rfl ?_
  refine J_aload_n (pc' := 7) C 2 dX4_make_6 rfl rfl rfl ?_
  refine J_iconst (pc' := 8) (v := (0 : Int32)) C dX4_make_7 rfl (by decide) ?_
  refine J_iload_n (pc' := 9) C 3 dX4_make_8 rfl rfl rfl ?_
  refine J_iconst (pc' := 10) (v := (1 : Int32)) C dX4_make_9 rfl (by decide) ?_
  refine J_isub (pc' := 11) C dX4_make_10 rfl ?_
  refine J_aload (pc' := 13) C 4 dX4_make_11 rfl rfl ?_
  refine J_iload (pc' := 15) C 5 dX4_make_13 rfl rfl ?_
  obtain ⟨_, q15, h⟩ := bd h
  obtain ⟨M15, e15, h⟩ := bd h
  refine J_cV (pc' := 18) (st := []) (st2 := []) (cs2 := 0) (sl2 := 0) C 4 rfl rfl q15 (ok_X4_weigh N e15) mw_X4_weigh wq_481 rfl dX4_make_15 rfl rfl (Nat.le_of_ble_eq_true rfl) (by decide) (by decide) rfl rfl rfl (Nat.zero_le _) (Nat.zero_le _) ?_
  refine J_iload_n (pc' := 19) C 3 dX4_make_18 rfl rfl rfl ?_
  refine J_iconst (pc' := 20) (v := (1 : Int32)) C dX4_make_19 rfl (by decide) ?_
  refine J_icmp_ne (tgt := 41) (pc' := 23) C dX4_make_20 (by decide) rfl (fun c20 => ?_) (fun c20 => ?_)
  · rw [if_neg c20] at h
    refine J_aload_n (pc' := 42) C 0 dX4_make_41 rfl rfl rfl ?_
    refine J_aload_n (pc' := 43) C 1 dX4_make_42 rfl rfl rfl ?_
    refine J_iconst (pc' := 44) (v := (0 : Int32)) C dX4_make_43 rfl (by decide) ?_
    refine J_iload_n (pc' := 45) C 3 dX4_make_44 rfl rfl rfl ?_
    refine J_iconst (pc' := 46) (v := (1 : Int32)) C dX4_make_45 rfl (by decide) ?_
    refine J_isub (pc' := 47) C dX4_make_46 rfl ?_
    refine J_lconst (pc' := 48) (v := (0 : Int64)) C dX4_make_47 rfl (by decide) ?_
    refine J_iconst (pc' := 49) (v := (0 : Int32)) C dX4_make_48 rfl (by decide) ?_
    obtain ⟨_, q49, h⟩ := bd h
    obtain ⟨M49, e49, h⟩ := bd h
    refine J_cV (pc' := 52) (st := []) (st2 := []) (cs2 := 0) (sl2 := 0) C 4 rfl rfl q49 (ok_X4_dealNode N 48 a0 a1 (0 : Int32) (a3 - (1 : Int32)) (0 : Int64) (0 : Int32) _ _ e49) mw_X4_dealNode wq_516 rfl dX4_make_49 rfl rfl (Nat.le_of_ble_eq_true rfl) (by decide) (by decide) rfl rfl rfl (Nat.zero_le _) (Nat.zero_le _) ?_
    obtain rfl := rt1 h
    exact J_vret C dX4_make_52 (Nat.zero_le _) (Nat.zero_le _)
  · rw [if_pos c20] at h
    refine J_aload_n (pc' := 24) C 1 dX4_make_23 rfl rfl rfl ?_
    refine J_iconst (pc' := 25) (v := (0 : Int32)) C dX4_make_24 rfl (by decide) ?_
    refine J_lconst (pc' := 26) (v := (0 : Int64)) C dX4_make_25 rfl (by decide) ?_
    refine J_iconst (pc' := 27) (v := (0 : Int32)) C dX4_make_26 rfl (by decide) ?_
    refine J_aload_n (pc' := 28) C 0 dX4_make_27 rfl rfl rfl ?_
    obtain ⟨_, q28, h⟩ := bd h
    obtain ⟨v28, M28, e28, h⟩ := bd2 h
    refine J_cV (pc' := 31) (st := [.int (0 : Int32), .long (0 : Int64), .int (0 : Int32), .ref a1]) (st2 := [.int v28, .int (0 : Int32), .long (0 : Int64), .int (0 : Int32), .ref a1]) (cs2 := 0) (sl2 := 0) C 4 rfl rfl q28 (ok_X4_cheapestSign N e28) mw_X4_cheapestSign wq_510 rfl dX4_make_28 rfl rfl (Nat.le_of_ble_eq_true rfl) (by decide) (by decide) rfl rfl rfl (Nat.zero_le _) (Nat.zero_le _) ?_
    obtain ⟨v31, M31, e31, h⟩ := bd2 h
    refine J_cSN (pc' := 34) (st := [.int (0 : Int32), .ref a1]) (st2 := [.long v31, .int (0 : Int32), .ref a1]) (cs2 := 0) (sl2 := 0) C (ok_X6_rowAndSign N e31) mw_X6_rowAndSign wn_514 rfl dX4_make_31 rfl rfl (Nat.le_of_ble_eq_true rfl) (by decide) (by decide) rfl rfl rfl (Nat.zero_le _) (Nat.zero_le _) ?_
    refine J_iconst (pc' := 35) (v := (1 : Int32)) C dX4_make_34 rfl (by decide) ?_
    obtain ⟨_, q35, h⟩ := bd h
    obtain ⟨M35, e35, h⟩ := bd h
    refine J_cV (pc' := 38) (st := []) (st2 := []) (cs2 := 0) (sl2 := 0) C 0 rfl rfl q35 (ok_X0_giveWord N e35) mw_X0_giveWord wq_515 rfl dX4_make_35 rfl rfl (Nat.le_of_ble_eq_true rfl) (by decide) (by decide) rfl rfl rfl (Nat.zero_le _) (Nat.zero_le _) ?_
    refine J_goto (tgt := 52) C dX4_make_38 (by decide) ?_
    obtain rfl := rt1 h
    exact J_vret C dX4_make_52 (Nat.zero_le _) (Nat.zero_le _)
def f_X5_setsHad (N : Nat) (a0 : Nat) (M : A_M) : Option (Int32 × A_M) :=
  (gI M a0 5 8).bind fun v1 =>
  some (v1, M)
set_option maxHeartbeats 4000000 in
set_option maxRecDepth 100000 in
theorem ok_X5_setsHad (N : Nat) {a0 : Nat} {M : A_M} {r : Int32} {M' : A_M} (h : f_X5_setsHad N a0 M = some (r, M')) : Runs yX5_setsHad cX5_setsHad 1 (some .int) 0 0 0 0 [.ref a0] M (some (.int r)) M' := by
  refine Runs.intro (by decide) (Nat.le_of_ble_eq_true rfl) (fun X C hnm hMC hMS => ?_)
  have C : Cx X cX5_setsHad RX5 1 (some .int) 0 0 := C
  show J X 1 0 [(0, .ref a0)] [] M 0 0 (some (.int r)) M'
  unfold f_X5_setsHad at h
  refine J_aload_n (pc' := 1) C 0 dX5_setsHad_0 rfl rfl rfl ?_
  obtain ⟨v1, e1, h⟩ := bd h
  refine jg_747 (pc' := 4) C dX5_setsHad_1 rfl (gI_some e1) ?_
  obtain ⟨rfl, rfl⟩ := rt2 h
  exact J_iret C dX5_setsHad_4 (Nat.zero_le _) (Nat.zero_le _)
def f_X5_signOfStep_L34 (N : Nat) : Nat → Nat → Int32 → Int32 → Int32 → A_M → Option (Int32 × A_M)
  | 0, _, _, _, _, _ => none
  | n + 1, x0, x1, x2, x3, M =>
    if x3 ≤ x1 then
    ((gR M x0 5 3).bind fun v53 =>
    (ldI M v53 x2).bind fun v57 =>
    some (v57, M))
    else
    ((gR M x0 5 2).bind fun v40 =>
    (ldI M v40 x2).bind fun v44 =>
    f_X5_signOfStep_L34 N n x0 x1 v44 (x3 + (-1)) M)
set_option maxHeartbeats 4000000 in
set_option maxRecDepth 100000 in
theorem ok_X5_signOfStep_L34 {X : JX} (C : Cx X cX5_signOfStep RX5 4 (some .int) 0 0) (N : Nat) : ∀ (n : Nat) (x0 : Nat) (x1 : Int32) (x2 : Int32) (x3 : Int32) (M : A_M) (r : Int32) (M' : A_M), f_X5_signOfStep_L34 N n x0 x1 x2 x3 M = some (r, M') → J X 4 34 [(0, .ref x0), (1, .int x1), (2, .int x2), (3, .int x3)] [] M 0 0 (some (.int r)) M' := by
  intro n
  induction n with
  | zero =>
    intro x0 x1 x2 x3 M r M' h
    cases h
  | succ n ih =>
    intro x0 x1 x2 x3 M r M' h
    rw [f_X5_signOfStep_L34] at h
    refine J_iload_n (pc' := 35) C 3 dX5_signOfStep_34 rfl rfl rfl ?_
    refine J_iload_n (pc' := 36) C 1 dX5_signOfStep_35 rfl rfl rfl ?_
    refine J_icmp_le (tgt := 52) (pc' := 39) C dX5_signOfStep_36 (by decide) rfl (fun c36 => ?_) (fun c36 => ?_)
    · rw [if_pos c36] at h
      refine J_aload_n (pc' := 53) C 0 dX5_signOfStep_52 rfl rfl rfl ?_
      obtain ⟨v53, e53, h⟩ := bd h
      refine jg_742 (pc' := 56) C dX5_signOfStep_53 rfl (gR_some e53) ?_
      refine J_iload_n (pc' := 57) C 2 dX5_signOfStep_56 rfl rfl rfl ?_
      obtain ⟨v57, e57, h⟩ := bd h
      refine J_iald (pc' := 58) C dX5_signOfStep_57 rfl e57 ?_
      obtain ⟨rfl, rfl⟩ := rt2 h
      exact J_iret C dX5_signOfStep_58 (Nat.zero_le _) (Nat.zero_le _)
    · rw [if_neg c36] at h
      refine J_aload_n (pc' := 40) C 0 dX5_signOfStep_39 rfl rfl rfl ?_
      obtain ⟨v40, e40, h⟩ := bd h
      refine jg_741 (pc' := 43) C dX5_signOfStep_40 rfl (gR_some e40) ?_
      refine J_iload_n (pc' := 44) C 2 dX5_signOfStep_43 rfl rfl rfl ?_
      obtain ⟨v44, e44, h⟩ := bd h
      refine J_iald (pc' := 45) C dX5_signOfStep_44 rfl e44 ?_
      refine J_istore_n (pc' := 46) (lv' := [(2, .int v44), (0, .ref x0), (1, .int x1), (3, .int x3)]) C dX5_signOfStep_45 rfl rfl (by decide) rfl ?_
      refine J_iinc (pc' := 49) (lv' := [(3, .int (x3 + (-1))), (2, .int v44), (0, .ref x0), (1, .int x1)]) C 3 dX5_signOfStep_46 rfl rfl rfl (by decide) rfl ?_
      refine J_goto (tgt := 34) C dX5_signOfStep_49 (by decide) ?_
      refine J_sub (lv' := [(0, .ref x0), (1, .int x1), (2, .int v44), (3, .int (x3 + (-1)))]) [2, 3, 1, 0] rfl ?_
      exact ih _ _ _ _ _ _ _ h
def f_X5_signOfStep (N : Nat) (a0 : Nat) (a1 : Int32) (M : A_M) : Option (Int32 × A_M) :=
  (gI M a0 5 9).bind fun v1 =>
  if v1 < 0 then
  (some ((-6 : Int32), M))
  else
  (if a1 < 0 then
  (some ((-6 : Int32), M))
  else
  ((gI M a0 5 10).bind fun v13 =>
  if a1 < v13 then
  ((gI M a0 5 9).bind fun v23 =>
  (gI M a0 5 10).bind fun v28 =>
  f_X5_signOfStep_L34 N N a0 a1 v23 (v28 - (1 : Int32)) M)
  else
  (some ((-6 : Int32), M))))
set_option maxHeartbeats 4000000 in
set_option maxRecDepth 100000 in
theorem ok_X5_signOfStep (N : Nat) {a0 : Nat} {a1 : Int32} {M : A_M} {r : Int32} {M' : A_M} (h : f_X5_signOfStep N a0 a1 M = some (r, M')) : Runs yX5_signOfStep cX5_signOfStep 4 (some .int) 0 0 0 0 [.ref a0, .int a1] M (some (.int r)) M' := by
  refine Runs.intro (by decide) (Nat.le_of_ble_eq_true rfl) (fun X C hnm hMC hMS => ?_)
  have C : Cx X cX5_signOfStep RX5 4 (some .int) 0 0 := C
  show J X 4 0 [(0, .ref a0), (1, .int a1)] [] M 0 0 (some (.int r)) M'
  unfold f_X5_signOfStep at h
  refine J_aload_n (pc' := 1) C 0 dX5_signOfStep_0 rfl rfl rfl ?_
  obtain ⟨v1, e1, h⟩ := bd h
  refine jg_748 (pc' := 4) C dX5_signOfStep_1 rfl (gI_some e1) ?_
  refine J_if_lt (tgt := 19) (pc' := 7) C dX5_signOfStep_4 (by decide) rfl (fun c4 => ?_) (fun c4 => ?_)
  · rw [if_pos c4] at h
    refine J_bipush (pc' := 21) (v := (-6 : Int32)) C dX5_signOfStep_19 rfl (by decide) ?_
    obtain ⟨rfl, rfl⟩ := rt2 h
    exact J_iret C dX5_signOfStep_21 (Nat.zero_le _) (Nat.zero_le _)
  · rw [if_neg c4] at h
    refine J_iload_n (pc' := 8) C 1 dX5_signOfStep_7 rfl rfl rfl ?_
    refine J_if_lt (tgt := 19) (pc' := 11) C dX5_signOfStep_8 (by decide) rfl (fun c8 => ?_) (fun c8 => ?_)
    · rw [if_pos c8] at h
      refine J_bipush (pc' := 21) (v := (-6 : Int32)) C dX5_signOfStep_19 rfl (by decide) ?_
      obtain ⟨rfl, rfl⟩ := rt2 h
      exact J_iret C dX5_signOfStep_21 (Nat.zero_le _) (Nat.zero_le _)
    · rw [if_neg c8] at h
      refine J_iload_n (pc' := 12) C 1 dX5_signOfStep_11 rfl rfl rfl ?_
      refine J_aload_n (pc' := 13) C 0 dX5_signOfStep_12 rfl rfl rfl ?_
      obtain ⟨v13, e13, h⟩ := bd h
      refine jg_749 (pc' := 16) C dX5_signOfStep_13 rfl (gI_some e13) ?_
      refine J_icmp_lt (tgt := 22) (pc' := 19) C dX5_signOfStep_16 (by decide) rfl (fun c16 => ?_) (fun c16 => ?_)
      · rw [if_pos c16] at h
        refine J_aload_n (pc' := 23) C 0 dX5_signOfStep_22 rfl rfl rfl ?_
        obtain ⟨v23, e23, h⟩ := bd h
        refine jg_748 (pc' := 26) C dX5_signOfStep_23 rfl (gI_some e23) ?_
        refine J_istore_n (pc' := 27) (lv' := [(2, .int v23), (0, .ref a0), (1, .int a1)]) C dX5_signOfStep_26 rfl rfl (by decide) rfl ?_
        refine J_aload_n (pc' := 28) C 1 dX5_signOfStep_27 rfl rfl rfl ?_
        obtain ⟨v28, e28, h⟩ := bd h
        refine jg_749 (pc' := 31) C dX5_signOfStep_28 rfl (gI_some e28) ?_
        refine J_iconst (pc' := 32) (v := (1 : Int32)) C dX5_signOfStep_31 rfl (by decide) ?_
        refine J_isub (pc' := 33) C dX5_signOfStep_32 rfl ?_
        refine J_istore_n (pc' := 34) (lv' := [(3, .int (v28 - (1 : Int32))), (2, .int v23), (0, .ref a0), (1, .int a1)]) C dX5_signOfStep_33 rfl rfl (by decide) rfl ?_
        refine J_sub (lv' := [(0, .ref a0), (1, .int a1), (2, .int v23), (3, .int (v28 - (1 : Int32)))]) [2, 3, 1, 0] rfl ?_
        exact ok_X5_signOfStep_L34 C N N _ _ _ _ _ _ _ h
      · rw [if_neg c16] at h
        refine J_bipush (pc' := 21) (v := (-6 : Int32)) C dX5_signOfStep_19 rfl (by decide) ?_
        obtain ⟨rfl, rfl⟩ := rt2 h
        exact J_iret C dX5_signOfStep_21 (Nat.zero_le _) (Nat.zero_le _)
def f_X5_newPlace_K39 (N : Nat) (x0 : Nat) (M : A_M) : Option (Int32 × A_M) :=
  (gI M x0 5 6).bind fun v41 =>
  (pV M x0 5 6 (.int (v41 + (1 : Int32)))).bind fun M46 =>
  (gI M46 x0 5 6).bind fun v50 =>
  some ((v50 - (1 : Int32)), M46)
set_option maxHeartbeats 4000000 in
set_option maxRecDepth 100000 in
theorem ok_X5_newPlace_K39 {X : JX} (C : Cx X cX5_newPlace RX5 2 (some .int) 0 0) (N : Nat) : ∀ (x0 : Nat) (M : A_M) (r : Int32) (M' : A_M), f_X5_newPlace_K39 N x0 M = some (r, M') → J X 2 39 [(0, .ref x0)] [] M 0 0 (some (.int r)) M' := by
  intro x0 M r M' h
  unfold f_X5_newPlace_K39 at h
  refine J_aload_n (pc' := 40) C 0 dX5_newPlace_39 rfl rfl rfl ?_
  refine J_dup (pc' := 41) C dX5_newPlace_40 rfl rfl ?_
  obtain ⟨v41, e41, h⟩ := bd h
  refine jg_745 (pc' := 44) C dX5_newPlace_41 rfl (gI_some e41) ?_
  refine J_iconst (pc' := 45) (v := (1 : Int32)) C dX5_newPlace_44 rfl (by decide) ?_
  refine J_iadd (pc' := 46) C dX5_newPlace_45 rfl ?_
  obtain ⟨M46, e46, h⟩ := bd h
  refine jp_745 (pc' := 49) C (fun _ => ⟨rfl, rfl⟩) dX5_newPlace_46 rfl e46 ?_
  refine J_aload_n (pc' := 50) C 0 dX5_newPlace_49 rfl rfl rfl ?_
  obtain ⟨v50, e50, h⟩ := bd h
  refine jg_745 (pc' := 53) C dX5_newPlace_50 rfl (gI_some e50) ?_
  refine J_iconst (pc' := 54) (v := (1 : Int32)) C dX5_newPlace_53 rfl (by decide) ?_
  refine J_isub (pc' := 55) C dX5_newPlace_54 rfl ?_
  obtain ⟨rfl, rfl⟩ := rt2 h
  exact J_iret C dX5_newPlace_55 (Nat.zero_le _) (Nat.zero_le _)
def f_X5_newPlace_L14 (N : Nat) : Nat → Nat → Int32 → A_M → Option (Int32 × A_M)
  | 0, _, _, _ => none
  | n + 1, x0, x1, M =>
    if (4 : Int32) ≤ x1 then
    (f_X5_newPlace_K39 N x0 M)
    else
    ((gR M x0 5 0).bind fun v20 =>
    (gI M x0 5 6).bind fun v24 =>
    (stI M v20 ((v24 * (4 : Int32)) + x1) (0 : Int32)).bind fun M32 =>
    f_X5_newPlace_L14 N n x0 (x1 + 1) M32)
set_option maxHeartbeats 4000000 in
set_option maxRecDepth 100000 in
theorem ok_X5_newPlace_L14 {X : JX} (C : Cx X cX5_newPlace RX5 2 (some .int) 0 0) (N : Nat) : ∀ (n : Nat) (x0 : Nat) (x1 : Int32) (M : A_M) (r : Int32) (M' : A_M), f_X5_newPlace_L14 N n x0 x1 M = some (r, M') → J X 2 14 [(0, .ref x0), (1, .int x1)] [] M 0 0 (some (.int r)) M' := by
  intro n
  induction n with
  | zero =>
    intro x0 x1 M r M' h
    cases h
  | succ n ih =>
    intro x0 x1 M r M' h
    rw [f_X5_newPlace_L14] at h
    refine J_iload_n (pc' := 15) C 1 dX5_newPlace_14 rfl rfl rfl ?_
    refine J_iconst (pc' := 16) (v := (4 : Int32)) C dX5_newPlace_15 rfl (by decide) ?_
    refine J_icmp_ge (tgt := 39) (pc' := 19) C dX5_newPlace_16 (by decide) rfl (fun c16 => ?_) (fun c16 => ?_)
    · rw [if_pos c16] at h
      refine J_sub (lv' := [(0, .ref x0)]) [0] rfl ?_
      exact ok_X5_newPlace_K39 C N _ _ _ _ h
    · rw [if_neg c16] at h
      refine J_aload_n (pc' := 20) C 0 dX5_newPlace_19 rfl rfl rfl ?_
      obtain ⟨v20, e20, h⟩ := bd h
      refine jg_739 (pc' := 23) C dX5_newPlace_20 rfl (gR_some e20) ?_
      refine J_aload_n (pc' := 24) C 0 dX5_newPlace_23 rfl rfl rfl ?_
      obtain ⟨v24, e24, h⟩ := bd h
      refine jg_745 (pc' := 27) C dX5_newPlace_24 rfl (gI_some e24) ?_
      refine J_iconst (pc' := 28) (v := (4 : Int32)) C dX5_newPlace_27 rfl (by decide) ?_
      refine J_imul (pc' := 29) C dX5_newPlace_28 rfl ?_
      refine J_iload_n (pc' := 30) C 1 dX5_newPlace_29 rfl rfl rfl ?_
      refine J_iadd (pc' := 31) C dX5_newPlace_30 rfl ?_
      refine J_iconst (pc' := 32) (v := (0 : Int32)) C dX5_newPlace_31 rfl (by decide) ?_
      obtain ⟨M32, e32, h⟩ := bd h
      refine J_iast (pc' := 33) C dX5_newPlace_32 rfl e32 ?_
      refine J_iinc (pc' := 36) (lv' := [(1, .int (x1 + 1)), (0, .ref x0)]) C 1 dX5_newPlace_33 rfl rfl rfl (by decide) rfl ?_
      refine J_goto (tgt := 14) C dX5_newPlace_36 (by decide) ?_
      refine J_sub (lv' := [(0, .ref x0), (1, .int (x1 + 1))]) [1, 0] rfl ?_
      exact ih _ _ _ _ _ h
def f_X5_newPlace (N : Nat) (a0 : Nat) (M : A_M) : Option (Int32 × A_M) :=
  (gI M a0 5 6).bind fun v1 =>
  if v1 < (553 : Int32) then
  (f_X5_newPlace_L14 N N a0 (0 : Int32) M)
  else
  (some ((0 : Int32), M))
set_option maxHeartbeats 4000000 in
set_option maxRecDepth 100000 in
theorem ok_X5_newPlace (N : Nat) {a0 : Nat} {M : A_M} {r : Int32} {M' : A_M} (h : f_X5_newPlace N a0 M = some (r, M')) : Runs yX5_newPlace cX5_newPlace 2 (some .int) 0 0 0 0 [.ref a0] M (some (.int r)) M' := by
  refine Runs.intro (by decide) (Nat.le_of_ble_eq_true rfl) (fun X C hnm hMC hMS => ?_)
  have C : Cx X cX5_newPlace RX5 2 (some .int) 0 0 := C
  show J X 2 0 [(0, .ref a0)] [] M 0 0 (some (.int r)) M'
  unfold f_X5_newPlace at h
  refine J_aload_n (pc' := 1) C 0 dX5_newPlace_0 rfl rfl rfl ?_
  obtain ⟨v1, e1, h⟩ := bd h
  refine jg_745 (pc' := 4) C dX5_newPlace_1 rfl (gI_some e1) ?_
  refine J_sipush (pc' := 7) (v := (553 : Int32)) C dX5_newPlace_4 rfl (by decide) ?_
  refine J_icmp_lt (tgt := 12) (pc' := 10) C dX5_newPlace_7 (by decide) rfl (fun c7 => ?_) (fun c7 => ?_)
  · rw [if_pos c7] at h
    refine J_iconst (pc' := 13) (v := (0 : Int32)) C dX5_newPlace_12 rfl (by decide) ?_
    refine J_istore_n (pc' := 14) (lv' := [(1, .int (0 : Int32)), (0, .ref a0)]) C dX5_newPlace_13 rfl rfl (by decide) rfl ?_
    refine J_sub (lv' := [(0, .ref a0), (1, .int (0 : Int32))]) [1, 0] rfl ?_
    exact ok_X5_newPlace_L14 C N N _ _ _ _ _ h
  · rw [if_neg c7] at h
    refine J_iconst (pc' := 11) (v := (0 : Int32)) C dX5_newPlace_10 rfl (by decide) ?_
    obtain ⟨rfl, rfl⟩ := rt2 h
    exact J_iret C dX5_newPlace_11 (Nat.zero_le _) (Nat.zero_le _)
def f_X5_layPlaces_K112 (N : Nat) (k12 : Nat → Nat → Int32 → A_M → Option A_M) (x0 : Nat) (x1 : Nat) (x2 : Int32) (M : A_M) : Option A_M :=
  k12 x0 x1 (x2 + 1) M
set_option maxHeartbeats 4000000 in
set_option maxRecDepth 100000 in
theorem ok_X5_layPlaces_K112 {X : JX} (C : Cx X cX5_layPlaces RX5 6 none 1 22) (N : Nat) {k12 : Nat → Nat → Int32 → A_M → Option A_M} (hk12 : ∀ (x0 : Nat) (x1 : Nat) (x2 : Int32) (M : A_M) (M' : A_M), k12 x0 x1 x2 M = some M' → J X 6 12 [(0, .ref x0), (1, .ref x1), (2, .int x2)] [] M 0 0 none M') : ∀ (x0 : Nat) (x1 : Nat) (x2 : Int32) (M : A_M) (M' : A_M), f_X5_layPlaces_K112 N k12 x0 x1 x2 M = some M' → J X 6 112 [(0, .ref x0), (1, .ref x1), (2, .int x2)] [] M 0 0 none M' := by
  intro x0 x1 x2 M M' h
  unfold f_X5_layPlaces_K112 at h
  refine J_iinc (pc' := 115) (lv' := [(2, .int (x2 + 1)), (0, .ref x0), (1, .ref x1)]) C 2 dX5_layPlaces_112 rfl rfl rfl (by decide) rfl ?_
  refine J_goto (tgt := 12) C dX5_layPlaces_115 (by decide) ?_
  refine J_sub (lv' := [(0, .ref x0), (1, .ref x1), (2, .int (x2 + 1))]) [1, 2, 0] rfl ?_
  exact hk12 _ _ _ _ _ h
def f_X5_layPlaces_K106 (N : Nat) (k12 : Nat → Nat → Int32 → A_M → Option A_M) (k25 : Nat → Nat → Int32 → Int32 → Int32 → A_M → Option A_M) (x0 : Nat) (x1 : Nat) (x2 : Int32) (x3 : Int32) (x4 : Int32) (M : A_M) : Option A_M :=
  k25 x0 x1 x2 x3 (x4 + 1) M
set_option maxHeartbeats 4000000 in
set_option maxRecDepth 100000 in
theorem ok_X5_layPlaces_K106 {X : JX} (C : Cx X cX5_layPlaces RX5 6 none 1 22) (N : Nat) {k12 : Nat → Nat → Int32 → A_M → Option A_M} (hk12 : ∀ (x0 : Nat) (x1 : Nat) (x2 : Int32) (M : A_M) (M' : A_M), k12 x0 x1 x2 M = some M' → J X 6 12 [(0, .ref x0), (1, .ref x1), (2, .int x2)] [] M 0 0 none M') {k25 : Nat → Nat → Int32 → Int32 → Int32 → A_M → Option A_M} (hk25 : ∀ (x0 : Nat) (x1 : Nat) (x2 : Int32) (x3 : Int32) (x4 : Int32) (M : A_M) (M' : A_M), k25 x0 x1 x2 x3 x4 M = some M' → J X 6 25 [(0, .ref x0), (1, .ref x1), (2, .int x2), (3, .int x3), (4, .int x4)] [] M 0 0 none M') : ∀ (x0 : Nat) (x1 : Nat) (x2 : Int32) (x3 : Int32) (x4 : Int32) (M : A_M) (M' : A_M), f_X5_layPlaces_K106 N k12 k25 x0 x1 x2 x3 x4 M = some M' → J X 6 106 [(0, .ref x0), (1, .ref x1), (2, .int x2), (3, .int x3), (4, .int x4)] [] M 0 0 none M' := by
  intro x0 x1 x2 x3 x4 M M' h
  unfold f_X5_layPlaces_K106 at h
  refine J_iinc (pc' := 109) (lv' := [(4, .int (x4 + 1)), (0, .ref x0), (1, .ref x1), (2, .int x2), (3, .int x3)]) C 4 dX5_layPlaces_106 rfl rfl rfl (by decide) rfl ?_
  refine J_goto (tgt := 25) C dX5_layPlaces_109 (by decide) ?_
  refine J_sub (lv' := [(0, .ref x0), (1, .ref x1), (2, .int x2), (3, .int x3), (4, .int (x4 + 1))]) [1, 2, 3, 4, 0] rfl ?_
  exact hk25 _ _ _ _ _ _ _ h
def f_X5_layPlaces_K98 (N : Nat) (k12 : Nat → Nat → Int32 → A_M → Option A_M) (k25 : Nat → Nat → Int32 → Int32 → Int32 → A_M → Option A_M) (x0 : Nat) (x1 : Nat) (x2 : Int32) (x4 : Int32) (x5 : Int32) (M : A_M) : Option A_M :=
  (gR M x0 5 0).bind fun v99 =>
  (ldI M v99 x5).bind fun v104 =>
  f_X5_layPlaces_K106 N k12 k25 x0 x1 x2 v104 x4 M
set_option maxHeartbeats 4000000 in
set_option maxRecDepth 100000 in
theorem ok_X5_layPlaces_K98 {X : JX} (C : Cx X cX5_layPlaces RX5 6 none 1 22) (N : Nat) {k12 : Nat → Nat → Int32 → A_M → Option A_M} (hk12 : ∀ (x0 : Nat) (x1 : Nat) (x2 : Int32) (M : A_M) (M' : A_M), k12 x0 x1 x2 M = some M' → J X 6 12 [(0, .ref x0), (1, .ref x1), (2, .int x2)] [] M 0 0 none M') {k25 : Nat → Nat → Int32 → Int32 → Int32 → A_M → Option A_M} (hk25 : ∀ (x0 : Nat) (x1 : Nat) (x2 : Int32) (x3 : Int32) (x4 : Int32) (M : A_M) (M' : A_M), k25 x0 x1 x2 x3 x4 M = some M' → J X 6 25 [(0, .ref x0), (1, .ref x1), (2, .int x2), (3, .int x3), (4, .int x4)] [] M 0 0 none M') : ∀ (x0 : Nat) (x1 : Nat) (x2 : Int32) (x4 : Int32) (x5 : Int32) (M : A_M) (M' : A_M), f_X5_layPlaces_K98 N k12 k25 x0 x1 x2 x4 x5 M = some M' → J X 6 98 [(0, .ref x0), (1, .ref x1), (2, .int x2), (4, .int x4), (5, .int x5)] [] M 0 0 none M' := by
  intro x0 x1 x2 x4 x5 M M' h
  unfold f_X5_layPlaces_K98 at h
  refine J_aload_n (pc' := 99) C 0 dX5_layPlaces_98 rfl rfl rfl ?_
  obtain ⟨v99, e99, h⟩ := bd h
  refine jg_739 (pc' := 102) C dX5_layPlaces_99 rfl (gR_some e99) ?_
  refine J_iload (pc' := 104) C 4 dX5_layPlaces_102 rfl rfl ?_
  obtain ⟨v104, e104, h⟩ := bd h
  refine J_iald (pc' := 105) C dX5_layPlaces_104 rfl e104 ?_
  refine J_istore_n (pc' := 106) (lv' := [(3, .int v104), (0, .ref x0), (1, .ref x1), (2, .int x2), (4, .int x4), (5, .int x5)]) C dX5_layPlaces_105 rfl rfl (by decide) rfl ?_
  refine J_sub (lv' := [(0, .ref x0), (1, .ref x1), (2, .int x2), (3, .int v104), (4, .int x4)]) [1, 2, 3, 0, 4] rfl ?_
  exact ok_X5_layPlaces_K106 C N hk12 hk25 _ _ _ _ _ _ _ h
def f_X5_layPlaces_L25 (N : Nat) (k12 : Nat → Nat → Int32 → A_M → Option A_M) : Nat → Nat → Nat → Int32 → Int32 → Int32 → A_M → Option A_M
  | 0, _, _, _, _, _, _ => none
  | n + 1, x0, x1, x2, x3, x4, M =>
    (gR M x1 0 1).bind fun v28 =>
    (ldI M v28 x2).bind fun v32 =>
    if v32 ≤ x4 then
    (f_X5_layPlaces_K112 N k12 x0 x1 x2 M)
    else
    ((gR M x1 0 0).bind fun v40 =>
    (ldJ M v40 x2).bind fun v44 =>
    bnd2 (f_X6_signOfRow N v44 x4 M) fun v47 M47 =>
    (gR M47 x1 0 1).bind fun v56 =>
    (ldI M47 v56 x2).bind fun v60 =>
    if x4 = (v60 - (1 : Int32)) then
    ((gR M47 x0 5 0).bind fun v67 =>
    (stI M47 v67 ((x3 * (4 : Int32)) + v47) (-1 : Int32)).bind fun M73 =>
    f_X5_layPlaces_K106 N k12 (f_X5_layPlaces_L25 N k12 n) x0 x1 x2 x3 x4 M73)
    else
    ((gR M47 x0 5 0).bind fun v78 =>
    (ldI M47 v78 ((x3 * (4 : Int32)) + v47)).bind fun v83 =>
    if 0 < v83 then
    (f_X5_layPlaces_K98 N k12 (f_X5_layPlaces_L25 N k12 n) x0 x1 x2 x4 ((x3 * (4 : Int32)) + v47) M47)
    else
    ((gR M47 x0 5 0).bind fun v88 =>
    (chk M47 x0 5).bind fun _ =>
    bnd2 (f_X5_newPlace N x0 M47) fun v94 M94 =>
    (stI M94 v88 ((x3 * (4 : Int32)) + v47) v94).bind fun M97 =>
    f_X5_layPlaces_K98 N k12 (f_X5_layPlaces_L25 N k12 n) x0 x1 x2 x4 ((x3 * (4 : Int32)) + v47) M97)))
set_option maxHeartbeats 4000000 in
set_option maxRecDepth 100000 in
theorem ok_X5_layPlaces_L25 {X : JX} (C : Cx X cX5_layPlaces RX5 6 none 1 22) (N : Nat) {k12 : Nat → Nat → Int32 → A_M → Option A_M} (hk12 : ∀ (x0 : Nat) (x1 : Nat) (x2 : Int32) (M : A_M) (M' : A_M), k12 x0 x1 x2 M = some M' → J X 6 12 [(0, .ref x0), (1, .ref x1), (2, .int x2)] [] M 0 0 none M') : ∀ (n : Nat) (x0 : Nat) (x1 : Nat) (x2 : Int32) (x3 : Int32) (x4 : Int32) (M : A_M) (M' : A_M), f_X5_layPlaces_L25 N k12 n x0 x1 x2 x3 x4 M = some M' → J X 6 25 [(0, .ref x0), (1, .ref x1), (2, .int x2), (3, .int x3), (4, .int x4)] [] M 0 0 none M' := by
  intro n
  induction n with
  | zero =>
    intro x0 x1 x2 x3 x4 M M' h
    cases h
  | succ n ih =>
    intro x0 x1 x2 x3 x4 M M' h
    rw [f_X5_layPlaces_L25] at h
    refine J_iload (pc' := 27) C 4 dX5_layPlaces_25 rfl rfl ?_
    refine J_aload_n (pc' := 28) C 1 dX5_layPlaces_27 rfl rfl rfl ?_
    obtain ⟨v28, e28, h⟩ := bd h
    refine jg_176 (pc' := 31) C dX5_layPlaces_28 rfl (gR_some e28) ?_
    refine J_iload_n (pc' := 32) C 2 dX5_layPlaces_31 rfl rfl rfl ?_
    obtain ⟨v32, e32, h⟩ := bd h
    refine J_iald (pc' := 33) C dX5_layPlaces_32 rfl e32 ?_
    refine J_icmp_ge (tgt := 112) (pc' := 36) C dX5_layPlaces_33 (by decide) rfl (fun c33 => ?_) (fun c33 => ?_)
    · rw [if_pos c33] at h
      refine J_sub (lv' := [(0, .ref x0), (1, .ref x1), (2, .int x2)]) [0, 1, 2] rfl ?_
      exact ok_X5_layPlaces_K112 C N hk12 _ _ _ _ _ h
    · rw [if_neg c33] at h
      refine J_iload_n (pc' := 37) C 3 dX5_layPlaces_36 rfl rfl rfl ?_
      refine J_iconst (pc' := 38) (v := (4 : Int32)) C dX5_layPlaces_37 rfl (by decide) ?_
      refine J_imul (pc' := 39) C dX5_layPlaces_38 rfl ?_
      refine J_aload_n (pc' := 40) C 1 dX5_layPlaces_39 rfl rfl rfl ?_
      obtain ⟨v40, e40, h⟩ := bd h
      refine jg_172 (pc' := 43) C dX5_layPlaces_40 rfl (gR_some e40) ?_
      refine J_iload_n (pc' := 44) C 2 dX5_layPlaces_43 rfl rfl rfl ?_
      obtain ⟨v44, e44, h⟩ := bd h
      refine J_lald (pc' := 45) C dX5_layPlaces_44 rfl e44 ?_
      refine J_iload (pc' := 47) C 4 dX5_layPlaces_45 rfl rfl ?_
      obtain ⟨v47, M47, e47, h⟩ := bd2 h
      refine J_cSN (pc' := 50) (st := [.int (x3 * (4 : Int32))]) (st2 := [.int v47, .int (x3 * (4 : Int32))]) (cs2 := 0) (sl2 := 0) C (ok_X6_signOfRow N e47) mw_X6_signOfRow wn_785 rfl dX5_layPlaces_47 rfl rfl (Nat.le_of_ble_eq_true rfl) (by decide) (by decide) rfl rfl rfl (Nat.zero_le _) (Nat.zero_le _) ?_
      refine J_iadd (pc' := 51) C dX5_layPlaces_50 rfl ?_
      refine J_istore (pc' := 53) (lv' := [(5, .int ((x3 * (4 : Int32)) + v47)), (0, .ref x0), (1, .ref x1), (2, .int x2), (3, .int x3), (4, .int x4)]) C dX5_layPlaces_51 rfl (by decide) rfl ?_
      refine J_iload (pc' := 55) C 5 dX5_layPlaces_53 rfl rfl ?_
      refine J_aload_n (pc' := 56) C 2 dX5_layPlaces_55 rfl rfl rfl ?_
      obtain ⟨v56, e56, h⟩ := bd h
      refine jg_176 (pc' := 59) C dX5_layPlaces_56 rfl (gR_some e56) ?_
      refine J_iload_n (pc' := 60) C 3 dX5_layPlaces_59 rfl rfl rfl ?_
      obtain ⟨v60, e60, h⟩ := bd h
      refine J_iald (pc' := 61) C dX5_layPlaces_60 rfl e60 ?_
      refine J_iconst (pc' := 62) (v := (1 : Int32)) C dX5_layPlaces_61 rfl (by decide) ?_
      refine J_isub (pc' := 63) C dX5_layPlaces_62 rfl ?_
      refine J_icmp_ne (tgt := 77) (pc' := 66) C dX5_layPlaces_63 (by decide) rfl (fun c63 => ?_) (fun c63 => ?_)
      · rw [if_neg c63] at h
        refine J_aload_n (pc' := 78) C 1 dX5_layPlaces_77 rfl rfl rfl ?_
        obtain ⟨v78, e78, h⟩ := bd h
        refine jg_739 (pc' := 81) C dX5_layPlaces_78 rfl (gR_some e78) ?_
        refine J_iload (pc' := 83) C 0 dX5_layPlaces_81 rfl rfl ?_
        obtain ⟨v83, e83, h⟩ := bd h
        refine J_iald (pc' := 84) C dX5_layPlaces_83 rfl e83 ?_
        refine J_if_gt (tgt := 98) (pc' := 87) C dX5_layPlaces_84 (by decide) rfl (fun c84 => ?_) (fun c84 => ?_)
        · rw [if_pos c84] at h
          refine J_sub (lv' := [(0, .ref x0), (1, .ref x1), (2, .int x2), (4, .int x4), (5, .int ((x3 * (4 : Int32)) + v47))]) [1, 2, 3, 5, 0] rfl ?_
          exact ok_X5_layPlaces_K98 C N hk12 ih _ _ _ _ _ _ _ h
        · rw [if_neg c84] at h
          refine J_aload_n (pc' := 88) C 1 dX5_layPlaces_87 rfl rfl rfl ?_
          obtain ⟨v88, e88, h⟩ := bd h
          refine jg_739 (pc' := 91) C dX5_layPlaces_88 rfl (gR_some e88) ?_
          refine J_iload (pc' := 93) C 0 dX5_layPlaces_91 rfl rfl ?_
          refine J_aload_n (pc' := 94) C 1 dX5_layPlaces_93 rfl rfl rfl ?_
          obtain ⟨_, q94, h⟩ := bd h
          obtain ⟨v94, M94, e94, h⟩ := bd2 h
          refine J_cV (pc' := 97) (st := [.int ((x3 * (4 : Int32)) + v47), .ref v88]) (st2 := [.int v94, .int ((x3 * (4 : Int32)) + v47), .ref v88]) (cs2 := 0) (sl2 := 0) C 5 rfl rfl q94 (ok_X5_newPlace N e94) mw_X5_newPlace wq_781 rfl dX5_layPlaces_94 rfl rfl (Nat.le_of_ble_eq_true rfl) (by decide) (by decide) rfl rfl rfl (Nat.zero_le _) (Nat.zero_le _) ?_
          obtain ⟨M97, e97, h⟩ := bd h
          refine J_iast (pc' := 98) C dX5_layPlaces_97 rfl e97 ?_
          refine J_sub (lv' := [(0, .ref x0), (1, .ref x1), (2, .int x2), (4, .int x4), (5, .int ((x3 * (4 : Int32)) + v47))]) [1, 2, 3, 5, 0] rfl ?_
          exact ok_X5_layPlaces_K98 C N hk12 ih _ _ _ _ _ _ _ h
      · rw [if_pos c63] at h
        refine J_aload_n (pc' := 67) C 1 dX5_layPlaces_66 rfl rfl rfl ?_
        obtain ⟨v67, e67, h⟩ := bd h
        refine jg_739 (pc' := 70) C dX5_layPlaces_67 rfl (gR_some e67) ?_
        refine J_iload (pc' := 72) C 0 dX5_layPlaces_70 rfl rfl ?_
        refine J_iconst (pc' := 73) (v := (-1 : Int32)) C dX5_layPlaces_72 rfl (by decide) ?_
        obtain ⟨M73, e73, h⟩ := bd h
        refine J_iast (pc' := 74) C dX5_layPlaces_73 rfl e73 ?_
        refine J_goto (tgt := 106) C dX5_layPlaces_74 (by decide) ?_
        refine J_sub (lv' := [(0, .ref x0), (1, .ref x1), (2, .int x2), (3, .int x3), (4, .int x4)]) [1, 2, 3, 4, 5] rfl ?_
        exact ok_X5_layPlaces_K106 C N hk12 ih _ _ _ _ _ _ _ h
def f_X5_layPlaces_L12 (N : Nat) : Nat → Nat → Nat → Int32 → A_M → Option A_M
  | 0, _, _, _, _ => none
  | n + 1, x0, x1, x2, M =>
    (gI M x1 0 2).bind fun v14 =>
    if v14 ≤ x2 then
    (some M)
    else
    (f_X5_layPlaces_L25 N (f_X5_layPlaces_L12 N n) N x0 x1 x2 (0 : Int32) (0 : Int32) M)
set_option maxHeartbeats 4000000 in
set_option maxRecDepth 100000 in
theorem ok_X5_layPlaces_L12 {X : JX} (C : Cx X cX5_layPlaces RX5 6 none 1 22) (N : Nat) : ∀ (n : Nat) (x0 : Nat) (x1 : Nat) (x2 : Int32) (M : A_M) (M' : A_M), f_X5_layPlaces_L12 N n x0 x1 x2 M = some M' → J X 6 12 [(0, .ref x0), (1, .ref x1), (2, .int x2)] [] M 0 0 none M' := by
  intro n
  induction n with
  | zero =>
    intro x0 x1 x2 M M' h
    cases h
  | succ n ih =>
    intro x0 x1 x2 M M' h
    rw [f_X5_layPlaces_L12] at h
    refine J_iload_n (pc' := 13) C 2 dX5_layPlaces_12 rfl rfl rfl ?_
    refine J_aload_n (pc' := 14) C 1 dX5_layPlaces_13 rfl rfl rfl ?_
    obtain ⟨v14, e14, h⟩ := bd h
    refine jg_179 (pc' := 17) C dX5_layPlaces_14 rfl (gI_some e14) ?_
    refine J_icmp_ge (tgt := 118) (pc' := 20) C dX5_layPlaces_17 (by decide) rfl (fun c17 => ?_) (fun c17 => ?_)
    · rw [if_pos c17] at h
      obtain rfl := rt1 h
      exact J_vret C dX5_layPlaces_118 (Nat.zero_le _) (Nat.zero_le _)
    · rw [if_neg c17] at h
      refine J_iconst (pc' := 21) (v := (0 : Int32)) C dX5_layPlaces_20 rfl (by decide) ?_
      refine J_istore_n (pc' := 22) (lv' := [(3, .int (0 : Int32)), (0, .ref x0), (1, .ref x1), (2, .int x2)]) C dX5_layPlaces_21 rfl rfl (by decide) rfl ?_
      refine J_iconst (pc' := 23) (v := (0 : Int32)) C dX5_layPlaces_22 rfl (by decide) ?_
      refine J_istore (pc' := 25) (lv' := [(4, .int (0 : Int32)), (3, .int (0 : Int32)), (0, .ref x0), (1, .ref x1), (2, .int x2)]) C dX5_layPlaces_23 rfl (by decide) rfl ?_
      refine J_sub (lv' := [(0, .ref x0), (1, .ref x1), (2, .int x2), (3, .int (0 : Int32)), (4, .int (0 : Int32))]) [2, 3, 4, 1, 0] rfl ?_
      exact ok_X5_layPlaces_L25 C N ih N _ _ _ _ _ _ _ h
def f_X5_layPlaces (N : Nat) (a0 : Nat) (a1 : Nat) (M : A_M) : Option A_M :=
  (pV M a0 5 6 (.int (0 : Int32))).bind fun M2 =>
  (chk M2 a0 5).bind fun _ =>
  bnd2 (f_X5_newPlace N a0 M2) fun v6 M6 =>
  f_X5_layPlaces_L12 N N a0 a1 (0 : Int32) M6
set_option maxHeartbeats 4000000 in
set_option maxRecDepth 100000 in
theorem ok_X5_layPlaces (N : Nat) {a0 : Nat} {a1 : Nat} {M : A_M} {M' : A_M} (h : f_X5_layPlaces N a0 a1 M = some M') : Runs yX5_layPlaces cX5_layPlaces 6 none 1 22 0 0 [.ref a0, .ref a1] M none M' := by
  refine Runs.intro (by decide) (Nat.le_of_ble_eq_true rfl) (fun X C hnm hMC hMS => ?_)
  have C : Cx X cX5_layPlaces RX5 6 none 1 22 := C
  show J X 6 0 [(0, .ref a0), (1, .ref a1)] [] M 0 0 none M'
  unfold f_X5_layPlaces at h
  refine J_aload_n (pc' := 1) C 0 dX5_layPlaces_0 rfl rfl rfl ?_
  refine J_iconst (pc' := 2) (v := (0 : Int32)) C dX5_layPlaces_1 rfl (by decide) ?_
  obtain ⟨M2, e2, h⟩ := bd h
  refine jp_745 (pc' := 5) C (fun _ => ⟨rfl, rfl⟩) dX5_layPlaces_2 rfl e2 ?_
  refine J_aload_n (pc' := 6) C 0 dX5_layPlaces_5 rfl rfl rfl ?_
  obtain ⟨_, q6, h⟩ := bd h
  obtain ⟨v6, M6, e6, h⟩ := bd2 h
  refine J_cV (pc' := 9) (st := []) (st2 := [.int v6]) (cs2 := 0) (sl2 := 0) C 5 rfl rfl q6 (ok_X5_newPlace N e6) mw_X5_newPlace wq_781 rfl dX5_layPlaces_6 rfl rfl (Nat.le_of_ble_eq_true rfl) (by decide) (by decide) rfl rfl rfl (Nat.zero_le _) (Nat.zero_le _) ?_
  refine J_pop (pc' := 10) C dX5_layPlaces_9 rfl rfl ?_
  refine J_iconst (pc' := 11) (v := (0 : Int32)) C dX5_layPlaces_10 rfl (by decide) ?_
  refine J_istore_n (pc' := 12) (lv' := [(2, .int (0 : Int32)), (0, .ref a0), (1, .ref a1)]) C dX5_layPlaces_11 rfl rfl (by decide) rfl ?_
  refine J_sub (lv' := [(0, .ref a0), (1, .ref a1), (2, .int (0 : Int32))]) [1, 2, 0] rfl ?_
  exact ok_X5_layPlaces_L12 C N N _ _ _ _ _ h
def f_X5_fillImage_L10 (N : Nat) : Nat → Nat → Int32 → A_M → Option A_M
  | 0, _, _, _ => none
  | n + 1, x0, x1, M =>
    (gI M x0 5 6).bind fun v12 =>
    if v12 ≤ x1 then
    (some M)
    else
    ((gR M x0 5 5).bind fun v19 =>
    (ldJ M v19 (x1 >>> ((6 : Int32) &&& 31))).bind fun v27 =>
    (stJ M v19 (x1 >>> ((6 : Int32) &&& 31)) (v27 ||| ((1 : Int64) <<< ((x1 &&& (63 : Int32)).toInt64 &&& 63)))).bind fun M35 =>
    f_X5_fillImage_L10 N n x0 (x1 + 1) M35)
set_option maxHeartbeats 4000000 in
set_option maxRecDepth 100000 in
theorem ok_X5_fillImage_L10 {X : JX} (C : Cx X cX5_fillImage RX5 2 none 1 24) (N : Nat) : ∀ (n : Nat) (x0 : Nat) (x1 : Int32) (M : A_M) (M' : A_M), f_X5_fillImage_L10 N n x0 x1 M = some M' → J X 2 10 [(0, .ref x0), (1, .int x1)] [] M 0 0 none M' := by
  intro n
  induction n with
  | zero =>
    intro x0 x1 M M' h
    cases h
  | succ n ih =>
    intro x0 x1 M M' h
    rw [f_X5_fillImage_L10] at h
    refine J_iload_n (pc' := 11) C 1 dX5_fillImage_10 rfl rfl rfl ?_
    refine J_aload_n (pc' := 12) C 0 dX5_fillImage_11 rfl rfl rfl ?_
    obtain ⟨v12, e12, h⟩ := bd h
    refine jg_745 (pc' := 15) C dX5_fillImage_12 rfl (gI_some e12) ?_
    refine J_icmp_ge (tgt := 42) (pc' := 18) C dX5_fillImage_15 (by decide) rfl (fun c15 => ?_) (fun c15 => ?_)
    · rw [if_pos c15] at h
      obtain rfl := rt1 h
      exact J_vret C dX5_fillImage_42 (Nat.zero_le _) (Nat.zero_le _)
    · rw [if_neg c15] at h
      refine J_aload_n (pc' := 19) C 0 dX5_fillImage_18 rfl rfl rfl ?_
      obtain ⟨v19, e19, h⟩ := bd h
      refine jg_744 (pc' := 22) C dX5_fillImage_19 rfl (gR_some e19) ?_
      refine J_iload_n (pc' := 23) C 1 dX5_fillImage_22 rfl rfl rfl ?_
      refine J_bipush (pc' := 25) (v := (6 : Int32)) C dX5_fillImage_23 rfl (by decide) ?_
      refine J_ishr (pc' := 26) C dX5_fillImage_25 rfl ?_
      refine J_dup2 (pc' := 27) C dX5_fillImage_26 rfl rfl rfl ?_
      obtain ⟨v27, e27, h⟩ := bd h
      refine J_lald (pc' := 28) C dX5_fillImage_27 rfl e27 ?_
      refine J_lconst (pc' := 29) (v := (1 : Int64)) C dX5_fillImage_28 rfl (by decide) ?_
      refine J_iload_n (pc' := 30) C 1 dX5_fillImage_29 rfl rfl rfl ?_
      refine J_bipush (pc' := 32) (v := (63 : Int32)) C dX5_fillImage_30 rfl (by decide) ?_
      refine J_iand (pc' := 33) C dX5_fillImage_32 rfl ?_
      refine J_lshl (pc' := 34) C dX5_fillImage_33 rfl ?_
      refine J_lor (pc' := 35) C dX5_fillImage_34 rfl ?_
      obtain ⟨M35, e35, h⟩ := bd h
      refine J_last (pc' := 36) C dX5_fillImage_35 rfl e35 ?_
      refine J_iinc (pc' := 39) (lv' := [(1, .int (x1 + 1)), (0, .ref x0)]) C 1 dX5_fillImage_36 rfl rfl rfl (by decide) rfl ?_
      refine J_goto (tgt := 10) C dX5_fillImage_39 (by decide) ?_
      refine J_sub (lv' := [(0, .ref x0), (1, .int (x1 + 1))]) [1, 0] rfl ?_
      exact ih _ _ _ _ h
def f_X5_fillImage (N : Nat) (a0 : Nat) (M : A_M) : Option A_M :=
  (gR M a0 5 5).bind fun v1 =>
  (f_J7_fill_d0a16 N v1 (0 : Int64) M).bind fun M5 =>
  f_X5_fillImage_L10 N N a0 (0 : Int32) M5
set_option maxHeartbeats 4000000 in
set_option maxRecDepth 100000 in
theorem ok_X5_fillImage (N : Nat) {a0 : Nat} {M : A_M} {M' : A_M} (h : f_X5_fillImage N a0 M = some M') : Runs yX5_fillImage cX5_fillImage 2 none 1 24 0 0 [.ref a0] M none M' := by
  refine Runs.intro (by decide) (Nat.le_of_ble_eq_true rfl) (fun X C hnm hMC hMS => ?_)
  have C : Cx X cX5_fillImage RX5 2 none 1 24 := C
  show J X 2 0 [(0, .ref a0)] [] M 0 0 none M'
  unfold f_X5_fillImage at h
  refine J_aload_n (pc' := 1) C 0 dX5_fillImage_0 rfl rfl rfl ?_
  obtain ⟨v1, e1, h⟩ := bd h
  refine jg_744 (pc' := 4) C dX5_fillImage_1 rfl (gR_some e1) ?_
  refine J_lconst (pc' := 5) (v := (0 : Int64)) C dX5_fillImage_4 rfl (by decide) ?_
  obtain ⟨M5, e5, h⟩ := bd h
  refine J_cS (pc' := 8) (st := []) (st2 := []) (cs2 := 0) (sl2 := 0) C (ok_J7_fill_d0a16 N e5) mw_J7_fill_d0a16 wq_791 rfl dX5_fillImage_5 rfl rfl (Nat.le_of_ble_eq_true rfl) (by decide) (by decide) rfl rfl rfl (Nat.zero_le _) (Nat.zero_le _) ?_
  refine J_iconst (pc' := 9) (v := (0 : Int32)) C dX5_fillImage_8 rfl (by decide) ?_
  refine J_istore_n (pc' := 10) (lv' := [(1, .int (0 : Int32)), (0, .ref a0)]) C dX5_fillImage_9 rfl rfl (by decide) rfl ?_
  refine J_sub (lv' := [(0, .ref a0), (1, .int (0 : Int32))]) [1, 0] rfl ?_
  exact ok_X5_fillImage_L10 C N N _ _ _ _ h
def f_X5_imageIs_L2 (N : Nat) : Nat → Nat → Int32 → Int32 → A_M → Option (Int32 × A_M)
  | 0, _, _, _, _ => none
  | n + 1, x0, x1, x2, M =>
    (gI M x0 5 7).bind fun v4 =>
    if v4 ≤ x2 then
    (some ((1 : Int32), M))
    else
    ((gR M x0 5 1).bind fun v11 =>
    (ldJ M v11 ((x1 * (9 : Int32)) + x2)).bind fun v20 =>
    (gR M x0 5 5).bind fun v22 =>
    (ldJ M v22 x2).bind fun v26 =>
    if (lg_cmp v20 v26) = 0 then
    (f_X5_imageIs_L2 N n x0 x1 (x2 + 1) M)
    else
    (some ((0 : Int32), M)))
set_option maxHeartbeats 4000000 in
set_option maxRecDepth 100000 in
theorem ok_X5_imageIs_L2 {X : JX} (C : Cx X cX5_imageIs RX5 3 (some .boolean) 0 0) (N : Nat) : ∀ (n : Nat) (x0 : Nat) (x1 : Int32) (x2 : Int32) (M : A_M) (r : Int32) (M' : A_M), f_X5_imageIs_L2 N n x0 x1 x2 M = some (r, M') → J X 3 2 [(0, .ref x0), (1, .int x1), (2, .int x2)] [] M 0 0 (some (.int r)) M' := by
  intro n
  induction n with
  | zero =>
    intro x0 x1 x2 M r M' h
    cases h
  | succ n ih =>
    intro x0 x1 x2 M r M' h
    rw [f_X5_imageIs_L2] at h
    refine J_iload_n (pc' := 3) C 2 dX5_imageIs_2 rfl rfl rfl ?_
    refine J_aload_n (pc' := 4) C 0 dX5_imageIs_3 rfl rfl rfl ?_
    obtain ⟨v4, e4, h⟩ := bd h
    refine jg_746 (pc' := 7) C dX5_imageIs_4 rfl (gI_some e4) ?_
    refine J_icmp_ge (tgt := 39) (pc' := 10) C dX5_imageIs_7 (by decide) rfl (fun c7 => ?_) (fun c7 => ?_)
    · rw [if_pos c7] at h
      refine J_iconst (pc' := 40) (v := (1 : Int32)) C dX5_imageIs_39 rfl (by decide) ?_
      obtain ⟨rfl, rfl⟩ := rt2 h
      exact J_zret C rfl dX5_imageIs_40 (Nat.zero_le _) (Nat.zero_le _)
    · rw [if_neg c7] at h
      refine J_aload_n (pc' := 11) C 0 dX5_imageIs_10 rfl rfl rfl ?_
      obtain ⟨v11, e11, h⟩ := bd h
      refine jg_740 (pc' := 14) C dX5_imageIs_11 rfl (gR_some e11) ?_
      refine J_iload_n (pc' := 15) C 1 dX5_imageIs_14 rfl rfl rfl ?_
      refine J_bipush (pc' := 17) (v := (9 : Int32)) C dX5_imageIs_15 rfl (by decide) ?_
      refine J_imul (pc' := 18) C dX5_imageIs_17 rfl ?_
      refine J_iload_n (pc' := 19) C 2 dX5_imageIs_18 rfl rfl rfl ?_
      refine J_iadd (pc' := 20) C dX5_imageIs_19 rfl ?_
      obtain ⟨v20, e20, h⟩ := bd h
      refine J_lald (pc' := 21) C dX5_imageIs_20 rfl e20 ?_
      refine J_aload_n (pc' := 22) C 0 dX5_imageIs_21 rfl rfl rfl ?_
      obtain ⟨v22, e22, h⟩ := bd h
      refine jg_744 (pc' := 25) C dX5_imageIs_22 rfl (gR_some e22) ?_
      refine J_iload_n (pc' := 26) C 2 dX5_imageIs_25 rfl rfl rfl ?_
      obtain ⟨v26, e26, h⟩ := bd h
      refine J_lald (pc' := 27) C dX5_imageIs_26 rfl e26 ?_
      refine J_lcmp (pc' := 28) C dX5_imageIs_27 rfl ?_
      refine J_if_eq (tgt := 33) (pc' := 31) C dX5_imageIs_28 (by decide) rfl (fun c28 => ?_) (fun c28 => ?_)
      · rw [if_pos c28] at h
        refine J_iinc (pc' := 36) (lv' := [(2, .int (x2 + 1)), (0, .ref x0), (1, .int x1)]) C 2 dX5_imageIs_33 rfl rfl rfl (by decide) rfl ?_
        refine J_goto (tgt := 2) C dX5_imageIs_36 (by decide) ?_
        refine J_sub (lv' := [(0, .ref x0), (1, .int x1), (2, .int (x2 + 1))]) [1, 2, 0] rfl ?_
        exact ih _ _ _ _ _ _ h
      · rw [if_neg c28] at h
        refine J_iconst (pc' := 32) (v := (0 : Int32)) C dX5_imageIs_31 rfl (by decide) ?_
        obtain ⟨rfl, rfl⟩ := rt2 h
        exact J_zret C rfl dX5_imageIs_32 (Nat.zero_le _) (Nat.zero_le _)
def f_X5_imageIs (N : Nat) (a0 : Nat) (a1 : Int32) (M : A_M) : Option (Int32 × A_M) :=
  f_X5_imageIs_L2 N N a0 a1 (0 : Int32) M
set_option maxHeartbeats 4000000 in
set_option maxRecDepth 100000 in
theorem ok_X5_imageIs (N : Nat) {a0 : Nat} {a1 : Int32} {M : A_M} {r : Int32} {M' : A_M} (h : f_X5_imageIs N a0 a1 M = some (r, M')) : Runs yX5_imageIs cX5_imageIs 3 (some .boolean) 0 0 0 0 [.ref a0, .int a1] M (some (.int r)) M' := by
  refine Runs.intro (by decide) (Nat.le_of_ble_eq_true rfl) (fun X C hnm hMC hMS => ?_)
  have C : Cx X cX5_imageIs RX5 3 (some .boolean) 0 0 := C
  show J X 3 0 [(0, .ref a0), (1, .int a1)] [] M 0 0 (some (.int r)) M'
  unfold f_X5_imageIs at h
  refine J_iconst (pc' := 1) (v := (0 : Int32)) C dX5_imageIs_0 rfl (by decide) ?_
  refine J_istore_n (pc' := 2) (lv' := [(2, .int (0 : Int32)), (0, .ref a0), (1, .int a1)]) C dX5_imageIs_1 rfl rfl (by decide) rfl ?_
  refine J_sub (lv' := [(0, .ref a0), (1, .int a1), (2, .int (0 : Int32))]) [1, 2, 0] rfl ?_
  exact ok_X5_imageIs_L2 C N N _ _ _ _ _ _ h
def f_X5_slotOfImage_L51 (N : Nat) : Nat → Nat → Int32 → Int32 → A_M → Option (Int32 × A_M)
  | 0, _, _, _, _ => none
  | n + 1, x0, x3, x4, M =>
    if (4096 : Int32) ≤ x4 then
    (some (x3, M))
    else
    ((gR M x0 5 4).bind fun v60 =>
    (ldI M v60 x3).bind fun v64 =>
    if v64 = 0 then
    (some (x3, M))
    else
    ((gR M x0 5 4).bind fun v70 =>
    (ldI M v70 x3).bind fun v74 =>
    (chk M x0 5).bind fun _ =>
    bnd2 (f_X5_imageIs N x0 (v74 - (1 : Int32)) M) fun v77 M77 =>
    if v77 = 0 then
    (f_X5_slotOfImage_L51 N n x0 ((x3 + (1 : Int32)) &&& (4095 : Int32)) (x4 + 1) M77)
    else
    (some (x3, M77))))
set_option maxHeartbeats 4000000 in
set_option maxRecDepth 100000 in
theorem ok_X5_slotOfImage_L51 {X : JX} (C : Cx X cX5_slotOfImage RX5 5 (some .int) 1 22) (N : Nat) : ∀ (n : Nat) (x0 : Nat) (x3 : Int32) (x4 : Int32) (M : A_M) (r : Int32) (M' : A_M), f_X5_slotOfImage_L51 N n x0 x3 x4 M = some (r, M') → J X 5 51 [(0, .ref x0), (3, .int x3), (4, .int x4)] [] M 0 0 (some (.int r)) M' := by
  intro n
  induction n with
  | zero =>
    intro x0 x3 x4 M r M' h
    cases h
  | succ n ih =>
    intro x0 x3 x4 M r M' h
    rw [f_X5_slotOfImage_L51] at h
    refine J_iload (pc' := 53) C 2 dX5_slotOfImage_51 rfl rfl ?_
    refine J_sipush (pc' := 56) (v := (4096 : Int32)) C dX5_slotOfImage_53 rfl (by decide) ?_
    refine J_icmp_ge (tgt := 97) (pc' := 59) C dX5_slotOfImage_56 (by decide) rfl (fun c56 => ?_) (fun c56 => ?_)
    · rw [if_pos c56] at h
      refine J_iload_n (pc' := 98) C 1 dX5_slotOfImage_97 rfl rfl rfl ?_
      obtain ⟨rfl, rfl⟩ := rt2 h
      exact J_iret C dX5_slotOfImage_98 (Nat.zero_le _) (Nat.zero_le _)
    · rw [if_neg c56] at h
      refine J_aload_n (pc' := 60) C 0 dX5_slotOfImage_59 rfl rfl rfl ?_
      obtain ⟨v60, e60, h⟩ := bd h
      refine jg_743 (pc' := 63) C dX5_slotOfImage_60 rfl (gR_some e60) ?_
      refine J_iload_n (pc' := 64) C 1 dX5_slotOfImage_63 rfl rfl rfl ?_
      obtain ⟨v64, e64, h⟩ := bd h
      refine J_iald (pc' := 65) C dX5_slotOfImage_64 rfl e64 ?_
      refine J_if_eq (tgt := 97) (pc' := 68) C dX5_slotOfImage_65 (by decide) rfl (fun c65 => ?_) (fun c65 => ?_)
      · rw [if_pos c65] at h
        refine J_iload_n (pc' := 98) C 1 dX5_slotOfImage_97 rfl rfl rfl ?_
        obtain ⟨rfl, rfl⟩ := rt2 h
        exact J_iret C dX5_slotOfImage_98 (Nat.zero_le _) (Nat.zero_le _)
      · rw [if_neg c65] at h
        refine J_aload_n (pc' := 69) C 0 dX5_slotOfImage_68 rfl rfl rfl ?_
        refine J_aload_n (pc' := 70) C 0 dX5_slotOfImage_69 rfl rfl rfl ?_
        obtain ⟨v70, e70, h⟩ := bd h
        refine jg_743 (pc' := 73) C dX5_slotOfImage_70 rfl (gR_some e70) ?_
        refine J_iload_n (pc' := 74) C 1 dX5_slotOfImage_73 rfl rfl rfl ?_
        obtain ⟨v74, e74, h⟩ := bd h
        refine J_iald (pc' := 75) C dX5_slotOfImage_74 rfl e74 ?_
        refine J_iconst (pc' := 76) (v := (1 : Int32)) C dX5_slotOfImage_75 rfl (by decide) ?_
        refine J_isub (pc' := 77) C dX5_slotOfImage_76 rfl ?_
        obtain ⟨_, q77, h⟩ := bd h
        obtain ⟨v77, M77, e77, h⟩ := bd2 h
        refine J_cV (pc' := 80) (st := []) (st2 := [.int v77]) (cs2 := 0) (sl2 := 0) C 5 rfl rfl q77 (ok_X5_imageIs N e77) mw_X5_imageIs wq_801 rfl dX5_slotOfImage_77 rfl rfl (Nat.le_of_ble_eq_true rfl) (by decide) (by decide) rfl rfl rfl (Nat.zero_le _) (Nat.zero_le _) ?_
        refine J_if_ne (tgt := 97) (pc' := 83) C dX5_slotOfImage_80 (by decide) rfl (fun c80 => ?_) (fun c80 => ?_)
        · rw [if_neg c80] at h
          refine J_iload_n (pc' := 98) C 1 dX5_slotOfImage_97 rfl rfl rfl ?_
          obtain ⟨rfl, rfl⟩ := rt2 h
          exact J_iret C dX5_slotOfImage_98 (Nat.zero_le _) (Nat.zero_le _)
        · rw [if_pos c80] at h
          refine J_iload_n (pc' := 84) C 1 dX5_slotOfImage_83 rfl rfl rfl ?_
          refine J_iconst (pc' := 85) (v := (1 : Int32)) C dX5_slotOfImage_84 rfl (by decide) ?_
          refine J_iadd (pc' := 86) C dX5_slotOfImage_85 rfl ?_
          refine J_sipush (pc' := 89) (v := (4095 : Int32)) C dX5_slotOfImage_86 rfl (by decide) ?_
          refine J_iand (pc' := 90) C dX5_slotOfImage_89 rfl ?_
          refine J_istore_n (pc' := 91) (lv' := [(3, .int ((x3 + (1 : Int32)) &&& (4095 : Int32))), (0, .ref x0), (4, .int x4)]) C dX5_slotOfImage_90 rfl rfl (by decide) rfl ?_
          refine J_iinc (pc' := 94) (lv' := [(4, .int (x4 + 1)), (3, .int ((x3 + (1 : Int32)) &&& (4095 : Int32))), (0, .ref x0)]) C 2 dX5_slotOfImage_91 rfl rfl rfl (by decide) rfl ?_
          refine J_goto (tgt := 51) C dX5_slotOfImage_94 (by decide) ?_
          refine J_sub (lv' := [(0, .ref x0), (3, .int ((x3 + (1 : Int32)) &&& (4095 : Int32))), (4, .int (x4 + 1))]) [2, 1, 0] rfl ?_
          exact ih _ _ _ _ _ _ h
def f_X5_slotOfImage_K38 (N : Nat) (x0 : Nat) (x1 : Int64) (M : A_M) : Option (Int32 × A_M) :=
  f_X5_slotOfImage_L51 N N x0 ((((x1.toUInt64 >>> ((20 : Int32).toInt64.toUInt64 &&& Int64.toUInt64 63)).toInt64).toInt32) &&& (4095 : Int32)) (0 : Int32) M
set_option maxHeartbeats 4000000 in
set_option maxRecDepth 100000 in
theorem ok_X5_slotOfImage_K38 {X : JX} (C : Cx X cX5_slotOfImage RX5 5 (some .int) 1 22) (N : Nat) : ∀ (x0 : Nat) (x1 : Int64) (M : A_M) (r : Int32) (M' : A_M), f_X5_slotOfImage_K38 N x0 x1 M = some (r, M') → J X 5 38 [(0, .ref x0), (1, .long x1)] [] M 0 0 (some (.int r)) M' := by
  intro x0 x1 M r M' h
  unfold f_X5_slotOfImage_K38 at h
  refine J_lload_n (pc' := 39) C 1 dX5_slotOfImage_38 rfl rfl rfl ?_
  refine J_bipush (pc' := 41) (v := (20 : Int32)) C dX5_slotOfImage_39 rfl (by decide) ?_
  refine J_lushr (pc' := 42) C dX5_slotOfImage_41 rfl ?_
  refine J_l2i (pc' := 43) C dX5_slotOfImage_42 rfl ?_
  refine J_sipush (pc' := 46) (v := (4095 : Int32)) C dX5_slotOfImage_43 rfl (by decide) ?_
  refine J_iand (pc' := 47) C dX5_slotOfImage_46 rfl ?_
  refine J_istore_n (pc' := 48) (lv' := [(3, .int ((((x1.toUInt64 >>> ((20 : Int32).toInt64.toUInt64 &&& Int64.toUInt64 63)).toInt64).toInt32) &&& (4095 : Int32))), (0, .ref x0), (1, .long x1)]) C dX5_slotOfImage_47 rfl rfl (by decide) rfl ?_
  refine J_iconst (pc' := 49) (v := (0 : Int32)) C dX5_slotOfImage_48 rfl (by decide) ?_
  refine J_istore (pc' := 51) (lv' := [(4, .int (0 : Int32)), (3, .int ((((x1.toUInt64 >>> ((20 : Int32).toInt64.toUInt64 &&& Int64.toUInt64 63)).toInt64).toInt32) &&& (4095 : Int32))), (0, .ref x0), (1, .long x1)]) C dX5_slotOfImage_49 rfl (by decide) rfl ?_
  refine J_sub (lv' := [(0, .ref x0), (3, .int ((((x1.toUInt64 >>> ((20 : Int32).toInt64.toUInt64 &&& Int64.toUInt64 63)).toInt64).toInt32) &&& (4095 : Int32))), (4, .int (0 : Int32))]) [2, 1, 0] rfl ?_
  exact ok_X5_slotOfImage_L51 C N N _ _ _ _ _ _ h
def f_X5_slotOfImage_L4 (N : Nat) : Nat → Nat → Int64 → Int32 → A_M → Option (Int32 × A_M)
  | 0, _, _, _, _ => none
  | n + 1, x0, x1, x3, M =>
    (gI M x0 5 7).bind fun v6 =>
    if v6 ≤ x3 then
    (f_X5_slotOfImage_K38 N x0 x1 M)
    else
    ((gR M x0 5 5).bind fun v14 =>
    (ldJ M v14 x3).bind fun v18 =>
    f_X5_slotOfImage_L4 N n x0 (((x1 ^^^ v18) * (-7046029254386353131 : Int64)) ^^^ ((((x1 ^^^ v18) * (-7046029254386353131 : Int64)).toUInt64 >>> ((29 : Int32).toInt64.toUInt64 &&& Int64.toUInt64 63)).toInt64)) (x3 + 1) M)
set_option maxHeartbeats 4000000 in
set_option maxRecDepth 100000 in
theorem ok_X5_slotOfImage_L4 {X : JX} (C : Cx X cX5_slotOfImage RX5 5 (some .int) 1 22) (N : Nat) : ∀ (n : Nat) (x0 : Nat) (x1 : Int64) (x3 : Int32) (M : A_M) (r : Int32) (M' : A_M), f_X5_slotOfImage_L4 N n x0 x1 x3 M = some (r, M') → J X 5 4 [(0, .ref x0), (1, .long x1), (3, .int x3)] [] M 0 0 (some (.int r)) M' := by
  intro n
  induction n with
  | zero =>
    intro x0 x1 x3 M r M' h
    cases h
  | succ n ih =>
    intro x0 x1 x3 M r M' h
    rw [f_X5_slotOfImage_L4] at h
    refine J_iload_n (pc' := 5) C 2 dX5_slotOfImage_4 rfl rfl rfl ?_
    refine J_aload_n (pc' := 6) C 0 dX5_slotOfImage_5 rfl rfl rfl ?_
    obtain ⟨v6, e6, h⟩ := bd h
    refine jg_746 (pc' := 9) C dX5_slotOfImage_6 rfl (gI_some e6) ?_
    refine J_icmp_ge (tgt := 38) (pc' := 12) C dX5_slotOfImage_9 (by decide) rfl (fun c9 => ?_) (fun c9 => ?_)
    · rw [if_pos c9] at h
      refine J_sub (lv' := [(0, .ref x0), (1, .long x1)]) [0, 1] rfl ?_
      exact ok_X5_slotOfImage_K38 C N _ _ _ _ _ h
    · rw [if_neg c9] at h
      refine J_lload_n (pc' := 13) C 1 dX5_slotOfImage_12 rfl rfl rfl ?_
      refine J_aload_n (pc' := 14) C 0 dX5_slotOfImage_13 rfl rfl rfl ?_
      obtain ⟨v14, e14, h⟩ := bd h
      refine jg_744 (pc' := 17) C dX5_slotOfImage_14 rfl (gR_some e14) ?_
      refine J_iload_n (pc' := 18) C 2 dX5_slotOfImage_17 rfl rfl rfl ?_
      obtain ⟨v18, e18, h⟩ := bd h
      refine J_lald (pc' := 19) C dX5_slotOfImage_18 rfl e18 ?_
      refine J_lxor (pc' := 20) C dX5_slotOfImage_19 rfl ?_
      refine J_ldc2 (pc' := 23) C dX5_slotOfImage_20 rfl wq_800 ?_
      refine J_lmul (pc' := 24) C dX5_slotOfImage_23 rfl ?_
      refine J_lstore_n (pc' := 25) (lv' := [(1, .long ((x1 ^^^ v18) * (-7046029254386353131 : Int64))), (0, .ref x0), (3, .int x3)]) C dX5_slotOfImage_24 rfl rfl (by decide) rfl ?_
      refine J_lload_n (pc' := 26) C 0 dX5_slotOfImage_25 rfl rfl rfl ?_
      refine J_lload_n (pc' := 27) C 0 dX5_slotOfImage_26 rfl rfl rfl ?_
      refine J_bipush (pc' := 29) (v := (29 : Int32)) C dX5_slotOfImage_27 rfl (by decide) ?_
      refine J_lushr (pc' := 30) C dX5_slotOfImage_29 rfl ?_
      refine J_lxor (pc' := 31) C dX5_slotOfImage_30 rfl ?_
      refine J_lstore_n (pc' := 32) (lv' := [(1, .long (((x1 ^^^ v18) * (-7046029254386353131 : Int64)) ^^^ ((((x1 ^^^ v18) * (-7046029254386353131 : Int64)).toUInt64 >>> ((29 : Int32).toInt64.toUInt64 &&& Int64.toUInt64 63)).toInt64))), (0, .ref x0), (3, .int x3)]) C dX5_slotOfImage_31 rfl rfl (by decide) rfl ?_
      refine J_iinc (pc' := 35) (lv' := [(3, .int (x3 + 1)), (1, .long (((x1 ^^^ v18) * (-7046029254386353131 : Int64)) ^^^ ((((x1 ^^^ v18) * (-7046029254386353131 : Int64)).toUInt64 >>> ((29 : Int32).toInt64.toUInt64 &&& Int64.toUInt64 63)).toInt64))), (0, .ref x0)]) C 2 dX5_slotOfImage_32 rfl rfl rfl (by decide) rfl ?_
      refine J_goto (tgt := 4) C dX5_slotOfImage_35 (by decide) ?_
      refine J_sub (lv' := [(0, .ref x0), (1, .long (((x1 ^^^ v18) * (-7046029254386353131 : Int64)) ^^^ ((((x1 ^^^ v18) * (-7046029254386353131 : Int64)).toUInt64 >>> ((29 : Int32).toInt64.toUInt64 &&& Int64.toUInt64 63)).toInt64))), (3, .int (x3 + 1))]) [2, 1, 0] rfl ?_
      exact ih _ _ _ _ _ _ h
def f_X5_slotOfImage (N : Nat) (a0 : Nat) (M : A_M) : Option (Int32 × A_M) :=
  f_X5_slotOfImage_L4 N N a0 (0 : Int64) (0 : Int32) M
set_option maxHeartbeats 4000000 in
set_option maxRecDepth 100000 in
theorem ok_X5_slotOfImage (N : Nat) {a0 : Nat} {M : A_M} {r : Int32} {M' : A_M} (h : f_X5_slotOfImage N a0 M = some (r, M')) : Runs yX5_slotOfImage cX5_slotOfImage 5 (some .int) 1 22 0 0 [.ref a0] M (some (.int r)) M' := by
  refine Runs.intro (by decide) (Nat.le_of_ble_eq_true rfl) (fun X C hnm hMC hMS => ?_)
  have C : Cx X cX5_slotOfImage RX5 5 (some .int) 1 22 := C
  show J X 5 0 [(0, .ref a0)] [] M 0 0 (some (.int r)) M'
  unfold f_X5_slotOfImage at h
  refine J_lconst (pc' := 1) (v := (0 : Int64)) C dX5_slotOfImage_0 rfl (by decide) ?_
  refine J_lstore_n (pc' := 2) (lv' := [(1, .long (0 : Int64)), (0, .ref a0)]) C dX5_slotOfImage_1 rfl rfl (by decide) rfl ?_
  refine J_iconst (pc' := 3) (v := (0 : Int32)) C dX5_slotOfImage_2 rfl (by decide) ?_
  refine J_istore_n (pc' := 4) (lv' := [(3, .int (0 : Int32)), (1, .long (0 : Int64)), (0, .ref a0)]) C dX5_slotOfImage_3 rfl rfl (by decide) rfl ?_
  refine J_sub (lv' := [(0, .ref a0), (1, .long (0 : Int64)), (3, .int (0 : Int32))]) [2, 1, 0] rfl ?_
  exact ok_X5_slotOfImage_L4 C N N _ _ _ _ _ _ h
def f_X5_imageIsHome_L15 (N : Nat) : Nat → Nat → Int32 → A_M → Option (Int32 × A_M)
  | 0, _, _, _ => none
  | n + 1, x0, x1, M =>
    (gI M x0 5 7).bind fun v17 =>
    if v17 ≤ x1 then
    (some ((1 : Int32), M))
    else
    ((gR M x0 5 5).bind fun v24 =>
    (ldJ M v24 x1).bind fun v28 =>
    if (lg_cmp v28 (0 : Int64)) = 0 then
    (f_X5_imageIsHome_L15 N n x0 (x1 + 1) M)
    else
    (some ((0 : Int32), M)))
set_option maxHeartbeats 4000000 in
set_option maxRecDepth 100000 in
theorem ok_X5_imageIsHome_L15 {X : JX} (C : Cx X cX5_imageIsHome RX5 2 (some .boolean) 0 0) (N : Nat) : ∀ (n : Nat) (x0 : Nat) (x1 : Int32) (M : A_M) (r : Int32) (M' : A_M), f_X5_imageIsHome_L15 N n x0 x1 M = some (r, M') → J X 2 15 [(0, .ref x0), (1, .int x1)] [] M 0 0 (some (.int r)) M' := by
  intro n
  induction n with
  | zero =>
    intro x0 x1 M r M' h
    cases h
  | succ n ih =>
    intro x0 x1 M r M' h
    rw [f_X5_imageIsHome_L15] at h
    refine J_iload_n (pc' := 16) C 1 dX5_imageIsHome_15 rfl rfl rfl ?_
    refine J_aload_n (pc' := 17) C 0 dX5_imageIsHome_16 rfl rfl rfl ?_
    obtain ⟨v17, e17, h⟩ := bd h
    refine jg_746 (pc' := 20) C dX5_imageIsHome_17 rfl (gI_some e17) ?_
    refine J_icmp_ge (tgt := 42) (pc' := 23) C dX5_imageIsHome_20 (by decide) rfl (fun c20 => ?_) (fun c20 => ?_)
    · rw [if_pos c20] at h
      refine J_iconst (pc' := 43) (v := (1 : Int32)) C dX5_imageIsHome_42 rfl (by decide) ?_
      obtain ⟨rfl, rfl⟩ := rt2 h
      exact J_zret C rfl dX5_imageIsHome_43 (Nat.zero_le _) (Nat.zero_le _)
    · rw [if_neg c20] at h
      refine J_aload_n (pc' := 24) C 0 dX5_imageIsHome_23 rfl rfl rfl ?_
      obtain ⟨v24, e24, h⟩ := bd h
      refine jg_744 (pc' := 27) C dX5_imageIsHome_24 rfl (gR_some e24) ?_
      refine J_iload_n (pc' := 28) C 1 dX5_imageIsHome_27 rfl rfl rfl ?_
      obtain ⟨v28, e28, h⟩ := bd h
      refine J_lald (pc' := 29) C dX5_imageIsHome_28 rfl e28 ?_
      refine J_lconst (pc' := 30) (v := (0 : Int64)) C dX5_imageIsHome_29 rfl (by decide) ?_
      refine J_lcmp (pc' := 31) C dX5_imageIsHome_30 rfl ?_
      refine J_if_eq (tgt := 36) (pc' := 34) C dX5_imageIsHome_31 (by decide) rfl (fun c31 => ?_) (fun c31 => ?_)
      · rw [if_pos c31] at h
        refine J_iinc (pc' := 39) (lv' := [(1, .int (x1 + 1)), (0, .ref x0)]) C 1 dX5_imageIsHome_36 rfl rfl rfl (by decide) rfl ?_
        refine J_goto (tgt := 15) C dX5_imageIsHome_39 (by decide) ?_
        refine J_sub (lv' := [(0, .ref x0), (1, .int (x1 + 1))]) [1, 0] rfl ?_
        exact ih _ _ _ _ _ h
      · rw [if_neg c31] at h
        refine J_iconst (pc' := 35) (v := (0 : Int32)) C dX5_imageIsHome_34 rfl (by decide) ?_
        obtain ⟨rfl, rfl⟩ := rt2 h
        exact J_zret C rfl dX5_imageIsHome_35 (Nat.zero_le _) (Nat.zero_le _)
def f_X5_imageIsHome (N : Nat) (a0 : Nat) (M : A_M) : Option (Int32 × A_M) :=
  (gR M a0 5 5).bind fun v1 =>
  (ldJ M v1 (0 : Int32)).bind fun v5 =>
  if (lg_cmp v5 (1 : Int64)) = 0 then
  (f_X5_imageIsHome_L15 N N a0 (1 : Int32) M)
  else
  (some ((0 : Int32), M))
set_option maxHeartbeats 4000000 in
set_option maxRecDepth 100000 in
theorem ok_X5_imageIsHome (N : Nat) {a0 : Nat} {M : A_M} {r : Int32} {M' : A_M} (h : f_X5_imageIsHome N a0 M = some (r, M')) : Runs yX5_imageIsHome cX5_imageIsHome 2 (some .boolean) 0 0 0 0 [.ref a0] M (some (.int r)) M' := by
  refine Runs.intro (by decide) (Nat.le_of_ble_eq_true rfl) (fun X C hnm hMC hMS => ?_)
  have C : Cx X cX5_imageIsHome RX5 2 (some .boolean) 0 0 := C
  show J X 2 0 [(0, .ref a0)] [] M 0 0 (some (.int r)) M'
  unfold f_X5_imageIsHome at h
  refine J_aload_n (pc' := 1) C 0 dX5_imageIsHome_0 rfl rfl rfl ?_
  obtain ⟨v1, e1, h⟩ := bd h
  refine jg_744 (pc' := 4) C dX5_imageIsHome_1 rfl (gR_some e1) ?_
  refine J_iconst (pc' := 5) (v := (0 : Int32)) C dX5_imageIsHome_4 rfl (by decide) ?_
  obtain ⟨v5, e5, h⟩ := bd h
  refine J_lald (pc' := 6) C dX5_imageIsHome_5 rfl e5 ?_
  refine J_lconst (pc' := 7) (v := (1 : Int64)) C dX5_imageIsHome_6 rfl (by decide) ?_
  refine J_lcmp (pc' := 8) C dX5_imageIsHome_7 rfl ?_
  refine J_if_eq (tgt := 13) (pc' := 11) C dX5_imageIsHome_8 (by decide) rfl (fun c8 => ?_) (fun c8 => ?_)
  · rw [if_pos c8] at h
    refine J_iconst (pc' := 14) (v := (1 : Int32)) C dX5_imageIsHome_13 rfl (by decide) ?_
    refine J_istore_n (pc' := 15) (lv' := [(1, .int (1 : Int32)), (0, .ref a0)]) C dX5_imageIsHome_14 rfl rfl (by decide) rfl ?_
    refine J_sub (lv' := [(0, .ref a0), (1, .int (1 : Int32))]) [1, 0] rfl ?_
    exact ok_X5_imageIsHome_L15 C N N _ _ _ _ _ h
  · rw [if_neg c8] at h
    refine J_iconst (pc' := 12) (v := (0 : Int32)) C dX5_imageIsHome_11 rfl (by decide) ?_
    obtain ⟨rfl, rfl⟩ := rt2 h
    exact J_zret C rfl dX5_imageIsHome_12 (Nat.zero_le _) (Nat.zero_le _)
def f_X5_takeImage_L99 (N : Nat) : Nat → Nat → Int32 → Int32 → A_M → Option (Int32 × A_M)
  | 0, _, _, _, _ => none
  | n + 1, x0, x4, x5, M =>
    if (2000 : Int32) ≤ x5 then
    (some ((1 : Int32), M))
    else
    ((gR M x0 5 2).bind fun v108 =>
    (ldI M v108 x4).bind fun v113 =>
    if v113 < 0 then
    (some ((1 : Int32), M))
    else
    ((gR M x0 5 2).bind fun v118 =>
    (ldI M v118 x4).bind fun v123 =>
    (gI M x0 5 10).bind fun v128 =>
    (pV M x0 5 10 (.int (v128 + (1 : Int32)))).bind fun M133 =>
    f_X5_takeImage_L99 N n x0 v123 (x5 + 1) M133))
set_option maxHeartbeats 4000000 in
set_option maxRecDepth 100000 in
theorem ok_X5_takeImage_L99 {X : JX} (C : Cx X cX5_takeImage RX5 6 (some .boolean) 2 46) (N : Nat) : ∀ (n : Nat) (x0 : Nat) (x4 : Int32) (x5 : Int32) (M : A_M) (r : Int32) (M' : A_M), f_X5_takeImage_L99 N n x0 x4 x5 M = some (r, M') → J X 6 99 [(0, .ref x0), (4, .int x4), (5, .int x5)] [] M 0 0 (some (.int r)) M' := by
  intro n
  induction n with
  | zero =>
    intro x0 x4 x5 M r M' h
    cases h
  | succ n ih =>
    intro x0 x4 x5 M r M' h
    rw [f_X5_takeImage_L99] at h
    refine J_iload (pc' := 101) C 2 dX5_takeImage_99 rfl rfl ?_
    refine J_sipush (pc' := 104) (v := (2000 : Int32)) C dX5_takeImage_101 rfl (by decide) ?_
    refine J_icmp_ge (tgt := 142) (pc' := 107) C dX5_takeImage_104 (by decide) rfl (fun c104 => ?_) (fun c104 => ?_)
    · rw [if_pos c104] at h
      refine J_iconst (pc' := 143) (v := (1 : Int32)) C dX5_takeImage_142 rfl (by decide) ?_
      obtain ⟨rfl, rfl⟩ := rt2 h
      exact J_zret C rfl dX5_takeImage_143 (Nat.zero_le _) (Nat.zero_le _)
    · rw [if_neg c104] at h
      refine J_aload_n (pc' := 108) C 0 dX5_takeImage_107 rfl rfl rfl ?_
      obtain ⟨v108, e108, h⟩ := bd h
      refine jg_741 (pc' := 111) C dX5_takeImage_108 rfl (gR_some e108) ?_
      refine J_iload (pc' := 113) C 1 dX5_takeImage_111 rfl rfl ?_
      obtain ⟨v113, e113, h⟩ := bd h
      refine J_iald (pc' := 114) C dX5_takeImage_113 rfl e113 ?_
      refine J_if_lt (tgt := 142) (pc' := 117) C dX5_takeImage_114 (by decide) rfl (fun c114 => ?_) (fun c114 => ?_)
      · rw [if_pos c114] at h
        refine J_iconst (pc' := 143) (v := (1 : Int32)) C dX5_takeImage_142 rfl (by decide) ?_
        obtain ⟨rfl, rfl⟩ := rt2 h
        exact J_zret C rfl dX5_takeImage_143 (Nat.zero_le _) (Nat.zero_le _)
      · rw [if_neg c114] at h
        refine J_aload_n (pc' := 118) C 0 dX5_takeImage_117 rfl rfl rfl ?_
        obtain ⟨v118, e118, h⟩ := bd h
        refine jg_741 (pc' := 121) C dX5_takeImage_118 rfl (gR_some e118) ?_
        refine J_iload (pc' := 123) C 1 dX5_takeImage_121 rfl rfl ?_
        obtain ⟨v123, e123, h⟩ := bd h
        refine J_iald (pc' := 124) C dX5_takeImage_123 rfl e123 ?_
        refine J_istore (pc' := 126) (lv' := [(4, .int v123), (0, .ref x0), (5, .int x5)]) C dX5_takeImage_124 rfl (by decide) rfl ?_
        refine J_aload_n (pc' := 127) C 1 dX5_takeImage_126 rfl rfl rfl ?_
        refine J_dup (pc' := 128) C dX5_takeImage_127 rfl rfl ?_
        obtain ⟨v128, e128, h⟩ := bd h
        refine jg_749 (pc' := 131) C dX5_takeImage_128 rfl (gI_some e128) ?_
        refine J_iconst (pc' := 132) (v := (1 : Int32)) C dX5_takeImage_131 rfl (by decide) ?_
        refine J_iadd (pc' := 133) C dX5_takeImage_132 rfl ?_
        obtain ⟨M133, e133, h⟩ := bd h
        refine jp_749 (pc' := 136) C (fun _ => ⟨rfl, rfl⟩) dX5_takeImage_133 rfl e133 ?_
        refine J_iinc (pc' := 139) (lv' := [(5, .int (x5 + 1)), (4, .int v123), (0, .ref x0)]) C 2 dX5_takeImage_136 rfl rfl rfl (by decide) rfl ?_
        refine J_goto (tgt := 99) C dX5_takeImage_139 (by decide) ?_
        refine J_sub (lv' := [(0, .ref x0), (4, .int v123), (5, .int (x5 + 1))]) [2, 1, 0] rfl ?_
        exact ih _ _ _ _ _ _ h
def f_X5_takeImage_K42 (N : Nat) (x0 : Nat) (x1 : Int32) (x2 : Int32) (x3 : Int32) (M : A_M) : Option (Int32 × A_M) :=
  (gR M x0 5 2).bind fun v43 =>
  (stI M v43 x3 x1).bind fun M48 =>
  (gR M48 x0 5 3).bind fun v50 =>
  (stI M48 v50 x3 x2).bind fun M55 =>
  (gI M55 x0 5 8).bind fun v58 =>
  (pV M55 x0 5 8 (.int (v58 + (1 : Int32)))).bind fun M63 =>
  (gR M63 x0 5 4).bind fun v67 =>
  (chk M63 x0 5).bind fun _ =>
  bnd2 (f_X5_slotOfImage N x0 M63) fun v71 M71 =>
  (gI M71 x0 5 8).bind fun v75 =>
  (stI M71 v67 v71 v75).bind fun M78 =>
  (chk M78 x0 5).bind fun _ =>
  bnd2 (f_X5_imageIsHome N x0 M78) fun v80 M80 =>
  if v80 = 0 then
  (some ((0 : Int32), M80))
  else
  ((pV M80 x0 5 9 (.int x3)).bind fun M90 =>
  f_X5_takeImage_L99 N N x0 x3 (0 : Int32) M90)
set_option maxHeartbeats 4000000 in
set_option maxRecDepth 100000 in
theorem ok_X5_takeImage_K42 {X : JX} (C : Cx X cX5_takeImage RX5 6 (some .boolean) 2 46) (N : Nat) : ∀ (x0 : Nat) (x1 : Int32) (x2 : Int32) (x3 : Int32) (M : A_M) (r : Int32) (M' : A_M), f_X5_takeImage_K42 N x0 x1 x2 x3 M = some (r, M') → J X 6 42 [(0, .ref x0), (1, .int x1), (2, .int x2), (3, .int x3)] [] M 0 0 (some (.int r)) M' := by
  intro x0 x1 x2 x3 M r M' h
  unfold f_X5_takeImage_K42 at h
  refine J_aload_n (pc' := 43) C 0 dX5_takeImage_42 rfl rfl rfl ?_
  obtain ⟨v43, e43, h⟩ := bd h
  refine jg_741 (pc' := 46) C dX5_takeImage_43 rfl (gR_some e43) ?_
  refine J_iload_n (pc' := 47) C 3 dX5_takeImage_46 rfl rfl rfl ?_
  refine J_iload_n (pc' := 48) C 1 dX5_takeImage_47 rfl rfl rfl ?_
  obtain ⟨M48, e48, h⟩ := bd h
  refine J_iast (pc' := 49) C dX5_takeImage_48 rfl e48 ?_
  refine J_aload_n (pc' := 50) C 0 dX5_takeImage_49 rfl rfl rfl ?_
  obtain ⟨v50, e50, h⟩ := bd h
  refine jg_742 (pc' := 53) C dX5_takeImage_50 rfl (gR_some e50) ?_
  refine J_iload_n (pc' := 54) C 3 dX5_takeImage_53 rfl rfl rfl ?_
  refine J_iload_n (pc' := 55) C 2 dX5_takeImage_54 rfl rfl rfl ?_
  obtain ⟨M55, e55, h⟩ := bd h
  refine J_iast (pc' := 56) C dX5_takeImage_55 rfl e55 ?_
  refine J_aload_n (pc' := 57) C 0 dX5_takeImage_56 rfl rfl rfl ?_
  refine J_dup (pc' := 58) C dX5_takeImage_57 rfl rfl ?_
  obtain ⟨v58, e58, h⟩ := bd h
  refine jg_747 (pc' := 61) C dX5_takeImage_58 rfl (gI_some e58) ?_
  refine J_iconst (pc' := 62) (v := (1 : Int32)) C dX5_takeImage_61 rfl (by decide) ?_
  refine J_iadd (pc' := 63) C dX5_takeImage_62 rfl ?_
  obtain ⟨M63, e63, h⟩ := bd h
  refine jp_747 (pc' := 66) C (fun _ => ⟨rfl, rfl⟩) dX5_takeImage_63 rfl e63 ?_
  refine J_aload_n (pc' := 67) C 0 dX5_takeImage_66 rfl rfl rfl ?_
  obtain ⟨v67, e67, h⟩ := bd h
  refine jg_743 (pc' := 70) C dX5_takeImage_67 rfl (gR_some e67) ?_
  refine J_aload_n (pc' := 71) C 0 dX5_takeImage_70 rfl rfl rfl ?_
  obtain ⟨_, q71, h⟩ := bd h
  obtain ⟨v71, M71, e71, h⟩ := bd2 h
  refine J_cV (pc' := 74) (st := [.ref v67]) (st2 := [.int v71, .ref v67]) (cs2 := 0) (sl2 := 0) C 5 rfl rfl q71 (ok_X5_slotOfImage N e71) mw_X5_slotOfImage wq_796 rfl dX5_takeImage_71 rfl rfl (Nat.le_of_ble_eq_true rfl) (by decide) (by decide) rfl rfl rfl (Nat.zero_le _) (Nat.zero_le _) ?_
  refine J_aload_n (pc' := 75) C 0 dX5_takeImage_74 rfl rfl rfl ?_
  obtain ⟨v75, e75, h⟩ := bd h
  refine jg_747 (pc' := 78) C dX5_takeImage_75 rfl (gI_some e75) ?_
  obtain ⟨M78, e78, h⟩ := bd h
  refine J_iast (pc' := 79) C dX5_takeImage_78 rfl e78 ?_
  refine J_aload_n (pc' := 80) C 0 dX5_takeImage_79 rfl rfl rfl ?_
  obtain ⟨_, q80, h⟩ := bd h
  obtain ⟨v80, M80, e80, h⟩ := bd2 h
  refine J_cV (pc' := 83) (st := []) (st2 := [.int v80]) (cs2 := 0) (sl2 := 0) C 5 rfl rfl q80 (ok_X5_imageIsHome N e80) mw_X5_imageIsHome wq_805 rfl dX5_takeImage_80 rfl rfl (Nat.le_of_ble_eq_true rfl) (by decide) (by decide) rfl rfl rfl (Nat.zero_le _) (Nat.zero_le _) ?_
  refine J_if_ne (tgt := 88) (pc' := 86) C dX5_takeImage_83 (by decide) rfl (fun c83 => ?_) (fun c83 => ?_)
  · rw [if_neg c83] at h
    refine J_aload_n (pc' := 89) C 0 dX5_takeImage_88 rfl rfl rfl ?_
    refine J_iload_n (pc' := 90) C 3 dX5_takeImage_89 rfl rfl rfl ?_
    obtain ⟨M90, e90, h⟩ := bd h
    refine jp_748 (pc' := 93) C (fun _ => ⟨rfl, rfl⟩) dX5_takeImage_90 rfl e90 ?_
    refine J_iload_n (pc' := 94) C 3 dX5_takeImage_93 rfl rfl rfl ?_
    refine J_istore (pc' := 96) (lv' := [(4, .int x3), (0, .ref x0), (1, .int x1), (2, .int x2), (3, .int x3)]) C dX5_takeImage_94 rfl (by decide) rfl ?_
    refine J_iconst (pc' := 97) (v := (0 : Int32)) C dX5_takeImage_96 rfl (by decide) ?_
    refine J_istore (pc' := 99) (lv' := [(5, .int (0 : Int32)), (4, .int x3), (0, .ref x0), (1, .int x1), (2, .int x2), (3, .int x3)]) C dX5_takeImage_97 rfl (by decide) rfl ?_
    refine J_sub (lv' := [(0, .ref x0), (4, .int x3), (5, .int (0 : Int32))]) [2, 1, 0] rfl ?_
    exact ok_X5_takeImage_L99 C N N _ _ _ _ _ _ h
  · rw [if_pos c83] at h
    refine J_iconst (pc' := 87) (v := (0 : Int32)) C dX5_takeImage_86 rfl (by decide) ?_
    obtain ⟨rfl, rfl⟩ := rt2 h
    exact J_zret C rfl dX5_takeImage_87 (Nat.zero_le _) (Nat.zero_le _)
def f_X5_takeImage_L8 (N : Nat) : Nat → Nat → Int32 → Int32 → Int32 → Int32 → A_M → Option (Int32 × A_M)
  | 0, _, _, _, _, _, _ => none
  | n + 1, x0, x1, x2, x3, x4, M =>
    (gI M x0 5 7).bind fun v11 =>
    if v11 ≤ x4 then
    (f_X5_takeImage_K42 N x0 x1 x2 x3 M)
    else
    ((gR M x0 5 1).bind fun v18 =>
    (gR M x0 5 5).bind fun v29 =>
    (ldJ M v29 x4).bind fun v34 =>
    (stJ M v18 ((x3 * (9 : Int32)) + x4) v34).bind fun M35 =>
    f_X5_takeImage_L8 N n x0 x1 x2 x3 (x4 + 1) M35)
set_option maxHeartbeats 4000000 in
set_option maxRecDepth 100000 in
theorem ok_X5_takeImage_L8 {X : JX} (C : Cx X cX5_takeImage RX5 6 (some .boolean) 2 46) (N : Nat) : ∀ (n : Nat) (x0 : Nat) (x1 : Int32) (x2 : Int32) (x3 : Int32) (x4 : Int32) (M : A_M) (r : Int32) (M' : A_M), f_X5_takeImage_L8 N n x0 x1 x2 x3 x4 M = some (r, M') → J X 6 8 [(0, .ref x0), (1, .int x1), (2, .int x2), (3, .int x3), (4, .int x4)] [] M 0 0 (some (.int r)) M' := by
  intro n
  induction n with
  | zero =>
    intro x0 x1 x2 x3 x4 M r M' h
    cases h
  | succ n ih =>
    intro x0 x1 x2 x3 x4 M r M' h
    rw [f_X5_takeImage_L8] at h
    refine J_iload (pc' := 10) C 4 dX5_takeImage_8 rfl rfl ?_
    refine J_aload_n (pc' := 11) C 0 dX5_takeImage_10 rfl rfl rfl ?_
    obtain ⟨v11, e11, h⟩ := bd h
    refine jg_746 (pc' := 14) C dX5_takeImage_11 rfl (gI_some e11) ?_
    refine J_icmp_ge (tgt := 42) (pc' := 17) C dX5_takeImage_14 (by decide) rfl (fun c14 => ?_) (fun c14 => ?_)
    · rw [if_pos c14] at h
      refine J_sub (lv' := [(0, .ref x0), (1, .int x1), (2, .int x2), (3, .int x3)]) [0, 1, 2, 3] rfl ?_
      exact ok_X5_takeImage_K42 C N _ _ _ _ _ _ _ h
    · rw [if_neg c14] at h
      refine J_aload_n (pc' := 18) C 0 dX5_takeImage_17 rfl rfl rfl ?_
      obtain ⟨v18, e18, h⟩ := bd h
      refine jg_740 (pc' := 21) C dX5_takeImage_18 rfl (gR_some e18) ?_
      refine J_iload_n (pc' := 22) C 3 dX5_takeImage_21 rfl rfl rfl ?_
      refine J_bipush (pc' := 24) (v := (9 : Int32)) C dX5_takeImage_22 rfl (by decide) ?_
      refine J_imul (pc' := 25) C dX5_takeImage_24 rfl ?_
      refine J_iload (pc' := 27) C 4 dX5_takeImage_25 rfl rfl ?_
      refine J_iadd (pc' := 28) C dX5_takeImage_27 rfl ?_
      refine J_aload_n (pc' := 29) C 0 dX5_takeImage_28 rfl rfl rfl ?_
      obtain ⟨v29, e29, h⟩ := bd h
      refine jg_744 (pc' := 32) C dX5_takeImage_29 rfl (gR_some e29) ?_
      refine J_iload (pc' := 34) C 4 dX5_takeImage_32 rfl rfl ?_
      obtain ⟨v34, e34, h⟩ := bd h
      refine J_lald (pc' := 35) C dX5_takeImage_34 rfl e34 ?_
      obtain ⟨M35, e35, h⟩ := bd h
      refine J_last (pc' := 36) C dX5_takeImage_35 rfl e35 ?_
      refine J_iinc (pc' := 39) (lv' := [(4, .int (x4 + 1)), (0, .ref x0), (1, .int x1), (2, .int x2), (3, .int x3)]) C 4 dX5_takeImage_36 rfl rfl rfl (by decide) rfl ?_
      refine J_goto (tgt := 8) C dX5_takeImage_39 (by decide) ?_
      refine J_sub (lv' := [(0, .ref x0), (1, .int x1), (2, .int x2), (3, .int x3), (4, .int (x4 + 1))]) [1, 2, 3, 4, 0] rfl ?_
      exact ih _ _ _ _ _ _ _ _ h
def f_X5_takeImage (N : Nat) (a0 : Nat) (a1 : Int32) (a2 : Int32) (M : A_M) : Option (Int32 × A_M) :=
  (gI M a0 5 8).bind fun v1 =>
  f_X5_takeImage_L8 N N a0 a1 a2 v1 (0 : Int32) M
set_option maxHeartbeats 4000000 in
set_option maxRecDepth 100000 in
theorem ok_X5_takeImage (N : Nat) {a0 : Nat} {a1 : Int32} {a2 : Int32} {M : A_M} {r : Int32} {M' : A_M} (h : f_X5_takeImage N a0 a1 a2 M = some (r, M')) : Runs yX5_takeImage cX5_takeImage 6 (some .boolean) 2 46 0 0 [.ref a0, .int a1, .int a2] M (some (.int r)) M' := by
  refine Runs.intro (by decide) (Nat.le_of_ble_eq_true rfl) (fun X C hnm hMC hMS => ?_)
  have C : Cx X cX5_takeImage RX5 6 (some .boolean) 2 46 := C
  show J X 6 0 [(0, .ref a0), (1, .int a1), (2, .int a2)] [] M 0 0 (some (.int r)) M'
  unfold f_X5_takeImage at h
  refine J_aload_n (pc' := 1) C 0 dX5_takeImage_0 rfl rfl rfl ?_
  obtain ⟨v1, e1, h⟩ := bd h
  refine jg_747 (pc' := 4) C dX5_takeImage_1 rfl (gI_some e1) ?_
  refine J_istore_n (pc' := 5) (lv' := [(3, .int v1), (0, .ref a0), (1, .int a1), (2, .int a2)]) C dX5_takeImage_4 rfl rfl (by decide) rfl ?_
  refine J_iconst (pc' := 6) (v := (0 : Int32)) C dX5_takeImage_5 rfl (by decide) ?_
  refine J_istore (pc' := 8) (lv' := [(4, .int (0 : Int32)), (3, .int v1), (0, .ref a0), (1, .int a1), (2, .int a2)]) C dX5_takeImage_6 rfl (by decide) rfl ?_
  refine J_sub (lv' := [(0, .ref a0), (1, .int a1), (2, .int a2), (3, .int v1), (4, .int (0 : Int32))]) [2, 3, 4, 1, 0] rfl ?_
  exact ok_X5_takeImage_L8 C N N _ _ _ _ _ _ _ _ h
def f_J6_numberOfTrailingZeros_0f7a4_K62 (N : Nat) (x0 : Int32) (x1 : Int32) (M : A_M) : Option (Int32 × A_M) :=
  if x0 ≤ (4 : Int32) then
  (some ((x1 + ((x0.toUInt32 >>> ((1 : Int32).toUInt32 &&& Int32.toUInt32 31)).toInt32)), M))
  else
  (some (((x1 + 2) + ((((x0.toUInt32 >>> ((2 : Int32).toUInt32 &&& Int32.toUInt32 31)).toInt32).toUInt32 >>> ((1 : Int32).toUInt32 &&& Int32.toUInt32 31)).toInt32)), M))
set_option maxHeartbeats 4000000 in
set_option maxRecDepth 100000 in
theorem ok_J6_numberOfTrailingZeros_0f7a4_K62 {X : JX} (C : Cx X cJ6_numberOfTrailingZeros_0f7a4 RJ6 2 (some .int) 0 0) (N : Nat) : ∀ (x0 : Int32) (x1 : Int32) (M : A_M) (r : Int32) (M' : A_M), f_J6_numberOfTrailingZeros_0f7a4_K62 N x0 x1 M = some (r, M') → J X 2 62 [(0, .int x0), (1, .int x1)] [] M 0 0 (some (.int r)) M' := by
  intro x0 x1 M r M' h
  unfold f_J6_numberOfTrailingZeros_0f7a4_K62 at h
  refine J_iload_n (pc' := 63) C 0 dJ6_numberOfTrailingZeros_0f7a4_62 rfl rfl rfl ?_
  refine J_iconst (pc' := 64) (v := (4 : Int32)) C dJ6_numberOfTrailingZeros_0f7a4_63 rfl (by decide) ?_
  refine J_icmp_le (tgt := 74) (pc' := 67) C dJ6_numberOfTrailingZeros_0f7a4_64 (by decide) rfl (fun c64 => ?_) (fun c64 => ?_)
  · rw [if_pos c64] at h
    refine J_iload_n (pc' := 75) C 1 dJ6_numberOfTrailingZeros_0f7a4_74 rfl rfl rfl ?_
    refine J_iload_n (pc' := 76) C 0 dJ6_numberOfTrailingZeros_0f7a4_75 rfl rfl rfl ?_
    refine J_iconst (pc' := 77) (v := (1 : Int32)) C dJ6_numberOfTrailingZeros_0f7a4_76 rfl (by decide) ?_
    refine J_iushr (pc' := 78) C dJ6_numberOfTrailingZeros_0f7a4_77 rfl ?_
    refine J_iadd (pc' := 79) C dJ6_numberOfTrailingZeros_0f7a4_78 rfl ?_
    obtain ⟨rfl, rfl⟩ := rt2 h
    exact J_iret C dJ6_numberOfTrailingZeros_0f7a4_79 (Nat.zero_le _) (Nat.zero_le _)
  · rw [if_neg c64] at h
    refine J_iinc (pc' := 70) (lv' := [(1, .int (x1 + 2)), (0, .int x0)]) C 1 dJ6_numberOfTrailingZeros_0f7a4_67 rfl rfl rfl (by decide) rfl ?_
    refine J_iload_n (pc' := 71) C 1 dJ6_numberOfTrailingZeros_0f7a4_70 rfl rfl rfl ?_
    refine J_iconst (pc' := 72) (v := (2 : Int32)) C dJ6_numberOfTrailingZeros_0f7a4_71 rfl (by decide) ?_
    refine J_iushr (pc' := 73) C dJ6_numberOfTrailingZeros_0f7a4_72 rfl ?_
    refine J_istore_n (pc' := 74) (lv' := [(0, .int ((x0.toUInt32 >>> ((2 : Int32).toUInt32 &&& Int32.toUInt32 31)).toInt32)), (1, .int (x1 + 2))]) C dJ6_numberOfTrailingZeros_0f7a4_73 rfl rfl (by decide) rfl ?_
    refine J_iload_n (pc' := 75) C 1 dJ6_numberOfTrailingZeros_0f7a4_74 rfl rfl rfl ?_
    refine J_iload_n (pc' := 76) C 0 dJ6_numberOfTrailingZeros_0f7a4_75 rfl rfl rfl ?_
    refine J_iconst (pc' := 77) (v := (1 : Int32)) C dJ6_numberOfTrailingZeros_0f7a4_76 rfl (by decide) ?_
    refine J_iushr (pc' := 78) C dJ6_numberOfTrailingZeros_0f7a4_77 rfl ?_
    refine J_iadd (pc' := 79) C dJ6_numberOfTrailingZeros_0f7a4_78 rfl ?_
    obtain ⟨rfl, rfl⟩ := rt2 h
    exact J_iret C dJ6_numberOfTrailingZeros_0f7a4_79 (Nat.zero_le _) (Nat.zero_le _)
def f_J6_numberOfTrailingZeros_0f7a4_K49 (N : Nat) (x0 : Int32) (x1 : Int32) (M : A_M) : Option (Int32 × A_M) :=
  if x0 ≤ (16 : Int32) then
  (f_J6_numberOfTrailingZeros_0f7a4_K62 N x0 x1 M)
  else
  (f_J6_numberOfTrailingZeros_0f7a4_K62 N ((x0.toUInt32 >>> ((4 : Int32).toUInt32 &&& Int32.toUInt32 31)).toInt32) (x1 + 4) M)
set_option maxHeartbeats 4000000 in
set_option maxRecDepth 100000 in
theorem ok_J6_numberOfTrailingZeros_0f7a4_K49 {X : JX} (C : Cx X cJ6_numberOfTrailingZeros_0f7a4 RJ6 2 (some .int) 0 0) (N : Nat) : ∀ (x0 : Int32) (x1 : Int32) (M : A_M) (r : Int32) (M' : A_M), f_J6_numberOfTrailingZeros_0f7a4_K49 N x0 x1 M = some (r, M') → J X 2 49 [(0, .int x0), (1, .int x1)] [] M 0 0 (some (.int r)) M' := by
  intro x0 x1 M r M' h
  unfold f_J6_numberOfTrailingZeros_0f7a4_K49 at h
  refine J_iload_n (pc' := 50) C 0 dJ6_numberOfTrailingZeros_0f7a4_49 rfl rfl rfl ?_
  refine J_bipush (pc' := 52) (v := (16 : Int32)) C dJ6_numberOfTrailingZeros_0f7a4_50 rfl (by decide) ?_
  refine J_icmp_le (tgt := 62) (pc' := 55) C dJ6_numberOfTrailingZeros_0f7a4_52 (by decide) rfl (fun c52 => ?_) (fun c52 => ?_)
  · rw [if_pos c52] at h
    refine J_sub (lv' := [(0, .int x0), (1, .int x1)]) [0, 1] rfl ?_
    exact ok_J6_numberOfTrailingZeros_0f7a4_K62 C N _ _ _ _ _ h
  · rw [if_neg c52] at h
    refine J_iinc (pc' := 58) (lv' := [(1, .int (x1 + 4)), (0, .int x0)]) C 1 dJ6_numberOfTrailingZeros_0f7a4_55 rfl rfl rfl (by decide) rfl ?_
    refine J_iload_n (pc' := 59) C 1 dJ6_numberOfTrailingZeros_0f7a4_58 rfl rfl rfl ?_
    refine J_iconst (pc' := 60) (v := (4 : Int32)) C dJ6_numberOfTrailingZeros_0f7a4_59 rfl (by decide) ?_
    refine J_iushr (pc' := 61) C dJ6_numberOfTrailingZeros_0f7a4_60 rfl ?_
    refine J_istore_n (pc' := 62) (lv' := [(0, .int ((x0.toUInt32 >>> ((4 : Int32).toUInt32 &&& Int32.toUInt32 31)).toInt32)), (1, .int (x1 + 4))]) C dJ6_numberOfTrailingZeros_0f7a4_61 rfl rfl (by decide) rfl ?_
    refine J_sub (lv' := [(0, .int ((x0.toUInt32 >>> ((4 : Int32).toUInt32 &&& Int32.toUInt32 31)).toInt32)), (1, .int (x1 + 4))]) [0, 1] rfl ?_
    exact ok_J6_numberOfTrailingZeros_0f7a4_K62 C N _ _ _ _ _ h
def f_J6_numberOfTrailingZeros_0f7a4_K34 (N : Nat) (x0 : Int32) (x1 : Int32) (M : A_M) : Option (Int32 × A_M) :=
  if x0 ≤ (256 : Int32) then
  (f_J6_numberOfTrailingZeros_0f7a4_K49 N x0 x1 M)
  else
  (f_J6_numberOfTrailingZeros_0f7a4_K49 N ((x0.toUInt32 >>> ((8 : Int32).toUInt32 &&& Int32.toUInt32 31)).toInt32) (x1 + 8) M)
set_option maxHeartbeats 4000000 in
set_option maxRecDepth 100000 in
theorem ok_J6_numberOfTrailingZeros_0f7a4_K34 {X : JX} (C : Cx X cJ6_numberOfTrailingZeros_0f7a4 RJ6 2 (some .int) 0 0) (N : Nat) : ∀ (x0 : Int32) (x1 : Int32) (M : A_M) (r : Int32) (M' : A_M), f_J6_numberOfTrailingZeros_0f7a4_K34 N x0 x1 M = some (r, M') → J X 2 34 [(0, .int x0), (1, .int x1)] [] M 0 0 (some (.int r)) M' := by
  intro x0 x1 M r M' h
  unfold f_J6_numberOfTrailingZeros_0f7a4_K34 at h
  refine J_iload_n (pc' := 35) C 0 dJ6_numberOfTrailingZeros_0f7a4_34 rfl rfl rfl ?_
  refine J_sipush (pc' := 38) (v := (256 : Int32)) C dJ6_numberOfTrailingZeros_0f7a4_35 rfl (by decide) ?_
  refine J_icmp_le (tgt := 49) (pc' := 41) C dJ6_numberOfTrailingZeros_0f7a4_38 (by decide) rfl (fun c38 => ?_) (fun c38 => ?_)
  · rw [if_pos c38] at h
    refine J_sub (lv' := [(0, .int x0), (1, .int x1)]) [0, 1] rfl ?_
    exact ok_J6_numberOfTrailingZeros_0f7a4_K49 C N _ _ _ _ _ h
  · rw [if_neg c38] at h
    refine J_iinc (pc' := 44) (lv' := [(1, .int (x1 + 8)), (0, .int x0)]) C 1 dJ6_numberOfTrailingZeros_0f7a4_41 rfl rfl rfl (by decide) rfl ?_
    refine J_iload_n (pc' := 45) C 1 dJ6_numberOfTrailingZeros_0f7a4_44 rfl rfl rfl ?_
    refine J_bipush (pc' := 47) (v := (8 : Int32)) C dJ6_numberOfTrailingZeros_0f7a4_45 rfl (by decide) ?_
    refine J_iushr (pc' := 48) C dJ6_numberOfTrailingZeros_0f7a4_47 rfl ?_
    refine J_istore_n (pc' := 49) (lv' := [(0, .int ((x0.toUInt32 >>> ((8 : Int32).toUInt32 &&& Int32.toUInt32 31)).toInt32)), (1, .int (x1 + 8))]) C dJ6_numberOfTrailingZeros_0f7a4_48 rfl rfl (by decide) rfl ?_
    refine J_sub (lv' := [(0, .int ((x0.toUInt32 >>> ((8 : Int32).toUInt32 &&& Int32.toUInt32 31)).toInt32)), (1, .int (x1 + 8))]) [0, 1] rfl ?_
    exact ok_J6_numberOfTrailingZeros_0f7a4_K49 C N _ _ _ _ _ h
def f_J6_numberOfTrailingZeros_0f7a4 (N : Nat) (a0 : Int32) (M : A_M) : Option (Int32 × A_M) :=
  if 0 < ((a0 ^^^ (-1 : Int32)) &&& (a0 - (1 : Int32))) then
  (if ((a0 ^^^ (-1 : Int32)) &&& (a0 - (1 : Int32))) ≤ (65536 : Int32) then
  (f_J6_numberOfTrailingZeros_0f7a4_K34 N ((a0 ^^^ (-1 : Int32)) &&& (a0 - (1 : Int32))) (1 : Int32) M)
  else
  (f_J6_numberOfTrailingZeros_0f7a4_K34 N ((((a0 ^^^ (-1 : Int32)) &&& (a0 - (1 : Int32))).toUInt32 >>> ((16 : Int32).toUInt32 &&& Int32.toUInt32 31)).toInt32) ((1 : Int32) + 16) M))
  else
  (some ((((a0 ^^^ (-1 : Int32)) &&& (a0 - (1 : Int32))) &&& (32 : Int32)), M))
set_option maxHeartbeats 4000000 in
set_option maxRecDepth 100000 in
theorem ok_J6_numberOfTrailingZeros_0f7a4 (N : Nat) {a0 : Int32} {M : A_M} {r : Int32} {M' : A_M} (h : f_J6_numberOfTrailingZeros_0f7a4 N a0 M = some (r, M')) : Runs yJ6_numberOfTrailingZeros_0f7a4 cJ6_numberOfTrailingZeros_0f7a4 2 (some .int) 0 0 0 0 [.int a0] M (some (.int r)) M' := by
  refine Runs.intro (by decide) (Nat.le_of_ble_eq_true rfl) (fun X C hnm hMC hMS => ?_)
  have C : Cx X cJ6_numberOfTrailingZeros_0f7a4 RJ6 2 (some .int) 0 0 := C
  show J X 2 0 [(0, .int a0)] [] M 0 0 (some (.int r)) M'
  unfold f_J6_numberOfTrailingZeros_0f7a4 at h
  refine J_iload_n (pc' := 1) C 0 dJ6_numberOfTrailingZeros_0f7a4_0 rfl rfl rfl ?_
  refine J_iconst (pc' := 2) (v := (-1 : Int32)) C dJ6_numberOfTrailingZeros_0f7a4_1 rfl (by decide) ?_
  refine J_ixor (pc' := 3) C dJ6_numberOfTrailingZeros_0f7a4_2 rfl ?_
  refine J_iload_n (pc' := 4) C 0 dJ6_numberOfTrailingZeros_0f7a4_3 rfl rfl rfl ?_
  refine J_iconst (pc' := 5) (v := (1 : Int32)) C dJ6_numberOfTrailingZeros_0f7a4_4 rfl (by decide) ?_
  refine J_isub (pc' := 6) C dJ6_numberOfTrailingZeros_0f7a4_5 rfl ?_
  refine J_iand (pc' := 7) C dJ6_numberOfTrailingZeros_0f7a4_6 rfl ?_
  refine J_istore_n (pc' := 8) (lv' := [(0, .int ((a0 ^^^ (-1 : Int32)) &&& (a0 - (1 : Int32))))]) C dJ6_numberOfTrailingZeros_0f7a4_7 rfl rfl (by decide) rfl ?_
  refine J_iload_n (pc' := 9) C 0 dJ6_numberOfTrailingZeros_0f7a4_8 rfl rfl rfl ?_
  refine J_if_gt (tgt := 17) (pc' := 12) C dJ6_numberOfTrailingZeros_0f7a4_9 (by decide) rfl (fun c9 => ?_) (fun c9 => ?_)
  · rw [if_pos c9] at h
    refine J_iconst (pc' := 18) (v := (1 : Int32)) C dJ6_numberOfTrailingZeros_0f7a4_17 rfl (by decide) ?_
    refine J_istore_n (pc' := 19) (lv' := [(1, .int (1 : Int32)), (0, .int ((a0 ^^^ (-1 : Int32)) &&& (a0 - (1 : Int32))))]) C dJ6_numberOfTrailingZeros_0f7a4_18 rfl rfl (by decide) rfl ?_
    refine J_iload_n (pc' := 20) C 1 dJ6_numberOfTrailingZeros_0f7a4_19 rfl rfl rfl ?_
    refine J_ldcw (pc' := 23) C dJ6_numberOfTrailingZeros_0f7a4_20 rfl wq_591 ?_
    refine J_icmp_le (tgt := 34) (pc' := 26) C dJ6_numberOfTrailingZeros_0f7a4_23 (by decide) rfl (fun c23 => ?_) (fun c23 => ?_)
    · rw [if_pos c23] at h
      refine J_sub (lv' := [(0, .int ((a0 ^^^ (-1 : Int32)) &&& (a0 - (1 : Int32)))), (1, .int (1 : Int32))]) [1, 0] rfl ?_
      exact ok_J6_numberOfTrailingZeros_0f7a4_K34 C N _ _ _ _ _ h
    · rw [if_neg c23] at h
      refine J_iinc (pc' := 29) (lv' := [(1, .int ((1 : Int32) + 16)), (0, .int ((a0 ^^^ (-1 : Int32)) &&& (a0 - (1 : Int32))))]) C 0 dJ6_numberOfTrailingZeros_0f7a4_26 rfl rfl rfl (by decide) rfl ?_
      refine J_iload_n (pc' := 30) C 1 dJ6_numberOfTrailingZeros_0f7a4_29 rfl rfl rfl ?_
      refine J_bipush (pc' := 32) (v := (16 : Int32)) C dJ6_numberOfTrailingZeros_0f7a4_30 rfl (by decide) ?_
      refine J_iushr (pc' := 33) C dJ6_numberOfTrailingZeros_0f7a4_32 rfl ?_
      refine J_istore_n (pc' := 34) (lv' := [(0, .int ((((a0 ^^^ (-1 : Int32)) &&& (a0 - (1 : Int32))).toUInt32 >>> ((16 : Int32).toUInt32 &&& Int32.toUInt32 31)).toInt32)), (1, .int ((1 : Int32) + 16))]) C dJ6_numberOfTrailingZeros_0f7a4_33 rfl rfl (by decide) rfl ?_
      refine J_sub (lv' := [(0, .int ((((a0 ^^^ (-1 : Int32)) &&& (a0 - (1 : Int32))).toUInt32 >>> ((16 : Int32).toUInt32 &&& Int32.toUInt32 31)).toInt32)), (1, .int ((1 : Int32) + 16))]) [0, 1] rfl ?_
      exact ok_J6_numberOfTrailingZeros_0f7a4_K34 C N _ _ _ _ _ h
  · rw [if_neg c9] at h
    refine J_iload_n (pc' := 13) C 0 dJ6_numberOfTrailingZeros_0f7a4_12 rfl rfl rfl ?_
    refine J_bipush (pc' := 15) (v := (32 : Int32)) C dJ6_numberOfTrailingZeros_0f7a4_13 rfl (by decide) ?_
    refine J_iand (pc' := 16) C dJ6_numberOfTrailingZeros_0f7a4_15 rfl ?_
    obtain ⟨rfl, rfl⟩ := rt2 h
    exact J_iret C dJ6_numberOfTrailingZeros_0f7a4_16 (Nat.zero_le _) (Nat.zero_le _)
def f_J13_numberOfTrailingZeros_95d88 (N : Nat) (a0 : Int64) (M : A_M) : Option (Int32 × A_M) :=
  if (a0.toInt32) = 0 then
  (bnd2 (f_J6_numberOfTrailingZeros_0f7a4 N (((a0.toUInt64 >>> ((32 : Int32).toInt64.toUInt64 &&& Int64.toUInt64 63)).toInt64).toInt32) M) fun v14 M14 =>
  some (((32 : Int32) + v14), M14))
  else
  (bnd2 (f_J6_numberOfTrailingZeros_0f7a4 N (a0.toInt32) M) fun v22 M22 =>
  some (v22, M22))
set_option maxHeartbeats 4000000 in
set_option maxRecDepth 100000 in
theorem ok_J13_numberOfTrailingZeros_95d88 (N : Nat) {a0 : Int64} {M : A_M} {r : Int32} {M' : A_M} (h : f_J13_numberOfTrailingZeros_95d88 N a0 M = some (r, M')) : Runs yJ13_numberOfTrailingZeros_95d88 cJ13_numberOfTrailingZeros_95d88 3 (some .int) 1 21 0 0 [.long a0] M (some (.int r)) M' := by
  refine Runs.intro (by decide) (Nat.le_of_ble_eq_true rfl) (fun X C hnm hMC hMS => ?_)
  have C : Cx X cJ13_numberOfTrailingZeros_95d88 RJ13 3 (some .int) 1 21 := C
  show J X 3 0 [(0, .long a0)] [] M 0 0 (some (.int r)) M'
  unfold f_J13_numberOfTrailingZeros_95d88 at h
  refine J_lload_n (pc' := 1) C 0 dJ13_numberOfTrailingZeros_95d88_0 rfl rfl rfl ?_
  refine J_l2i (pc' := 2) C dJ13_numberOfTrailingZeros_95d88_1 rfl ?_
  refine J_istore_n (pc' := 3) (lv' := [(2, .int (a0.toInt32)), (0, .long a0)]) C dJ13_numberOfTrailingZeros_95d88_2 rfl rfl (by decide) rfl ?_
  refine J_iload_n (pc' := 4) C 0 dJ13_numberOfTrailingZeros_95d88_3 rfl rfl rfl ?_
  refine J_if_ne (tgt := 21) (pc' := 7) C dJ13_numberOfTrailingZeros_95d88_4 (by decide) rfl (fun c4 => ?_) (fun c4 => ?_)
  · rw [if_neg c4] at h
    refine J_iload_n (pc' := 22) C 0 dJ13_numberOfTrailingZeros_95d88_21 rfl rfl rfl ?_
    obtain ⟨v22, M22, e22, h⟩ := bd2 h
    refine J_cS (pc' := 25) (st := []) (st2 := [.int v22]) (cs2 := 0) (sl2 := 0) C (ok_J6_numberOfTrailingZeros_0f7a4 N e22) mw_J6_numberOfTrailingZeros_0f7a4 wq_816 rfl dJ13_numberOfTrailingZeros_95d88_22 rfl rfl (Nat.le_of_ble_eq_true rfl) (by decide) (by decide) rfl rfl rfl (Nat.zero_le _) (Nat.zero_le _) ?_
    obtain ⟨rfl, rfl⟩ := rt2 h
    exact J_iret C dJ13_numberOfTrailingZeros_95d88_25 (Nat.zero_le _) (Nat.zero_le _)
  · rw [if_pos c4] at h
    refine J_bipush (pc' := 9) (v := (32 : Int32)) C dJ13_numberOfTrailingZeros_95d88_7 rfl (by decide) ?_
    refine J_lload_n (pc' := 10) C 1 dJ13_numberOfTrailingZeros_95d88_9 rfl rfl rfl ?_
    refine J_bipush (pc' := 12) (v := (32 : Int32)) C dJ13_numberOfTrailingZeros_95d88_10 rfl (by decide) ?_
    refine J_lushr (pc' := 13) C dJ13_numberOfTrailingZeros_95d88_12 rfl ?_
    refine J_l2i (pc' := 14) C dJ13_numberOfTrailingZeros_95d88_13 rfl ?_
    obtain ⟨v14, M14, e14, h⟩ := bd2 h
    refine J_cS (pc' := 17) (st := [.int (32 : Int32)]) (st2 := [.int v14, .int (32 : Int32)]) (cs2 := 0) (sl2 := 0) C (ok_J6_numberOfTrailingZeros_0f7a4 N e14) mw_J6_numberOfTrailingZeros_0f7a4 wq_816 rfl dJ13_numberOfTrailingZeros_95d88_14 rfl rfl (Nat.le_of_ble_eq_true rfl) (by decide) (by decide) rfl rfl rfl (Nat.zero_le _) (Nat.zero_le _) ?_
    refine J_iadd (pc' := 18) C dJ13_numberOfTrailingZeros_95d88_17 rfl ?_
    refine J_goto (tgt := 25) C dJ13_numberOfTrailingZeros_95d88_18 (by decide) ?_
    obtain ⟨rfl, rfl⟩ := rt2 h
    exact J_iret C dJ13_numberOfTrailingZeros_95d88_25 (Nat.zero_le _) (Nat.zero_le _)
def f_X5_makeImage_K123 (N : Nat) (k10 : Nat → Int32 → Int32 → Int32 → A_M → Option (Int32 × A_M)) (x0 : Nat) (x1 : Int32) (x2 : Int32) (x3 : Int32) (M : A_M) : Option (Int32 × A_M) :=
  k10 x0 x1 x2 (x3 + 1) M
set_option maxHeartbeats 4000000 in
set_option maxRecDepth 100000 in
theorem ok_X5_makeImage_K123 {X : JX} (C : Cx X cX5_makeImage RX5 10 (some .boolean) 2 43) (N : Nat) {k10 : Nat → Int32 → Int32 → Int32 → A_M → Option (Int32 × A_M)} (hk10 : ∀ (x0 : Nat) (x1 : Int32) (x2 : Int32) (x3 : Int32) (M : A_M) (r : Int32) (M' : A_M), k10 x0 x1 x2 x3 M = some (r, M') → J X 10 10 [(0, .ref x0), (1, .int x1), (2, .int x2), (3, .int x3)] [] M 0 0 (some (.int r)) M') : ∀ (x0 : Nat) (x1 : Int32) (x2 : Int32) (x3 : Int32) (M : A_M) (r : Int32) (M' : A_M), f_X5_makeImage_K123 N k10 x0 x1 x2 x3 M = some (r, M') → J X 10 123 [(0, .ref x0), (1, .int x1), (2, .int x2), (3, .int x3)] [] M 0 0 (some (.int r)) M' := by
  intro x0 x1 x2 x3 M r M' h
  unfold f_X5_makeImage_K123 at h
  refine J_iinc (pc' := 126) (lv' := [(3, .int (x3 + 1)), (0, .ref x0), (1, .int x1), (2, .int x2)]) C 3 dX5_makeImage_123 rfl rfl rfl (by decide) rfl ?_
  refine J_goto (tgt := 10) C dX5_makeImage_126 (by decide) ?_
  refine J_sub (lv' := [(0, .ref x0), (1, .int x1), (2, .int x2), (3, .int (x3 + 1))]) [1, 2, 3, 0] rfl ?_
  exact hk10 _ _ _ _ _ _ _ h
def f_X5_makeImage_L34 (N : Nat) (k10 : Nat → Int32 → Int32 → Int32 → A_M → Option (Int32 × A_M)) : Nat → Nat → Int32 → Int32 → Int32 → Int64 → Int32 → A_M → Option (Int32 × A_M)
  | 0, _, _, _, _, _, _, _ => none
  | n + 1, x0, x1, x2, x3, x4, x6, M =>
    if (64 : Int32) ≤ x6 then
    (f_X5_makeImage_K123 N k10 x0 x1 x2 x3 M)
    else
    (if (lg_cmp x4 (0 : Int64)) = 0 then
    (f_X5_makeImage_K123 N k10 x0 x1 x2 x3 M)
    else
    (bnd2 (f_J13_numberOfTrailingZeros_95d88 N x4 M) fun v54 M54 =>
    (gR M54 x0 5 0).bind fun v70 =>
    (ldI M54 v70 ((((x3 <<< ((6 : Int32) &&& 31)) + v54) * (4 : Int32)) + x2)).bind fun v79 =>
    if v79 = 0 then
    (some ((0 : Int32), M54))
    else
    ((gR M54 x0 5 5).bind fun v98 =>
    (ldJ M54 v98 ((mxI v79 (0 : Int32)) >>> ((6 : Int32) &&& 31))).bind fun v107 =>
    (stJ M54 v98 ((mxI v79 (0 : Int32)) >>> ((6 : Int32) &&& 31)) (v107 ||| ((1 : Int64) <<< (((mxI v79 (0 : Int32)) &&& (63 : Int32)).toInt64 &&& 63)))).bind fun M116 =>
    f_X5_makeImage_L34 N k10 n x0 x1 x2 x3 (x4 &&& (x4 - (1 : Int64))) (x6 + 1) M116)))
set_option maxHeartbeats 4000000 in
set_option maxRecDepth 100000 in
theorem ok_X5_makeImage_L34 {X : JX} (C : Cx X cX5_makeImage RX5 10 (some .boolean) 2 43) (N : Nat) {k10 : Nat → Int32 → Int32 → Int32 → A_M → Option (Int32 × A_M)} (hk10 : ∀ (x0 : Nat) (x1 : Int32) (x2 : Int32) (x3 : Int32) (M : A_M) (r : Int32) (M' : A_M), k10 x0 x1 x2 x3 M = some (r, M') → J X 10 10 [(0, .ref x0), (1, .int x1), (2, .int x2), (3, .int x3)] [] M 0 0 (some (.int r)) M') : ∀ (n : Nat) (x0 : Nat) (x1 : Int32) (x2 : Int32) (x3 : Int32) (x4 : Int64) (x6 : Int32) (M : A_M) (r : Int32) (M' : A_M), f_X5_makeImage_L34 N k10 n x0 x1 x2 x3 x4 x6 M = some (r, M') → J X 10 34 [(0, .ref x0), (1, .int x1), (2, .int x2), (3, .int x3), (4, .long x4), (6, .int x6)] [] M 0 0 (some (.int r)) M' := by
  intro n
  induction n with
  | zero =>
    intro x0 x1 x2 x3 x4 x6 M r M' h
    cases h
  | succ n ih =>
    intro x0 x1 x2 x3 x4 x6 M r M' h
    rw [f_X5_makeImage_L34] at h
    refine J_iload (pc' := 36) C 5 dX5_makeImage_34 rfl rfl ?_
    refine J_bipush (pc' := 38) (v := (64 : Int32)) C dX5_makeImage_36 rfl (by decide) ?_
    refine J_icmp_ge (tgt := 123) (pc' := 41) C dX5_makeImage_38 (by decide) rfl (fun c38 => ?_) (fun c38 => ?_)
    · rw [if_pos c38] at h
      refine J_sub (lv' := [(0, .ref x0), (1, .int x1), (2, .int x2), (3, .int x3)]) [0, 1, 2, 3] rfl ?_
      exact ok_X5_makeImage_K123 C N hk10 _ _ _ _ _ _ _ h
    · rw [if_neg c38] at h
      refine J_lload (pc' := 43) C 4 dX5_makeImage_41 rfl rfl ?_
      refine J_lconst (pc' := 44) (v := (0 : Int64)) C dX5_makeImage_43 rfl (by decide) ?_
      refine J_lcmp (pc' := 45) C dX5_makeImage_44 rfl ?_
      refine J_if_eq (tgt := 123) (pc' := 48) C dX5_makeImage_45 (by decide) rfl (fun c45 => ?_) (fun c45 => ?_)
      · rw [if_pos c45] at h
        refine J_sub (lv' := [(0, .ref x0), (1, .int x1), (2, .int x2), (3, .int x3)]) [0, 1, 2, 3] rfl ?_
        exact ok_X5_makeImage_K123 C N hk10 _ _ _ _ _ _ _ h
      · rw [if_neg c45] at h
        refine J_iload_n (pc' := 49) C 3 dX5_makeImage_48 rfl rfl rfl ?_
        refine J_bipush (pc' := 51) (v := (6 : Int32)) C dX5_makeImage_49 rfl (by decide) ?_
        refine J_ishl (pc' := 52) C dX5_makeImage_51 rfl ?_
        refine J_lload (pc' := 54) C 4 dX5_makeImage_52 rfl rfl ?_
        obtain ⟨v54, M54, e54, h⟩ := bd2 h
        refine J_cS (pc' := 57) (st := [.int (x3 <<< ((6 : Int32) &&& 31))]) (st2 := [.int v54, .int (x3 <<< ((6 : Int32) &&& 31))]) (cs2 := 0) (sl2 := 0) C (ok_J13_numberOfTrailingZeros_95d88 N e54) mw_J13_numberOfTrailingZeros_95d88 wq_813 rfl dX5_makeImage_54 rfl rfl (Nat.le_of_ble_eq_true rfl) (by decide) (by decide) rfl rfl rfl (Nat.zero_le _) (Nat.zero_le _) ?_
        refine J_iadd (pc' := 58) C dX5_makeImage_57 rfl ?_
        refine J_istore (pc' := 60) (lv' := [(7, .int ((x3 <<< ((6 : Int32) &&& 31)) + v54)), (0, .ref x0), (1, .int x1), (2, .int x2), (3, .int x3), (4, .long x4), (6, .int x6)]) C dX5_makeImage_58 rfl (by decide) rfl ?_
        refine J_lload (pc' := 62) C 5 dX5_makeImage_60 rfl rfl ?_
        refine J_lload (pc' := 64) C 5 dX5_makeImage_62 rfl rfl ?_
        refine J_lconst (pc' := 65) (v := (1 : Int64)) C dX5_makeImage_64 rfl (by decide) ?_
        refine J_lsub (pc' := 66) C dX5_makeImage_65 rfl ?_
        refine J_land (pc' := 67) C dX5_makeImage_66 rfl ?_
        refine J_lstore (pc' := 69) (lv' := [(4, .long (x4 &&& (x4 - (1 : Int64)))), (7, .int ((x3 <<< ((6 : Int32) &&& 31)) + v54)), (0, .ref x0), (1, .int x1), (2, .int x2), (3, .int x3), (6, .int x6)]) C dX5_makeImage_67 rfl (by decide) rfl ?_
        refine J_aload_n (pc' := 70) C 2 dX5_makeImage_69 rfl rfl rfl ?_
        obtain ⟨v70, e70, h⟩ := bd h
        refine jg_739 (pc' := 73) C dX5_makeImage_70 rfl (gR_some e70) ?_
        refine J_iload (pc' := 75) C 1 dX5_makeImage_73 rfl rfl ?_
        refine J_iconst (pc' := 76) (v := (4 : Int32)) C dX5_makeImage_75 rfl (by decide) ?_
        refine J_imul (pc' := 77) C dX5_makeImage_76 rfl ?_
        refine J_iload_n (pc' := 78) C 4 dX5_makeImage_77 rfl rfl rfl ?_
        refine J_iadd (pc' := 79) C dX5_makeImage_78 rfl ?_
        obtain ⟨v79, e79, h⟩ := bd h
        refine J_iald (pc' := 80) C dX5_makeImage_79 rfl e79 ?_
        refine J_istore (pc' := 82) (lv' := [(8, .int v79), (4, .long (x4 &&& (x4 - (1 : Int64)))), (7, .int ((x3 <<< ((6 : Int32) &&& 31)) + v54)), (0, .ref x0), (1, .int x1), (2, .int x2), (3, .int x3), (6, .int x6)]) C dX5_makeImage_80 rfl (by decide) rfl ?_
        refine J_iload (pc' := 84) C 0 dX5_makeImage_82 rfl rfl ?_
        refine J_if_ne (tgt := 89) (pc' := 87) C dX5_makeImage_84 (by decide) rfl (fun c84 => ?_) (fun c84 => ?_)
        · rw [if_neg c84] at h
          refine J_iload (pc' := 91) C 0 dX5_makeImage_89 rfl rfl ?_
          refine J_iconst (pc' := 92) (v := (0 : Int32)) C dX5_makeImage_91 rfl (by decide) ?_
          refine J_mmax (pc' := 95) C wq_819 dX5_makeImage_92 rfl (Nat.le_of_ble_eq_true rfl) (by decide) (by decide) (Nat.zero_le _) (Nat.zero_le _) ?_
          refine J_istore (pc' := 97) (lv' := [(9, .int (mxI v79 (0 : Int32))), (8, .int v79), (4, .long (x4 &&& (x4 - (1 : Int64)))), (7, .int ((x3 <<< ((6 : Int32) &&& 31)) + v54)), (0, .ref x0), (1, .int x1), (2, .int x2), (3, .int x3), (6, .int x6)]) C dX5_makeImage_95 rfl (by decide) rfl ?_
          refine J_aload_n (pc' := 98) C 4 dX5_makeImage_97 rfl rfl rfl ?_
          obtain ⟨v98, e98, h⟩ := bd h
          refine jg_744 (pc' := 101) C dX5_makeImage_98 rfl (gR_some e98) ?_
          refine J_iload (pc' := 103) C 0 dX5_makeImage_101 rfl rfl ?_
          refine J_bipush (pc' := 105) (v := (6 : Int32)) C dX5_makeImage_103 rfl (by decide) ?_
          refine J_ishr (pc' := 106) C dX5_makeImage_105 rfl ?_
          refine J_dup2 (pc' := 107) C dX5_makeImage_106 rfl rfl rfl ?_
          obtain ⟨v107, e107, h⟩ := bd h
          refine J_lald (pc' := 108) C dX5_makeImage_107 rfl e107 ?_
          refine J_lconst (pc' := 109) (v := (1 : Int64)) C dX5_makeImage_108 rfl (by decide) ?_
          refine J_iload (pc' := 111) C 0 dX5_makeImage_109 rfl rfl ?_
          refine J_bipush (pc' := 113) (v := (63 : Int32)) C dX5_makeImage_111 rfl (by decide) ?_
          refine J_iand (pc' := 114) C dX5_makeImage_113 rfl ?_
          refine J_lshl (pc' := 115) C dX5_makeImage_114 rfl ?_
          refine J_lor (pc' := 116) C dX5_makeImage_115 rfl ?_
          obtain ⟨M116, e116, h⟩ := bd h
          refine J_last (pc' := 117) C dX5_makeImage_116 rfl e116 ?_
          refine J_iinc (pc' := 120) (lv' := [(6, .int (x6 + 1)), (9, .int (mxI v79 (0 : Int32))), (8, .int v79), (4, .long (x4 &&& (x4 - (1 : Int64)))), (7, .int ((x3 <<< ((6 : Int32) &&& 31)) + v54)), (0, .ref x0), (1, .int x1), (2, .int x2), (3, .int x3)]) C 8 dX5_makeImage_117 rfl rfl rfl (by decide) rfl ?_
          refine J_goto (tgt := 34) C dX5_makeImage_120 (by decide) ?_
          refine J_sub (lv' := [(0, .ref x0), (1, .int x1), (2, .int x2), (3, .int x3), (4, .long (x4 &&& (x4 - (1 : Int64)))), (6, .int (x6 + 1))]) [5, 6, 7, 8, 3, 0] rfl ?_
          exact ih _ _ _ _ _ _ _ _ _ h
        · rw [if_pos c84] at h
          refine J_iconst (pc' := 88) (v := (0 : Int32)) C dX5_makeImage_87 rfl (by decide) ?_
          obtain ⟨rfl, rfl⟩ := rt2 h
          exact J_zret C rfl dX5_makeImage_88 (Nat.zero_le _) (Nat.zero_le _)
def f_X5_makeImage_L10 (N : Nat) : Nat → Nat → Int32 → Int32 → Int32 → A_M → Option (Int32 × A_M)
  | 0, _, _, _, _, _ => none
  | n + 1, x0, x1, x2, x3, M =>
    (gI M x0 5 7).bind fun v12 =>
    if v12 ≤ x3 then
    (some ((1 : Int32), M))
    else
    ((gR M x0 5 1).bind fun v19 =>
    (ldJ M v19 ((x1 * (9 : Int32)) + x3)).bind fun v28 =>
    f_X5_makeImage_L34 N (f_X5_makeImage_L10 N n) N x0 x1 x2 x3 v28 (0 : Int32) M)
set_option maxHeartbeats 4000000 in
set_option maxRecDepth 100000 in
theorem ok_X5_makeImage_L10 {X : JX} (C : Cx X cX5_makeImage RX5 10 (some .boolean) 2 43) (N : Nat) : ∀ (n : Nat) (x0 : Nat) (x1 : Int32) (x2 : Int32) (x3 : Int32) (M : A_M) (r : Int32) (M' : A_M), f_X5_makeImage_L10 N n x0 x1 x2 x3 M = some (r, M') → J X 10 10 [(0, .ref x0), (1, .int x1), (2, .int x2), (3, .int x3)] [] M 0 0 (some (.int r)) M' := by
  intro n
  induction n with
  | zero =>
    intro x0 x1 x2 x3 M r M' h
    cases h
  | succ n ih =>
    intro x0 x1 x2 x3 M r M' h
    rw [f_X5_makeImage_L10] at h
    refine J_iload_n (pc' := 11) C 3 dX5_makeImage_10 rfl rfl rfl ?_
    refine J_aload_n (pc' := 12) C 0 dX5_makeImage_11 rfl rfl rfl ?_
    obtain ⟨v12, e12, h⟩ := bd h
    refine jg_746 (pc' := 15) C dX5_makeImage_12 rfl (gI_some e12) ?_
    refine J_icmp_ge (tgt := 129) (pc' := 18) C dX5_makeImage_15 (by decide) rfl (fun c15 => ?_) (fun c15 => ?_)
    · rw [if_pos c15] at h
      refine J_iconst (pc' := 130) (v := (1 : Int32)) C dX5_makeImage_129 rfl (by decide) ?_
      obtain ⟨rfl, rfl⟩ := rt2 h
      exact J_zret C rfl dX5_makeImage_130 (Nat.zero_le _) (Nat.zero_le _)
    · rw [if_neg c15] at h
      refine J_aload_n (pc' := 19) C 0 dX5_makeImage_18 rfl rfl rfl ?_
      obtain ⟨v19, e19, h⟩ := bd h
      refine jg_740 (pc' := 22) C dX5_makeImage_19 rfl (gR_some e19) ?_
      refine J_iload_n (pc' := 23) C 1 dX5_makeImage_22 rfl rfl rfl ?_
      refine J_bipush (pc' := 25) (v := (9 : Int32)) C dX5_makeImage_23 rfl (by decide) ?_
      refine J_imul (pc' := 26) C dX5_makeImage_25 rfl ?_
      refine J_iload_n (pc' := 27) C 3 dX5_makeImage_26 rfl rfl rfl ?_
      refine J_iadd (pc' := 28) C dX5_makeImage_27 rfl ?_
      obtain ⟨v28, e28, h⟩ := bd h
      refine J_lald (pc' := 29) C dX5_makeImage_28 rfl e28 ?_
      refine J_lstore (pc' := 31) (lv' := [(4, .long v28), (0, .ref x0), (1, .int x1), (2, .int x2), (3, .int x3)]) C dX5_makeImage_29 rfl (by decide) rfl ?_
      refine J_iconst (pc' := 32) (v := (0 : Int32)) C dX5_makeImage_31 rfl (by decide) ?_
      refine J_istore (pc' := 34) (lv' := [(6, .int (0 : Int32)), (4, .long v28), (0, .ref x0), (1, .int x1), (2, .int x2), (3, .int x3)]) C dX5_makeImage_32 rfl (by decide) rfl ?_
      refine J_sub (lv' := [(0, .ref x0), (1, .int x1), (2, .int x2), (3, .int x3), (4, .long v28), (6, .int (0 : Int32))]) [2, 3, 4, 5, 1, 0] rfl ?_
      exact ok_X5_makeImage_L34 C N ih N _ _ _ _ _ _ _ _ _ h
def f_X5_makeImage (N : Nat) (a0 : Nat) (a1 : Int32) (a2 : Int32) (M : A_M) : Option (Int32 × A_M) :=
  (gR M a0 5 5).bind fun v1 =>
  (f_J7_fill_d0a16 N v1 (0 : Int64) M).bind fun M5 =>
  f_X5_makeImage_L10 N N a0 a1 a2 (0 : Int32) M5
set_option maxHeartbeats 4000000 in
set_option maxRecDepth 100000 in
theorem ok_X5_makeImage (N : Nat) {a0 : Nat} {a1 : Int32} {a2 : Int32} {M : A_M} {r : Int32} {M' : A_M} (h : f_X5_makeImage N a0 a1 a2 M = some (r, M')) : Runs yX5_makeImage cX5_makeImage 10 (some .boolean) 2 43 0 0 [.ref a0, .int a1, .int a2] M (some (.int r)) M' := by
  refine Runs.intro (by decide) (Nat.le_of_ble_eq_true rfl) (fun X C hnm hMC hMS => ?_)
  have C : Cx X cX5_makeImage RX5 10 (some .boolean) 2 43 := C
  show J X 10 0 [(0, .ref a0), (1, .int a1), (2, .int a2)] [] M 0 0 (some (.int r)) M'
  unfold f_X5_makeImage at h
  refine J_aload_n (pc' := 1) C 0 dX5_makeImage_0 rfl rfl rfl ?_
  obtain ⟨v1, e1, h⟩ := bd h
  refine jg_744 (pc' := 4) C dX5_makeImage_1 rfl (gR_some e1) ?_
  refine J_lconst (pc' := 5) (v := (0 : Int64)) C dX5_makeImage_4 rfl (by decide) ?_
  obtain ⟨M5, e5, h⟩ := bd h
  refine J_cS (pc' := 8) (st := []) (st2 := []) (cs2 := 0) (sl2 := 0) C (ok_J7_fill_d0a16 N e5) mw_J7_fill_d0a16 wq_791 rfl dX5_makeImage_5 rfl rfl (Nat.le_of_ble_eq_true rfl) (by decide) (by decide) rfl rfl rfl (Nat.zero_le _) (Nat.zero_le _) ?_
  refine J_iconst (pc' := 9) (v := (0 : Int32)) C dX5_makeImage_8 rfl (by decide) ?_
  refine J_istore_n (pc' := 10) (lv' := [(3, .int (0 : Int32)), (0, .ref a0), (1, .int a1), (2, .int a2)]) C dX5_makeImage_9 rfl rfl (by decide) rfl ?_
  refine J_sub (lv' := [(0, .ref a0), (1, .int a1), (2, .int a2), (3, .int (0 : Int32))]) [1, 2, 3, 0] rfl ?_
  exact ok_X5_makeImage_L10 C N N _ _ _ _ _ _ _ h
