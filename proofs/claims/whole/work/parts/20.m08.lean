def f_X7_in (N : Nat) (a0 : Int64) (a2 : Int64) (a4 : Int64) (M : A_M) : Option (Int32 × A_M) :=
  if (lg_cmp a0 a2) < 0 then
  (some ((0 : Int32), M))
  else
  (if 0 < (lg_cmp a0 a4) then
  (some ((0 : Int32), M))
  else
  (some ((1 : Int32), M)))
set_option maxHeartbeats 4000000 in
set_option maxRecDepth 100000 in
theorem ok_X7_in (N : Nat) {a0 : Int64} {a2 : Int64} {a4 : Int64} {M : A_M} {r : Int32} {M' : A_M} (h : f_X7_in N a0 a2 a4 M = some (r, M')) : Runs yX7_in cX7_in 6 (some .boolean) 0 0 0 0 [.long a0, .long a2, .long a4] M (some (.int r)) M' := by
  refine Runs.intro (by decide) (Nat.le_of_ble_eq_true rfl) (fun X C hnm hMC hMS => ?_)
  have C : Cx X cX7_in RX7 6 (some .boolean) 0 0 := C
  show J X 6 0 [(0, .long a0), (2, .long a2), (4, .long a4)] [] M 0 0 (some (.int r)) M'
  unfold f_X7_in at h
  refine J_lload_n (pc' := 1) C 0 dX7_in_0 rfl rfl rfl ?_
  refine J_lload_n (pc' := 2) C 1 dX7_in_1 rfl rfl rfl ?_
  refine J_lcmp (pc' := 3) C dX7_in_2 rfl ?_
  refine J_if_lt (tgt := 17) (pc' := 6) C dX7_in_3 (by decide) rfl (fun c3 => ?_) (fun c3 => ?_)
  · rw [if_pos c3] at h
    refine J_iconst (pc' := 18) (v := (0 : Int32)) C dX7_in_17 rfl (by decide) ?_
    obtain ⟨rfl, rfl⟩ := rt2 h
    exact J_zret C rfl dX7_in_18 (Nat.zero_le _) (Nat.zero_le _)
  · rw [if_neg c3] at h
    refine J_lload_n (pc' := 7) C 0 dX7_in_6 rfl rfl rfl ?_
    refine J_lload (pc' := 9) C 2 dX7_in_7 rfl rfl ?_
    refine J_lcmp (pc' := 10) C dX7_in_9 rfl ?_
    refine J_if_gt (tgt := 17) (pc' := 13) C dX7_in_10 (by decide) rfl (fun c10 => ?_) (fun c10 => ?_)
    · rw [if_pos c10] at h
      refine J_iconst (pc' := 18) (v := (0 : Int32)) C dX7_in_17 rfl (by decide) ?_
      obtain ⟨rfl, rfl⟩ := rt2 h
      exact J_zret C rfl dX7_in_18 (Nat.zero_le _) (Nat.zero_le _)
    · rw [if_neg c10] at h
      refine J_iconst (pc' := 14) (v := (1 : Int32)) C dX7_in_13 rfl (by decide) ?_
      refine J_goto (tgt := 18) C dX7_in_14 (by decide) ?_
      obtain ⟨rfl, rfl⟩ := rt2 h
      exact J_zret C rfl dX7_in_18 (Nat.zero_le _) (Nat.zero_le _)
def f_X7_sign_L58 (N : Nat) : Nat → Nat → Int32 → A_M → Option (Int32 × A_M)
  | 0, _, _, _ => none
  | n + 1, x0, x2, M =>
    if (8 : Int32) ≤ x2 then
    ((gI M x0 7 1).bind fun v78 =>
    some ((v78 - (1 : Int32)), M))
    else
    ((gR M x0 7 56).bind fun v65 =>
    (stI M v65 x2 (0 : Int32)).bind fun M70 =>
    f_X7_sign_L58 N n x0 (x2 + 1) M70)
set_option maxHeartbeats 4000000 in
set_option maxRecDepth 100000 in
theorem ok_X7_sign_L58 {X : JX} (C : Cx X cX7_sign RX7 3 (some .int) 1 25) (N : Nat) : ∀ (n : Nat) (x0 : Nat) (x2 : Int32) (M : A_M) (r : Int32) (M' : A_M), f_X7_sign_L58 N n x0 x2 M = some (r, M') → J X 3 58 [(0, .ref x0), (2, .int x2)] [] M 0 0 (some (.int r)) M' := by
  intro n
  induction n with
  | zero =>
    intro x0 x2 M r M' h
    cases h
  | succ n ih =>
    intro x0 x2 M r M' h
    rw [f_X7_sign_L58] at h
    refine J_iload_n (pc' := 59) C 1 dX7_sign_58 rfl rfl rfl ?_
    refine J_bipush (pc' := 61) (v := (8 : Int32)) C dX7_sign_59 rfl (by decide) ?_
    refine J_icmp_ge (tgt := 77) (pc' := 64) C dX7_sign_61 (by decide) rfl (fun c61 => ?_) (fun c61 => ?_)
    · rw [if_pos c61] at h
      refine J_aload_n (pc' := 78) C 0 dX7_sign_77 rfl rfl rfl ?_
      obtain ⟨v78, e78, h⟩ := bd h
      refine jg_880 (pc' := 81) C dX7_sign_78 rfl (gI_some e78) ?_
      refine J_iconst (pc' := 82) (v := (1 : Int32)) C dX7_sign_81 rfl (by decide) ?_
      refine J_isub (pc' := 83) C dX7_sign_82 rfl ?_
      obtain ⟨rfl, rfl⟩ := rt2 h
      exact J_iret C dX7_sign_83 (Nat.zero_le _) (Nat.zero_le _)
    · rw [if_neg c61] at h
      refine J_aload_n (pc' := 65) C 0 dX7_sign_64 rfl rfl rfl ?_
      obtain ⟨v65, e65, h⟩ := bd h
      refine jg_935 (pc' := 68) C dX7_sign_65 rfl (gR_some e65) ?_
      refine J_iload_n (pc' := 69) C 1 dX7_sign_68 rfl rfl rfl ?_
      refine J_iconst (pc' := 70) (v := (0 : Int32)) C dX7_sign_69 rfl (by decide) ?_
      obtain ⟨M70, e70, h⟩ := bd h
      refine J_iast (pc' := 71) C dX7_sign_70 rfl e70 ?_
      refine J_iinc (pc' := 74) (lv' := [(2, .int (x2 + 1)), (0, .ref x0)]) C 1 dX7_sign_71 rfl rfl rfl (by decide) rfl ?_
      refine J_goto (tgt := 58) C dX7_sign_74 (by decide) ?_
      refine J_sub (lv' := [(0, .ref x0), (2, .int (x2 + 1))]) [1, 0] rfl ?_
      exact ih _ _ _ _ _ h
def f_X7_sign (N : Nat) (a0 : Nat) (a1 : Int32) (M : A_M) : Option (Int32 × A_M) :=
  bnd2 (f_X7_in N (a1.toInt64) (1 : Int64) (9 : Int64) M) fun v6 M6 =>
  if v6 = 0 then
  (some ((-2 : Int32), M6))
  else
  ((gI M6 a0 7 1).bind fun v16 =>
  if v16 = (4 : Int32) then
  (some ((-4 : Int32), M6))
  else
  ((gR M6 a0 7 0).bind fun v27 =>
  (gI M6 a0 7 1).bind fun v31 =>
  (stI M6 v27 v31 a1).bind fun M35 =>
  (gI M35 a0 7 1).bind fun v38 =>
  (pV M35 a0 7 1 (.int (v38 + (1 : Int32)))).bind fun M43 =>
  (pV M43 a0 7 4 (.int (0 : Int32))).bind fun M48 =>
  (pV M48 a0 7 44 (.int (0 : Int32))).bind fun M53 =>
  f_X7_sign_L58 N N a0 (0 : Int32) M53))
set_option maxHeartbeats 4000000 in
set_option maxRecDepth 100000 in
theorem ok_X7_sign (N : Nat) {a0 : Nat} {a1 : Int32} {M : A_M} {r : Int32} {M' : A_M} (h : f_X7_sign N a0 a1 M = some (r, M')) : Runs yX7_sign cX7_sign 3 (some .int) 1 25 0 0 [.ref a0, .int a1] M (some (.int r)) M' := by
  refine Runs.intro (by decide) (Nat.le_of_ble_eq_true rfl) (fun X C hnm hMC hMS => ?_)
  have C : Cx X cX7_sign RX7 3 (some .int) 1 25 := C
  show J X 3 0 [(0, .ref a0), (1, .int a1)] [] M 0 0 (some (.int r)) M'
  unfold f_X7_sign at h
  refine J_iload_n (pc' := 1) C 1 dX7_sign_0 rfl rfl rfl ?_
  refine J_i2l (pc' := 2) C dX7_sign_1 rfl ?_
  refine J_lconst (pc' := 3) (v := (1 : Int64)) C dX7_sign_2 rfl (by decide) ?_
  refine J_ldc2 (pc' := 6) C dX7_sign_3 rfl wq_1056 ?_
  obtain ⟨v6, M6, e6, h⟩ := bd2 h
  refine J_cS (pc' := 9) (st := []) (st2 := [.int v6]) (cs2 := 0) (sl2 := 0) C (ok_X7_in N e6) mw_X7_in wq_1057 rfl dX7_sign_6 rfl rfl (Nat.le_of_ble_eq_true rfl) (by decide) (by decide) rfl rfl rfl (Nat.zero_le _) (Nat.zero_le _) ?_
  refine J_if_ne (tgt := 15) (pc' := 12) C dX7_sign_9 (by decide) rfl (fun c9 => ?_) (fun c9 => ?_)
  · rw [if_neg c9] at h
    refine J_aload_n (pc' := 16) C 0 dX7_sign_15 rfl rfl rfl ?_
    obtain ⟨v16, e16, h⟩ := bd h
    refine jg_880 (pc' := 19) C dX7_sign_16 rfl (gI_some e16) ?_
    refine J_iconst (pc' := 20) (v := (4 : Int32)) C dX7_sign_19 rfl (by decide) ?_
    refine J_icmp_ne (tgt := 26) (pc' := 23) C dX7_sign_20 (by decide) rfl (fun c20 => ?_) (fun c20 => ?_)
    · rw [if_neg c20] at h
      refine J_aload_n (pc' := 27) C 0 dX7_sign_26 rfl rfl rfl ?_
      obtain ⟨v27, e27, h⟩ := bd h
      refine jg_879 (pc' := 30) C dX7_sign_27 rfl (gR_some e27) ?_
      refine J_aload_n (pc' := 31) C 0 dX7_sign_30 rfl rfl rfl ?_
      obtain ⟨v31, e31, h⟩ := bd h
      refine jg_880 (pc' := 34) C dX7_sign_31 rfl (gI_some e31) ?_
      refine J_iload_n (pc' := 35) C 1 dX7_sign_34 rfl rfl rfl ?_
      obtain ⟨M35, e35, h⟩ := bd h
      refine J_iast (pc' := 36) C dX7_sign_35 rfl e35 ?_
      refine J_aload_n (pc' := 37) C 0 dX7_sign_36 rfl rfl rfl ?_
      refine J_dup (pc' := 38) C dX7_sign_37 rfl rfl ?_
      obtain ⟨v38, e38, h⟩ := bd h
      refine jg_880 (pc' := 41) C dX7_sign_38 rfl (gI_some e38) ?_
      refine J_iconst (pc' := 42) (v := (1 : Int32)) C dX7_sign_41 rfl (by decide) ?_
      refine J_iadd (pc' := 43) C dX7_sign_42 rfl ?_
      obtain ⟨M43, e43, h⟩ := bd h
      refine jp_880 (pc' := 46) C (fun _ => ⟨rfl, rfl⟩) dX7_sign_43 rfl e43 ?_
      refine J_aload_n (pc' := 47) C 0 dX7_sign_46 rfl rfl rfl ?_
      refine J_iconst (pc' := 48) (v := (0 : Int32)) C dX7_sign_47 rfl (by decide) ?_
      obtain ⟨M48, e48, h⟩ := bd h
      refine jp_883 (pc' := 51) C (zb_ok (by decide)) dX7_sign_48 rfl e48 ?_
      refine J_aload_n (pc' := 52) C 0 dX7_sign_51 rfl rfl rfl ?_
      refine J_iconst (pc' := 53) (v := (0 : Int32)) C dX7_sign_52 rfl (by decide) ?_
      obtain ⟨M53, e53, h⟩ := bd h
      refine jp_923 (pc' := 56) C (fun _ => ⟨rfl, rfl⟩) dX7_sign_53 rfl e53 ?_
      refine J_iconst (pc' := 57) (v := (0 : Int32)) C dX7_sign_56 rfl (by decide) ?_
      refine J_istore_n (pc' := 58) (lv' := [(2, .int (0 : Int32)), (0, .ref a0), (1, .int a1)]) C dX7_sign_57 rfl rfl (by decide) rfl ?_
      refine J_sub (lv' := [(0, .ref a0), (2, .int (0 : Int32))]) [1, 0] rfl ?_
      exact ok_X7_sign_L58 C N N _ _ _ _ _ h
    · rw [if_pos c20] at h
      refine J_bipush (pc' := 25) (v := (-4 : Int32)) C dX7_sign_23 rfl (by decide) ?_
      obtain ⟨rfl, rfl⟩ := rt2 h
      exact J_iret C dX7_sign_25 (Nat.zero_le _) (Nat.zero_le _)
  · rw [if_pos c9] at h
    refine J_bipush (pc' := 14) (v := (-2 : Int32)) C dX7_sign_12 rfl (by decide) ?_
    obtain ⟨rfl, rfl⟩ := rt2 h
    exact J_iret C dX7_sign_14 (Nat.zero_le _) (Nat.zero_le _)
def f_X7_whole_K58 (N : Nat) (x3 : Int32) (s0 : Int32) (M : A_M) : Option (Int32 × A_M) :=
  if (1000000 : Int32) < x3 then
  (some ((0 : Int32), M))
  else
  (if x3 = (1000000 : Int32) then
  (if s0 = 0 then
  (some (x3, M))
  else
  (some ((0 : Int32), M)))
  else
  (some (x3, M)))
set_option maxHeartbeats 4000000 in
set_option maxRecDepth 100000 in
theorem ok_X7_whole_K58 {X : JX} (C : Cx X cX7_whole RX7 5 (some .int) 0 0) (N : Nat) : ∀ (x3 : Int32) (s0 : Int32) (M : A_M) (r : Int32) (M' : A_M), f_X7_whole_K58 N x3 s0 M = some (r, M') → J X 5 58 [(3, .int x3)] [.int s0] M 0 0 (some (.int r)) M' := by
  intro x3 s0 M r M' h
  unfold f_X7_whole_K58 at h
  refine J_istore (pc' := 60) (lv' := [(4, .int s0), (3, .int x3)]) C dX7_whole_58 rfl (by decide) rfl ?_
  refine J_iload_n (pc' := 61) C 1 dX7_whole_60 rfl rfl rfl ?_
  refine J_ldc (pc' := 63) C dX7_whole_61 rfl wq_1069 ?_
  refine J_icmp_gt (tgt := 77) (pc' := 66) C dX7_whole_63 (by decide) rfl (fun c63 => ?_) (fun c63 => ?_)
  · rw [if_pos c63] at h
    refine J_iconst (pc' := 78) (v := (0 : Int32)) C dX7_whole_77 rfl (by decide) ?_
    refine J_goto (tgt := 82) C dX7_whole_78 (by decide) ?_
    obtain ⟨rfl, rfl⟩ := rt2 h
    exact J_iret C dX7_whole_82 (Nat.zero_le _) (Nat.zero_le _)
  · rw [if_neg c63] at h
    refine J_iload_n (pc' := 67) C 1 dX7_whole_66 rfl rfl rfl ?_
    refine J_ldc (pc' := 69) C dX7_whole_67 rfl wq_1069 ?_
    refine J_icmp_ne (tgt := 81) (pc' := 72) C dX7_whole_69 (by decide) rfl (fun c69 => ?_) (fun c69 => ?_)
    · rw [if_neg c69] at h
      refine J_iload_n (pc' := 82) C 1 dX7_whole_81 rfl rfl rfl ?_
      obtain ⟨rfl, rfl⟩ := rt2 h
      exact J_iret C dX7_whole_82 (Nat.zero_le _) (Nat.zero_le _)
    · rw [if_pos c69] at h
      refine J_iload (pc' := 74) C 0 dX7_whole_72 rfl rfl ?_
      refine J_if_eq (tgt := 81) (pc' := 77) C dX7_whole_74 (by decide) rfl (fun c74 => ?_) (fun c74 => ?_)
      · rw [if_pos c74] at h
        refine J_iload_n (pc' := 82) C 1 dX7_whole_81 rfl rfl rfl ?_
        obtain ⟨rfl, rfl⟩ := rt2 h
        exact J_iret C dX7_whole_82 (Nat.zero_le _) (Nat.zero_le _)
      · rw [if_neg c74] at h
        refine J_iconst (pc' := 78) (v := (0 : Int32)) C dX7_whole_77 rfl (by decide) ?_
        refine J_goto (tgt := 82) C dX7_whole_78 (by decide) ?_
        obtain ⟨rfl, rfl⟩ := rt2 h
        exact J_iret C dX7_whole_82 (Nat.zero_le _) (Nat.zero_le _)
def f_X7_whole (N : Nat) (a0 : Int32) (M : A_M) : Option (Int32 × A_M) :=
  if a0 < 0 then
  (some ((0 : Int32), M))
  else
  (if (((a0 >>> ((23 : Int32) &&& 31)) &&& (255 : Int32)) - (127 : Int32)) < 0 then
  (some ((0 : Int32), M))
  else
  (if (((a0 >>> ((23 : Int32) &&& 31)) &&& (255 : Int32)) - (127 : Int32)) ≤ (19 : Int32) then
  (if ((((a0 &&& (8388607 : Int32)) ||| (8388608 : Int32)) >>> (((23 : Int32) - (((a0 >>> ((23 : Int32) &&& 31)) &&& (255 : Int32)) - (127 : Int32))) &&& 31)) <<< (((23 : Int32) - (((a0 >>> ((23 : Int32) &&& 31)) &&& (255 : Int32)) - (127 : Int32))) &&& 31)) = ((a0 &&& (8388607 : Int32)) ||| (8388608 : Int32)) then
  (f_X7_whole_K58 N (((a0 &&& (8388607 : Int32)) ||| (8388608 : Int32)) >>> (((23 : Int32) - (((a0 >>> ((23 : Int32) &&& 31)) &&& (255 : Int32)) - (127 : Int32))) &&& 31)) (0 : Int32) M)
  else
  (f_X7_whole_K58 N (((a0 &&& (8388607 : Int32)) ||| (8388608 : Int32)) >>> (((23 : Int32) - (((a0 >>> ((23 : Int32) &&& 31)) &&& (255 : Int32)) - (127 : Int32))) &&& 31)) (1 : Int32) M))
  else
  (some ((0 : Int32), M))))
set_option maxHeartbeats 4000000 in
set_option maxRecDepth 100000 in
theorem ok_X7_whole (N : Nat) {a0 : Int32} {M : A_M} {r : Int32} {M' : A_M} (h : f_X7_whole N a0 M = some (r, M')) : Runs yX7_whole cX7_whole 5 (some .int) 0 0 0 0 [.int a0] M (some (.int r)) M' := by
  refine Runs.intro (by decide) (Nat.le_of_ble_eq_true rfl) (fun X C hnm hMC hMS => ?_)
  have C : Cx X cX7_whole RX7 5 (some .int) 0 0 := C
  show J X 5 0 [(0, .int a0)] [] M 0 0 (some (.int r)) M'
  unfold f_X7_whole at h
  refine J_iload_n (pc' := 1) C 0 dX7_whole_0 rfl rfl rfl ?_
  refine J_bipush (pc' := 3) (v := (23 : Int32)) C dX7_whole_1 rfl (by decide) ?_
  refine J_ishr (pc' := 4) C dX7_whole_3 rfl ?_
  refine J_sipush (pc' := 7) (v := (255 : Int32)) C dX7_whole_4 rfl (by decide) ?_
  refine J_iand (pc' := 8) C dX7_whole_7 rfl ?_
  refine J_bipush (pc' := 10) (v := (127 : Int32)) C dX7_whole_8 rfl (by decide) ?_
  refine J_isub (pc' := 11) C dX7_whole_10 rfl ?_
  refine J_istore_n (pc' := 12) (lv' := [(1, .int (((a0 >>> ((23 : Int32) &&& 31)) &&& (255 : Int32)) - (127 : Int32))), (0, .int a0)]) C dX7_whole_11 rfl rfl (by decide) rfl ?_
  refine J_iload_n (pc' := 13) C 1 dX7_whole_12 rfl rfl rfl ?_
  refine J_if_lt (tgt := 26) (pc' := 16) C dX7_whole_13 (by decide) rfl (fun c13 => ?_) (fun c13 => ?_)
  · rw [if_pos c13] at h
    refine J_iconst (pc' := 27) (v := (0 : Int32)) C dX7_whole_26 rfl (by decide) ?_
    obtain ⟨rfl, rfl⟩ := rt2 h
    exact J_iret C dX7_whole_27 (Nat.zero_le _) (Nat.zero_le _)
  · rw [if_neg c13] at h
    refine J_iload_n (pc' := 17) C 0 dX7_whole_16 rfl rfl rfl ?_
    refine J_if_lt (tgt := 26) (pc' := 20) C dX7_whole_17 (by decide) rfl (fun c17 => ?_) (fun c17 => ?_)
    · rw [if_pos c17] at h
      refine J_iconst (pc' := 27) (v := (0 : Int32)) C dX7_whole_26 rfl (by decide) ?_
      obtain ⟨rfl, rfl⟩ := rt2 h
      exact J_iret C dX7_whole_27 (Nat.zero_le _) (Nat.zero_le _)
    · rw [if_neg c17] at h
      refine J_iload_n (pc' := 21) C 0 dX7_whole_20 rfl rfl rfl ?_
      refine J_bipush (pc' := 23) (v := (19 : Int32)) C dX7_whole_21 rfl (by decide) ?_
      refine J_icmp_le (tgt := 28) (pc' := 26) C dX7_whole_23 (by decide) rfl (fun c23 => ?_) (fun c23 => ?_)
      · rw [if_pos c23] at h
        refine J_iload_n (pc' := 29) C 1 dX7_whole_28 rfl rfl rfl ?_
        refine J_ldc (pc' := 31) C dX7_whole_29 rfl wq_1067 ?_
        refine J_iand (pc' := 32) C dX7_whole_31 rfl ?_
        refine J_ldc (pc' := 34) C dX7_whole_32 rfl wq_1068 ?_
        refine J_ior (pc' := 35) C dX7_whole_34 rfl ?_
        refine J_istore_n (pc' := 36) (lv' := [(2, .int ((a0 &&& (8388607 : Int32)) ||| (8388608 : Int32))), (1, .int (((a0 >>> ((23 : Int32) &&& 31)) &&& (255 : Int32)) - (127 : Int32))), (0, .int a0)]) C dX7_whole_35 rfl rfl (by decide) rfl ?_
        refine J_iload_n (pc' := 37) C 0 dX7_whole_36 rfl rfl rfl ?_
        refine J_bipush (pc' := 39) (v := (23 : Int32)) C dX7_whole_37 rfl (by decide) ?_
        refine J_iload_n (pc' := 40) C 1 dX7_whole_39 rfl rfl rfl ?_
        refine J_isub (pc' := 41) C dX7_whole_40 rfl ?_
        refine J_ishr (pc' := 42) C dX7_whole_41 rfl ?_
        refine J_istore_n (pc' := 43) (lv' := [(3, .int (((a0 &&& (8388607 : Int32)) ||| (8388608 : Int32)) >>> (((23 : Int32) - (((a0 >>> ((23 : Int32) &&& 31)) &&& (255 : Int32)) - (127 : Int32))) &&& 31))), (2, .int ((a0 &&& (8388607 : Int32)) ||| (8388608 : Int32))), (1, .int (((a0 >>> ((23 : Int32) &&& 31)) &&& (255 : Int32)) - (127 : Int32))), (0, .int a0)]) C dX7_whole_42 rfl rfl (by decide) rfl ?_
        refine J_iload_n (pc' := 44) C 0 dX7_whole_43 rfl rfl rfl ?_
        refine J_bipush (pc' := 46) (v := (23 : Int32)) C dX7_whole_44 rfl (by decide) ?_
        refine J_iload_n (pc' := 47) C 2 dX7_whole_46 rfl rfl rfl ?_
        refine J_isub (pc' := 48) C dX7_whole_47 rfl ?_
        refine J_ishl (pc' := 49) C dX7_whole_48 rfl ?_
        refine J_iload_n (pc' := 50) C 1 dX7_whole_49 rfl rfl rfl ?_
        refine J_icmp_eq (tgt := 57) (pc' := 53) C dX7_whole_50 (by decide) rfl (fun c50 => ?_) (fun c50 => ?_)
        · rw [if_pos c50] at h
          refine J_iconst (pc' := 58) (v := (0 : Int32)) C dX7_whole_57 rfl (by decide) ?_
          refine J_sub (lv' := [(3, .int (((a0 &&& (8388607 : Int32)) ||| (8388608 : Int32)) >>> (((23 : Int32) - (((a0 >>> ((23 : Int32) &&& 31)) &&& (255 : Int32)) - (127 : Int32))) &&& 31)))]) [0] rfl ?_
          exact ok_X7_whole_K58 C N _ _ _ _ _ h
        · rw [if_neg c50] at h
          refine J_iconst (pc' := 54) (v := (1 : Int32)) C dX7_whole_53 rfl (by decide) ?_
          refine J_goto (tgt := 58) C dX7_whole_54 (by decide) ?_
          refine J_sub (lv' := [(3, .int (((a0 &&& (8388607 : Int32)) ||| (8388608 : Int32)) >>> (((23 : Int32) - (((a0 >>> ((23 : Int32) &&& 31)) &&& (255 : Int32)) - (127 : Int32))) &&& 31)))]) [0] rfl ?_
          exact ok_X7_whole_K58 C N _ _ _ _ _ h
      · rw [if_neg c23] at h
        refine J_iconst (pc' := 27) (v := (0 : Int32)) C dX7_whole_26 rfl (by decide) ?_
        obtain ⟨rfl, rfl⟩ := rt2 h
        exact J_iret C dX7_whole_27 (Nat.zero_le _) (Nat.zero_le _)
def f_X7_thing (N : Nat) (a0 : Nat) (a1 : Int32) (M : A_M) : Option (Int32 × A_M) :=
  bnd2 (f_X7_whole N a1 M) fun v1 M1 =>
  if v1 = 0 then
  (some ((-2 : Int32), M1))
  else
  ((gI M1 a0 7 3).bind fun v13 =>
  if v13 = (24 : Int32) then
  (some ((-4 : Int32), M1))
  else
  ((gR M1 a0 7 2).bind fun v25 =>
  (gI M1 a0 7 3).bind fun v29 =>
  (stI M1 v25 v29 v1).bind fun M33 =>
  (gI M33 a0 7 3).bind fun v36 =>
  (pV M33 a0 7 3 (.int (v36 + (1 : Int32)))).bind fun M41 =>
  (pV M41 a0 7 4 (.int (0 : Int32))).bind fun M46 =>
  (gI M46 a0 7 3).bind fun v50 =>
  some ((v50 - (1 : Int32)), M46)))
set_option maxHeartbeats 4000000 in
set_option maxRecDepth 100000 in
theorem ok_X7_thing (N : Nat) {a0 : Nat} {a1 : Int32} {M : A_M} {r : Int32} {M' : A_M} (h : f_X7_thing N a0 a1 M = some (r, M')) : Runs yX7_thing cX7_thing 3 (some .int) 1 24 0 0 [.ref a0, .int a1] M (some (.int r)) M' := by
  refine Runs.intro (by decide) (Nat.le_of_ble_eq_true rfl) (fun X C hnm hMC hMS => ?_)
  have C : Cx X cX7_thing RX7 3 (some .int) 1 24 := C
  show J X 3 0 [(0, .ref a0), (1, .int a1)] [] M 0 0 (some (.int r)) M'
  unfold f_X7_thing at h
  refine J_iload_n (pc' := 1) C 1 dX7_thing_0 rfl rfl rfl ?_
  obtain ⟨v1, M1, e1, h⟩ := bd2 h
  refine J_cS (pc' := 4) (st := []) (st2 := [.int v1]) (cs2 := 0) (sl2 := 0) C (ok_X7_whole N e1) mw_X7_whole wq_1064 rfl dX7_thing_1 rfl rfl (Nat.le_of_ble_eq_true rfl) (by decide) (by decide) rfl rfl rfl (Nat.zero_le _) (Nat.zero_le _) ?_
  refine J_istore_n (pc' := 5) (lv' := [(2, .int v1), (0, .ref a0), (1, .int a1)]) C dX7_thing_4 rfl rfl (by decide) rfl ?_
  refine J_iload_n (pc' := 6) C 0 dX7_thing_5 rfl rfl rfl ?_
  refine J_if_ne (tgt := 12) (pc' := 9) C dX7_thing_6 (by decide) rfl (fun c6 => ?_) (fun c6 => ?_)
  · rw [if_neg c6] at h
    refine J_aload_n (pc' := 13) C 1 dX7_thing_12 rfl rfl rfl ?_
    obtain ⟨v13, e13, h⟩ := bd h
    refine jg_882 (pc' := 16) C dX7_thing_13 rfl (gI_some e13) ?_
    refine J_bipush (pc' := 18) (v := (24 : Int32)) C dX7_thing_16 rfl (by decide) ?_
    refine J_icmp_ne (tgt := 24) (pc' := 21) C dX7_thing_18 (by decide) rfl (fun c18 => ?_) (fun c18 => ?_)
    · rw [if_neg c18] at h
      refine J_aload_n (pc' := 25) C 1 dX7_thing_24 rfl rfl rfl ?_
      obtain ⟨v25, e25, h⟩ := bd h
      refine jg_881 (pc' := 28) C dX7_thing_25 rfl (gR_some e25) ?_
      refine J_aload_n (pc' := 29) C 1 dX7_thing_28 rfl rfl rfl ?_
      obtain ⟨v29, e29, h⟩ := bd h
      refine jg_882 (pc' := 32) C dX7_thing_29 rfl (gI_some e29) ?_
      refine J_iload_n (pc' := 33) C 0 dX7_thing_32 rfl rfl rfl ?_
      obtain ⟨M33, e33, h⟩ := bd h
      refine J_iast (pc' := 34) C dX7_thing_33 rfl e33 ?_
      refine J_aload_n (pc' := 35) C 1 dX7_thing_34 rfl rfl rfl ?_
      refine J_dup (pc' := 36) C dX7_thing_35 rfl rfl ?_
      obtain ⟨v36, e36, h⟩ := bd h
      refine jg_882 (pc' := 39) C dX7_thing_36 rfl (gI_some e36) ?_
      refine J_iconst (pc' := 40) (v := (1 : Int32)) C dX7_thing_39 rfl (by decide) ?_
      refine J_iadd (pc' := 41) C dX7_thing_40 rfl ?_
      obtain ⟨M41, e41, h⟩ := bd h
      refine jp_882 (pc' := 44) C (fun _ => ⟨rfl, rfl⟩) dX7_thing_41 rfl e41 ?_
      refine J_aload_n (pc' := 45) C 1 dX7_thing_44 rfl rfl rfl ?_
      refine J_iconst (pc' := 46) (v := (0 : Int32)) C dX7_thing_45 rfl (by decide) ?_
      obtain ⟨M46, e46, h⟩ := bd h
      refine jp_883 (pc' := 49) C (zb_ok (by decide)) dX7_thing_46 rfl e46 ?_
      refine J_aload_n (pc' := 50) C 1 dX7_thing_49 rfl rfl rfl ?_
      obtain ⟨v50, e50, h⟩ := bd h
      refine jg_882 (pc' := 53) C dX7_thing_50 rfl (gI_some e50) ?_
      refine J_iconst (pc' := 54) (v := (1 : Int32)) C dX7_thing_53 rfl (by decide) ?_
      refine J_isub (pc' := 55) C dX7_thing_54 rfl ?_
      obtain ⟨rfl, rfl⟩ := rt2 h
      exact J_iret C dX7_thing_55 (Nat.zero_le _) (Nat.zero_le _)
    · rw [if_pos c18] at h
      refine J_bipush (pc' := 23) (v := (-4 : Int32)) C dX7_thing_21 rfl (by decide) ?_
      obtain ⟨rfl, rfl⟩ := rt2 h
      exact J_iret C dX7_thing_23 (Nat.zero_le _) (Nat.zero_le _)
  · rw [if_pos c6] at h
    refine J_bipush (pc' := 11) (v := (-2 : Int32)) C dX7_thing_9 rfl (by decide) ?_
    obtain ⟨rfl, rfl⟩ := rt2 h
    exact J_iret C dX7_thing_11 (Nat.zero_le _) (Nat.zero_le _)
def f_X7_isThing (N : Nat) (a0 : Nat) (a1 : Int32) (M : A_M) : Option (Int32 × A_M) :=
  (gI M a0 7 3).bind fun v4 =>
  bnd2 (f_X7_in N (a1.toInt64) (0 : Int64) ((v4 - (1 : Int32)).toInt64) M) fun v10 M10 =>
  (zb v10).bind fun _ =>
  some (v10, M10)
set_option maxHeartbeats 4000000 in
set_option maxRecDepth 100000 in
theorem ok_X7_isThing (N : Nat) {a0 : Nat} {a1 : Int32} {M : A_M} {r : Int32} {M' : A_M} (h : f_X7_isThing N a0 a1 M = some (r, M')) : Runs yX7_isThing cX7_isThing 2 (some .boolean) 1 25 0 0 [.ref a0, .int a1] M (some (.int r)) M' := by
  refine Runs.intro (by decide) (Nat.le_of_ble_eq_true rfl) (fun X C hnm hMC hMS => ?_)
  have C : Cx X cX7_isThing RX7 2 (some .boolean) 1 25 := C
  show J X 2 0 [(0, .ref a0), (1, .int a1)] [] M 0 0 (some (.int r)) M'
  unfold f_X7_isThing at h
  refine J_iload_n (pc' := 1) C 1 dX7_isThing_0 rfl rfl rfl ?_
  refine J_i2l (pc' := 2) C dX7_isThing_1 rfl ?_
  refine J_lconst (pc' := 3) (v := (0 : Int64)) C dX7_isThing_2 rfl (by decide) ?_
  refine J_aload_n (pc' := 4) C 0 dX7_isThing_3 rfl rfl rfl ?_
  obtain ⟨v4, e4, h⟩ := bd h
  refine jg_882 (pc' := 7) C dX7_isThing_4 rfl (gI_some e4) ?_
  refine J_iconst (pc' := 8) (v := (1 : Int32)) C dX7_isThing_7 rfl (by decide) ?_
  refine J_isub (pc' := 9) C dX7_isThing_8 rfl ?_
  refine J_i2l (pc' := 10) C dX7_isThing_9 rfl ?_
  obtain ⟨v10, M10, e10, h⟩ := bd2 h
  refine J_cS (pc' := 13) (st := []) (st2 := [.int v10]) (cs2 := 0) (sl2 := 0) C (ok_X7_in N e10) mw_X7_in wq_1057 rfl dX7_isThing_10 rfl rfl (Nat.le_of_ble_eq_true rfl) (by decide) (by decide) rfl rfl rfl (Nat.zero_le _) (Nat.zero_le _) ?_
  obtain ⟨_, z13, h⟩ := bd h
  obtain ⟨rfl, rfl⟩ := rt2 h
  exact J_zret C (zb_n (zb_some z13)) dX7_isThing_13 (Nat.zero_le _) (Nat.zero_le _)
def f_X7_isSign (N : Nat) (a0 : Nat) (a1 : Int32) (M : A_M) : Option (Int32 × A_M) :=
  (gI M a0 7 1).bind fun v4 =>
  bnd2 (f_X7_in N (a1.toInt64) (0 : Int64) ((v4 - (1 : Int32)).toInt64) M) fun v10 M10 =>
  (zb v10).bind fun _ =>
  some (v10, M10)
set_option maxHeartbeats 4000000 in
set_option maxRecDepth 100000 in
theorem ok_X7_isSign (N : Nat) {a0 : Nat} {a1 : Int32} {M : A_M} {r : Int32} {M' : A_M} (h : f_X7_isSign N a0 a1 M = some (r, M')) : Runs yX7_isSign cX7_isSign 2 (some .boolean) 1 25 0 0 [.ref a0, .int a1] M (some (.int r)) M' := by
  refine Runs.intro (by decide) (Nat.le_of_ble_eq_true rfl) (fun X C hnm hMC hMS => ?_)
  have C : Cx X cX7_isSign RX7 2 (some .boolean) 1 25 := C
  show J X 2 0 [(0, .ref a0), (1, .int a1)] [] M 0 0 (some (.int r)) M'
  unfold f_X7_isSign at h
  refine J_iload_n (pc' := 1) C 1 dX7_isSign_0 rfl rfl rfl ?_
  refine J_i2l (pc' := 2) C dX7_isSign_1 rfl ?_
  refine J_lconst (pc' := 3) (v := (0 : Int64)) C dX7_isSign_2 rfl (by decide) ?_
  refine J_aload_n (pc' := 4) C 0 dX7_isSign_3 rfl rfl rfl ?_
  obtain ⟨v4, e4, h⟩ := bd h
  refine jg_880 (pc' := 7) C dX7_isSign_4 rfl (gI_some e4) ?_
  refine J_iconst (pc' := 8) (v := (1 : Int32)) C dX7_isSign_7 rfl (by decide) ?_
  refine J_isub (pc' := 9) C dX7_isSign_8 rfl ?_
  refine J_i2l (pc' := 10) C dX7_isSign_9 rfl ?_
  obtain ⟨v10, M10, e10, h⟩ := bd2 h
  refine J_cS (pc' := 13) (st := []) (st2 := [.int v10]) (cs2 := 0) (sl2 := 0) C (ok_X7_in N e10) mw_X7_in wq_1057 rfl dX7_isSign_10 rfl rfl (Nat.le_of_ble_eq_true rfl) (by decide) (by decide) rfl rfl rfl (Nat.zero_le _) (Nat.zero_le _) ?_
  obtain ⟨_, z13, h⟩ := bd h
  obtain ⟨rfl, rfl⟩ := rt2 h
  exact J_zret C (zb_n (zb_some z13)) dX7_isSign_13 (Nat.zero_le _) (Nat.zero_le _)
def f_X7_count (N : Nat) (a0 : Nat) (a1 : Int32) (a2 : Int32) (M : A_M) : Option (Int32 × A_M) :=
  (chk M a0 7).bind fun _ =>
  bnd2 (f_X7_isThing N a0 a1 M) fun v2 M2 =>
  if v2 = 0 then
  (some ((-1 : Int32), M2))
  else
  (bnd2 (f_X7_whole N a2 M2) fun v11 M11 =>
  if v11 = 0 then
  (some ((-2 : Int32), M11))
  else
  ((gR M11 a0 7 2).bind fun v23 =>
  (ldI M11 v23 a1).bind fun v27 =>
  (gR M11 a0 7 2).bind fun v31 =>
  (stI M11 v31 a1 v11).bind fun M36 =>
  some (v27, M36)))
set_option maxHeartbeats 4000000 in
set_option maxRecDepth 100000 in
theorem ok_X7_count (N : Nat) {a0 : Nat} {a1 : Int32} {a2 : Int32} {M : A_M} {r : Int32} {M' : A_M} (h : f_X7_count N a0 a1 a2 M = some (r, M')) : Runs yX7_count cX7_count 5 (some .int) 2 46 0 0 [.ref a0, .int a1, .int a2] M (some (.int r)) M' := by
  refine Runs.intro (by decide) (Nat.le_of_ble_eq_true rfl) (fun X C hnm hMC hMS => ?_)
  have C : Cx X cX7_count RX7 5 (some .int) 2 46 := C
  show J X 5 0 [(0, .ref a0), (1, .int a1), (2, .int a2)] [] M 0 0 (some (.int r)) M'
  unfold f_X7_count at h
  refine J_aload_n (pc' := 1) C 0 dX7_count_0 rfl rfl rfl ?_
  refine J_iload_n (pc' := 2) C 1 dX7_count_1 rfl rfl rfl ?_
  obtain ⟨_, q2, h⟩ := bd h
  obtain ⟨v2, M2, e2, h⟩ := bd2 h
  refine J_cV (pc' := 5) (st := []) (st2 := [.int v2]) (cs2 := 0) (sl2 := 0) C 7 rfl rfl q2 (ok_X7_isThing N e2) mw_X7_isThing wq_1074 rfl dX7_count_2 rfl rfl (Nat.le_of_ble_eq_true rfl) (by decide) (by decide) rfl rfl rfl (Nat.zero_le _) (Nat.zero_le _) ?_
  refine J_if_ne (tgt := 10) (pc' := 8) C dX7_count_5 (by decide) rfl (fun c5 => ?_) (fun c5 => ?_)
  · rw [if_neg c5] at h
    refine J_iload_n (pc' := 11) C 2 dX7_count_10 rfl rfl rfl ?_
    obtain ⟨v11, M11, e11, h⟩ := bd2 h
    refine J_cS (pc' := 14) (st := []) (st2 := [.int v11]) (cs2 := 0) (sl2 := 0) C (ok_X7_whole N e11) mw_X7_whole wq_1064 rfl dX7_count_11 rfl rfl (Nat.le_of_ble_eq_true rfl) (by decide) (by decide) rfl rfl rfl (Nat.zero_le _) (Nat.zero_le _) ?_
    refine J_istore_n (pc' := 15) (lv' := [(3, .int v11), (0, .ref a0), (1, .int a1), (2, .int a2)]) C dX7_count_14 rfl rfl (by decide) rfl ?_
    refine J_iload_n (pc' := 16) C 0 dX7_count_15 rfl rfl rfl ?_
    refine J_if_ne (tgt := 22) (pc' := 19) C dX7_count_16 (by decide) rfl (fun c16 => ?_) (fun c16 => ?_)
    · rw [if_neg c16] at h
      refine J_aload_n (pc' := 23) C 1 dX7_count_22 rfl rfl rfl ?_
      obtain ⟨v23, e23, h⟩ := bd h
      refine jg_881 (pc' := 26) C dX7_count_23 rfl (gR_some e23) ?_
      refine J_iload_n (pc' := 27) C 2 dX7_count_26 rfl rfl rfl ?_
      obtain ⟨v27, e27, h⟩ := bd h
      refine J_iald (pc' := 28) C dX7_count_27 rfl e27 ?_
      refine J_istore (pc' := 30) (lv' := [(4, .int v27), (3, .int v11), (0, .ref a0), (1, .int a1), (2, .int a2)]) C dX7_count_28 rfl (by decide) rfl ?_
      refine J_aload_n (pc' := 31) C 2 dX7_count_30 rfl rfl rfl ?_
      obtain ⟨v31, e31, h⟩ := bd h
      refine jg_881 (pc' := 34) C dX7_count_31 rfl (gR_some e31) ?_
      refine J_iload_n (pc' := 35) C 3 dX7_count_34 rfl rfl rfl ?_
      refine J_iload_n (pc' := 36) C 1 dX7_count_35 rfl rfl rfl ?_
      obtain ⟨M36, e36, h⟩ := bd h
      refine J_iast (pc' := 37) C dX7_count_36 rfl e36 ?_
      refine J_iload (pc' := 39) C 0 dX7_count_37 rfl rfl ?_
      obtain ⟨rfl, rfl⟩ := rt2 h
      exact J_iret C dX7_count_39 (Nat.zero_le _) (Nat.zero_le _)
    · rw [if_pos c16] at h
      refine J_bipush (pc' := 21) (v := (-2 : Int32)) C dX7_count_19 rfl (by decide) ?_
      obtain ⟨rfl, rfl⟩ := rt2 h
      exact J_iret C dX7_count_21 (Nat.zero_le _) (Nat.zero_le _)
  · rw [if_pos c5] at h
    refine J_iconst (pc' := 9) (v := (-1 : Int32)) C dX7_count_8 rfl (by decide) ?_
    obtain ⟨rfl, rfl⟩ := rt2 h
    exact J_iret C dX7_count_9 (Nat.zero_le _) (Nat.zero_le _)
def f_X7_with (N : Nat) (a0 : Int64) (a2 : Int32) (a3 : Int32) (M : A_M) : Option (Int64 × A_M) :=
  some ((a0 ||| ((a3.toInt64) <<< (((46 : Int32) - ((2 : Int32) * a2)).toInt64 &&& 63))), M)
set_option maxHeartbeats 4000000 in
set_option maxRecDepth 100000 in
theorem ok_X7_with (N : Nat) {a0 : Int64} {a2 : Int32} {a3 : Int32} {M : A_M} {r : Int64} {M' : A_M} (h : f_X7_with N a0 a2 a3 M = some (r, M')) : Runs yX7_with cX7_with 4 (some .long) 0 0 0 0 [.long a0, .int a2, .int a3] M (some (.long r)) M' := by
  refine Runs.intro (by decide) (Nat.le_of_ble_eq_true rfl) (fun X C hnm hMC hMS => ?_)
  have C : Cx X cX7_with RX7 4 (some .long) 0 0 := C
  show J X 4 0 [(0, .long a0), (2, .int a2), (3, .int a3)] [] M 0 0 (some (.long r)) M'
  unfold f_X7_with at h
  refine J_lload_n (pc' := 1) C 0 dX7_with_0 rfl rfl rfl ?_
  refine J_iload_n (pc' := 2) C 2 dX7_with_1 rfl rfl rfl ?_
  refine J_i2l (pc' := 3) C dX7_with_2 rfl ?_
  refine J_bipush (pc' := 5) (v := (46 : Int32)) C dX7_with_3 rfl (by decide) ?_
  refine J_iconst (pc' := 6) (v := (2 : Int32)) C dX7_with_5 rfl (by decide) ?_
  refine J_iload_n (pc' := 7) C 1 dX7_with_6 rfl rfl rfl ?_
  refine J_imul (pc' := 8) C dX7_with_7 rfl ?_
  refine J_isub (pc' := 9) C dX7_with_8 rfl ?_
  refine J_lshl (pc' := 10) C dX7_with_9 rfl ?_
  refine J_lor (pc' := 11) C dX7_with_10 rfl ?_
  obtain ⟨rfl, rfl⟩ := rt2 h
  exact J_lret C dX7_with_11 (Nat.zero_le _) (Nat.zero_le _)
def f_X7_signAt (N : Nat) (a0 : Int64) (a2 : Int32) (M : A_M) : Option (Int32 × A_M) :=
  some ((((a0 >>> (((46 : Int32) - ((2 : Int32) * a2)).toInt64 &&& 63)) &&& (3 : Int64)).toInt32), M)
set_option maxHeartbeats 4000000 in
set_option maxRecDepth 100000 in
theorem ok_X7_signAt (N : Nat) {a0 : Int64} {a2 : Int32} {M : A_M} {r : Int32} {M' : A_M} (h : f_X7_signAt N a0 a2 M = some (r, M')) : Runs yX7_signAt cX7_signAt 3 (some .int) 0 0 0 0 [.long a0, .int a2] M (some (.int r)) M' := by
  refine Runs.intro (by decide) (Nat.le_of_ble_eq_true rfl) (fun X C hnm hMC hMS => ?_)
  have C : Cx X cX7_signAt RX7 3 (some .int) 0 0 := C
  show J X 3 0 [(0, .long a0), (2, .int a2)] [] M 0 0 (some (.int r)) M'
  unfold f_X7_signAt at h
  refine J_lload_n (pc' := 1) C 0 dX7_signAt_0 rfl rfl rfl ?_
  refine J_bipush (pc' := 3) (v := (46 : Int32)) C dX7_signAt_1 rfl (by decide) ?_
  refine J_iconst (pc' := 4) (v := (2 : Int32)) C dX7_signAt_3 rfl (by decide) ?_
  refine J_iload_n (pc' := 5) C 1 dX7_signAt_4 rfl rfl rfl ?_
  refine J_imul (pc' := 6) C dX7_signAt_5 rfl ?_
  refine J_isub (pc' := 7) C dX7_signAt_6 rfl ?_
  refine J_lshr (pc' := 8) C dX7_signAt_7 rfl ?_
  refine J_ldc2 (pc' := 11) C dX7_signAt_8 rfl wq_1109 ?_
  refine J_land (pc' := 12) C dX7_signAt_11 rfl ?_
  refine J_l2i (pc' := 13) C dX7_signAt_12 rfl ?_
  obtain ⟨rfl, rfl⟩ := rt2 h
  exact J_iret C dX7_signAt_13 (Nat.zero_le _) (Nat.zero_le _)
def f_X7_isAhead (N : Nat) (a0 : Int64) (a2 : Int32) (a3 : Int64) (a5 : Int32) (M : A_M) : Option (Int32 × A_M) :=
  if (lg_cmp a0 a3) < 0 then
  (some ((1 : Int32), M))
  else
  (if (lg_cmp a0 a3) = 0 then
  (if a5 ≤ a2 then
  (some ((0 : Int32), M))
  else
  (some ((1 : Int32), M)))
  else
  (some ((0 : Int32), M)))
set_option maxHeartbeats 4000000 in
set_option maxRecDepth 100000 in
theorem ok_X7_isAhead (N : Nat) {a0 : Int64} {a2 : Int32} {a3 : Int64} {a5 : Int32} {M : A_M} {r : Int32} {M' : A_M} (h : f_X7_isAhead N a0 a2 a3 a5 M = some (r, M')) : Runs yX7_isAhead cX7_isAhead 6 (some .boolean) 0 0 0 0 [.long a0, .int a2, .long a3, .int a5] M (some (.int r)) M' := by
  refine Runs.intro (by decide) (Nat.le_of_ble_eq_true rfl) (fun X C hnm hMC hMS => ?_)
  have C : Cx X cX7_isAhead RX7 6 (some .boolean) 0 0 := C
  show J X 6 0 [(0, .long a0), (2, .int a2), (3, .long a3), (5, .int a5)] [] M 0 0 (some (.int r)) M'
  unfold f_X7_isAhead at h
  refine J_lload_n (pc' := 1) C 0 dX7_isAhead_0 rfl rfl rfl ?_
  refine J_lload_n (pc' := 2) C 2 dX7_isAhead_1 rfl rfl rfl ?_
  refine J_lcmp (pc' := 3) C dX7_isAhead_2 rfl ?_
  refine J_if_lt (tgt := 18) (pc' := 6) C dX7_isAhead_3 (by decide) rfl (fun c3 => ?_) (fun c3 => ?_)
  · rw [if_pos c3] at h
    refine J_iconst (pc' := 19) (v := (1 : Int32)) C dX7_isAhead_18 rfl (by decide) ?_
    refine J_goto (tgt := 23) C dX7_isAhead_19 (by decide) ?_
    obtain ⟨rfl, rfl⟩ := rt2 h
    exact J_zret C rfl dX7_isAhead_23 (Nat.zero_le _) (Nat.zero_le _)
  · rw [if_neg c3] at h
    refine J_lload_n (pc' := 7) C 0 dX7_isAhead_6 rfl rfl rfl ?_
    refine J_lload_n (pc' := 8) C 2 dX7_isAhead_7 rfl rfl rfl ?_
    refine J_lcmp (pc' := 9) C dX7_isAhead_8 rfl ?_
    refine J_if_ne (tgt := 22) (pc' := 12) C dX7_isAhead_9 (by decide) rfl (fun c9 => ?_) (fun c9 => ?_)
    · rw [if_neg c9] at h
      refine J_iconst (pc' := 23) (v := (0 : Int32)) C dX7_isAhead_22 rfl (by decide) ?_
      obtain ⟨rfl, rfl⟩ := rt2 h
      exact J_zret C rfl dX7_isAhead_23 (Nat.zero_le _) (Nat.zero_le _)
    · rw [if_pos c9] at h
      refine J_iload_n (pc' := 13) C 1 dX7_isAhead_12 rfl rfl rfl ?_
      refine J_iload (pc' := 15) C 3 dX7_isAhead_13 rfl rfl ?_
      refine J_icmp_ge (tgt := 22) (pc' := 18) C dX7_isAhead_15 (by decide) rfl (fun c15 => ?_) (fun c15 => ?_)
      · rw [if_pos c15] at h
        refine J_iconst (pc' := 23) (v := (0 : Int32)) C dX7_isAhead_22 rfl (by decide) ?_
        obtain ⟨rfl, rfl⟩ := rt2 h
        exact J_zret C rfl dX7_isAhead_23 (Nat.zero_le _) (Nat.zero_le _)
      · rw [if_neg c15] at h
        refine J_iconst (pc' := 19) (v := (1 : Int32)) C dX7_isAhead_18 rfl (by decide) ?_
        refine J_goto (tgt := 23) C dX7_isAhead_19 (by decide) ?_
        obtain ⟨rfl, rfl⟩ := rt2 h
        exact J_zret C rfl dX7_isAhead_23 (Nat.zero_le _) (Nat.zero_le _)
def f_X7_begins (N : Nat) (a0 : Int64) (a2 : Int32) (a3 : Int64) (a5 : Int32) (M : A_M) : Option (Int32 × A_M) :=
  if a5 < a2 then
  (some ((0 : Int32), M))
  else
  (if (lg_cmp ((a0 ^^^ a3) >>> (((48 : Int32) - ((2 : Int32) * a2)).toInt64 &&& 63)) (0 : Int64)) = 0 then
  (some ((1 : Int32), M))
  else
  (some ((0 : Int32), M)))
set_option maxHeartbeats 4000000 in
set_option maxRecDepth 100000 in
theorem ok_X7_begins (N : Nat) {a0 : Int64} {a2 : Int32} {a3 : Int64} {a5 : Int32} {M : A_M} {r : Int32} {M' : A_M} (h : f_X7_begins N a0 a2 a3 a5 M = some (r, M')) : Runs yX7_begins cX7_begins 6 (some .boolean) 0 0 0 0 [.long a0, .int a2, .long a3, .int a5] M (some (.int r)) M' := by
  refine Runs.intro (by decide) (Nat.le_of_ble_eq_true rfl) (fun X C hnm hMC hMS => ?_)
  have C : Cx X cX7_begins RX7 6 (some .boolean) 0 0 := C
  show J X 6 0 [(0, .long a0), (2, .int a2), (3, .long a3), (5, .int a5)] [] M 0 0 (some (.int r)) M'
  unfold f_X7_begins at h
  refine J_iload_n (pc' := 1) C 1 dX7_begins_0 rfl rfl rfl ?_
  refine J_iload (pc' := 3) C 3 dX7_begins_1 rfl rfl ?_
  refine J_icmp_gt (tgt := 25) (pc' := 6) C dX7_begins_3 (by decide) rfl (fun c3 => ?_) (fun c3 => ?_)
  · rw [if_pos c3] at h
    refine J_iconst (pc' := 26) (v := (0 : Int32)) C dX7_begins_25 rfl (by decide) ?_
    obtain ⟨rfl, rfl⟩ := rt2 h
    exact J_zret C rfl dX7_begins_26 (Nat.zero_le _) (Nat.zero_le _)
  · rw [if_neg c3] at h
    refine J_lload_n (pc' := 7) C 0 dX7_begins_6 rfl rfl rfl ?_
    refine J_lload_n (pc' := 8) C 2 dX7_begins_7 rfl rfl rfl ?_
    refine J_lxor (pc' := 9) C dX7_begins_8 rfl ?_
    refine J_bipush (pc' := 11) (v := (48 : Int32)) C dX7_begins_9 rfl (by decide) ?_
    refine J_iconst (pc' := 12) (v := (2 : Int32)) C dX7_begins_11 rfl (by decide) ?_
    refine J_iload_n (pc' := 13) C 1 dX7_begins_12 rfl rfl rfl ?_
    refine J_imul (pc' := 14) C dX7_begins_13 rfl ?_
    refine J_isub (pc' := 15) C dX7_begins_14 rfl ?_
    refine J_lshr (pc' := 16) C dX7_begins_15 rfl ?_
    refine J_lconst (pc' := 17) (v := (0 : Int64)) C dX7_begins_16 rfl (by decide) ?_
    refine J_lcmp (pc' := 18) C dX7_begins_17 rfl ?_
    refine J_if_ne (tgt := 25) (pc' := 21) C dX7_begins_18 (by decide) rfl (fun c18 => ?_) (fun c18 => ?_)
    · rw [if_neg c18] at h
      refine J_iconst (pc' := 26) (v := (0 : Int32)) C dX7_begins_25 rfl (by decide) ?_
      obtain ⟨rfl, rfl⟩ := rt2 h
      exact J_zret C rfl dX7_begins_26 (Nat.zero_le _) (Nat.zero_le _)
    · rw [if_pos c18] at h
      refine J_iconst (pc' := 22) (v := (1 : Int32)) C dX7_begins_21 rfl (by decide) ?_
      refine J_goto (tgt := 26) C dX7_begins_22 (by decide) ?_
      obtain ⟨rfl, rfl⟩ := rt2 h
      exact J_zret C rfl dX7_begins_26 (Nat.zero_le _) (Nat.zero_le _)
def f_X7_canBegin (N : Nat) (a0 : Nat) (M : A_M) : Option (Int32 × A_M) :=
  (gI M a0 7 1).bind fun v1 =>
  if v1 < (2 : Int32) then
  (some ((0 : Int32), M))
  else
  ((gI M a0 7 3).bind fun v9 =>
  if v9 ≤ 0 then
  (some ((0 : Int32), M))
  else
  (some ((1 : Int32), M)))
set_option maxHeartbeats 4000000 in
set_option maxRecDepth 100000 in
theorem ok_X7_canBegin (N : Nat) {a0 : Nat} {M : A_M} {r : Int32} {M' : A_M} (h : f_X7_canBegin N a0 M = some (r, M')) : Runs yX7_canBegin cX7_canBegin 1 (some .boolean) 0 0 0 0 [.ref a0] M (some (.int r)) M' := by
  refine Runs.intro (by decide) (Nat.le_of_ble_eq_true rfl) (fun X C hnm hMC hMS => ?_)
  have C : Cx X cX7_canBegin RX7 1 (some .boolean) 0 0 := C
  show J X 1 0 [(0, .ref a0)] [] M 0 0 (some (.int r)) M'
  unfold f_X7_canBegin at h
  refine J_aload_n (pc' := 1) C 0 dX7_canBegin_0 rfl rfl rfl ?_
  obtain ⟨v1, e1, h⟩ := bd h
  refine jg_880 (pc' := 4) C dX7_canBegin_1 rfl (gI_some e1) ?_
  refine J_iconst (pc' := 5) (v := (2 : Int32)) C dX7_canBegin_4 rfl (by decide) ?_
  refine J_icmp_lt (tgt := 19) (pc' := 8) C dX7_canBegin_5 (by decide) rfl (fun c5 => ?_) (fun c5 => ?_)
  · rw [if_pos c5] at h
    refine J_iconst (pc' := 20) (v := (0 : Int32)) C dX7_canBegin_19 rfl (by decide) ?_
    obtain ⟨rfl, rfl⟩ := rt2 h
    exact J_zret C rfl dX7_canBegin_20 (Nat.zero_le _) (Nat.zero_le _)
  · rw [if_neg c5] at h
    refine J_aload_n (pc' := 9) C 0 dX7_canBegin_8 rfl rfl rfl ?_
    obtain ⟨v9, e9, h⟩ := bd h
    refine jg_882 (pc' := 12) C dX7_canBegin_9 rfl (gI_some e9) ?_
    refine J_if_le (tgt := 19) (pc' := 15) C dX7_canBegin_12 (by decide) rfl (fun c12 => ?_) (fun c12 => ?_)
    · rw [if_pos c12] at h
      refine J_iconst (pc' := 20) (v := (0 : Int32)) C dX7_canBegin_19 rfl (by decide) ?_
      obtain ⟨rfl, rfl⟩ := rt2 h
      exact J_zret C rfl dX7_canBegin_20 (Nat.zero_le _) (Nat.zero_le _)
    · rw [if_neg c12] at h
      refine J_iconst (pc' := 16) (v := (1 : Int32)) C dX7_canBegin_15 rfl (by decide) ?_
      refine J_goto (tgt := 20) C dX7_canBegin_16 (by decide) ?_
      obtain ⟨rfl, rfl⟩ := rt2 h
      exact J_zret C rfl dX7_canBegin_20 (Nat.zero_le _) (Nat.zero_le _)
def f_X7_comes (N : Nat) (a0 : Nat) (M : A_M) : Option A_M :=
  (pV M a0 7 4 (.int (1 : Int32))).bind fun M2 =>
  (pV M2 a0 7 5 (.int (0 : Int32))).bind fun M7 =>
  (pV M7 a0 7 6 (.int (0 : Int32))).bind fun M12 =>
  some M12
set_option maxHeartbeats 4000000 in
set_option maxRecDepth 100000 in
theorem ok_X7_comes (N : Nat) {a0 : Nat} {M : A_M} {M' : A_M} (h : f_X7_comes N a0 M = some M') : Runs yX7_comes cX7_comes 1 none 0 0 0 0 [.ref a0] M none M' := by
  refine Runs.intro (by decide) (Nat.le_of_ble_eq_true rfl) (fun X C hnm hMC hMS => ?_)
  have C : Cx X cX7_comes RX7 1 none 0 0 := C
  show J X 1 0 [(0, .ref a0)] [] M 0 0 none M'
  unfold f_X7_comes at h
  refine J_aload_n (pc' := 1) C 0 dX7_comes_0 rfl rfl rfl ?_
  refine J_iconst (pc' := 2) (v := (1 : Int32)) C dX7_comes_1 rfl (by decide) ?_
  obtain ⟨M2, e2, h⟩ := bd h
  refine jp_883 (pc' := 5) C (zb_ok (by decide)) dX7_comes_2 rfl e2 ?_
  refine J_aload_n (pc' := 6) C 0 dX7_comes_5 rfl rfl rfl ?_
  refine J_iconst (pc' := 7) (v := (0 : Int32)) C dX7_comes_6 rfl (by decide) ?_
  obtain ⟨M7, e7, h⟩ := bd h
  refine jp_884 (pc' := 10) C (zb_ok (by decide)) dX7_comes_7 rfl e7 ?_
  refine J_aload_n (pc' := 11) C 0 dX7_comes_10 rfl rfl rfl ?_
  refine J_iconst (pc' := 12) (v := (0 : Int32)) C dX7_comes_11 rfl (by decide) ?_
  obtain ⟨M12, e12, h⟩ := bd h
  refine jp_885 (pc' := 15) C (zb_ok (by decide)) dX7_comes_12 rfl e12 ?_
  obtain rfl := rt1 h
  exact J_vret C dX7_comes_15 (Nat.zero_le _) (Nat.zero_le _)
def f_X7_priceOf_L4 (N : Nat) : Nat → Nat → Int32 → Int32 → Int32 → A_M → Option (Int32 × A_M)
  | 0, _, _, _, _, _ => none
  | n + 1, x0, x1, x2, x3, M =>
    (gR M x0 7 8).bind fun v6 =>
    (ldI M v6 x1).bind fun v10 =>
    if v10 ≤ x3 then
    (some (x2, M))
    else
    ((gR M x0 7 0).bind fun v16 =>
    (gR M x0 7 7).bind fun v20 =>
    (ldJ M v20 x1).bind fun v24 =>
    bnd2 (f_X7_signAt N v24 x3 M) fun v26 M26 =>
    (ldI M26 v16 v26).bind fun v29 =>
    f_X7_priceOf_L4 N n x0 x1 (x2 + v29) (x3 + 1) M26)
set_option maxHeartbeats 4000000 in
set_option maxRecDepth 100000 in
theorem ok_X7_priceOf_L4 {X : JX} (C : Cx X cX7_priceOf RX7 4 (some .int) 1 22) (N : Nat) : ∀ (n : Nat) (x0 : Nat) (x1 : Int32) (x2 : Int32) (x3 : Int32) (M : A_M) (r : Int32) (M' : A_M), f_X7_priceOf_L4 N n x0 x1 x2 x3 M = some (r, M') → J X 4 4 [(0, .ref x0), (1, .int x1), (2, .int x2), (3, .int x3)] [] M 0 0 (some (.int r)) M' := by
  intro n
  induction n with
  | zero =>
    intro x0 x1 x2 x3 M r M' h
    cases h
  | succ n ih =>
    intro x0 x1 x2 x3 M r M' h
    rw [f_X7_priceOf_L4] at h
    refine J_iload_n (pc' := 5) C 3 dX7_priceOf_4 rfl rfl rfl ?_
    refine J_aload_n (pc' := 6) C 0 dX7_priceOf_5 rfl rfl rfl ?_
    obtain ⟨v6, e6, h⟩ := bd h
    refine jg_887 (pc' := 9) C dX7_priceOf_6 rfl (gR_some e6) ?_
    refine J_iload_n (pc' := 10) C 1 dX7_priceOf_9 rfl rfl rfl ?_
    obtain ⟨v10, e10, h⟩ := bd h
    refine J_iald (pc' := 11) C dX7_priceOf_10 rfl e10 ?_
    refine J_icmp_ge (tgt := 38) (pc' := 14) C dX7_priceOf_11 (by decide) rfl (fun c11 => ?_) (fun c11 => ?_)
    · rw [if_pos c11] at h
      refine J_iload_n (pc' := 39) C 2 dX7_priceOf_38 rfl rfl rfl ?_
      obtain ⟨rfl, rfl⟩ := rt2 h
      exact J_iret C dX7_priceOf_39 (Nat.zero_le _) (Nat.zero_le _)
    · rw [if_neg c11] at h
      refine J_iload_n (pc' := 15) C 2 dX7_priceOf_14 rfl rfl rfl ?_
      refine J_aload_n (pc' := 16) C 0 dX7_priceOf_15 rfl rfl rfl ?_
      obtain ⟨v16, e16, h⟩ := bd h
      refine jg_879 (pc' := 19) C dX7_priceOf_16 rfl (gR_some e16) ?_
      refine J_aload_n (pc' := 20) C 0 dX7_priceOf_19 rfl rfl rfl ?_
      obtain ⟨v20, e20, h⟩ := bd h
      refine jg_886 (pc' := 23) C dX7_priceOf_20 rfl (gR_some e20) ?_
      refine J_iload_n (pc' := 24) C 1 dX7_priceOf_23 rfl rfl rfl ?_
      obtain ⟨v24, e24, h⟩ := bd h
      refine J_lald (pc' := 25) C dX7_priceOf_24 rfl e24 ?_
      refine J_iload_n (pc' := 26) C 3 dX7_priceOf_25 rfl rfl rfl ?_
      obtain ⟨v26, M26, e26, h⟩ := bd2 h
      refine J_cS (pc' := 29) (st := [.ref v16, .int x2]) (st2 := [.int v26, .ref v16, .int x2]) (cs2 := 0) (sl2 := 0) C (ok_X7_signAt N e26) mw_X7_signAt wq_1222 rfl dX7_priceOf_26 rfl rfl (Nat.le_of_ble_eq_true rfl) (by decide) (by decide) rfl rfl rfl (Nat.zero_le _) (Nat.zero_le _) ?_
      obtain ⟨v29, e29, h⟩ := bd h
      refine J_iald (pc' := 30) C dX7_priceOf_29 rfl e29 ?_
      refine J_iadd (pc' := 31) C dX7_priceOf_30 rfl ?_
      refine J_istore_n (pc' := 32) (lv' := [(2, .int (x2 + v29)), (0, .ref x0), (1, .int x1), (3, .int x3)]) C dX7_priceOf_31 rfl rfl (by decide) rfl ?_
      refine J_iinc (pc' := 35) (lv' := [(3, .int (x3 + 1)), (2, .int (x2 + v29)), (0, .ref x0), (1, .int x1)]) C 3 dX7_priceOf_32 rfl rfl rfl (by decide) rfl ?_
      refine J_goto (tgt := 4) C dX7_priceOf_35 (by decide) ?_
      refine J_sub (lv' := [(0, .ref x0), (1, .int x1), (2, .int (x2 + v29)), (3, .int (x3 + 1))]) [2, 3, 1, 0] rfl ?_
      exact ih _ _ _ _ _ _ _ h
def f_X7_priceOf (N : Nat) (a0 : Nat) (a1 : Int32) (M : A_M) : Option (Int32 × A_M) :=
  f_X7_priceOf_L4 N N a0 a1 (0 : Int32) (0 : Int32) M
set_option maxHeartbeats 4000000 in
set_option maxRecDepth 100000 in
theorem ok_X7_priceOf (N : Nat) {a0 : Nat} {a1 : Int32} {M : A_M} {r : Int32} {M' : A_M} (h : f_X7_priceOf N a0 a1 M = some (r, M')) : Runs yX7_priceOf cX7_priceOf 4 (some .int) 1 22 0 0 [.ref a0, .int a1] M (some (.int r)) M' := by
  refine Runs.intro (by decide) (Nat.le_of_ble_eq_true rfl) (fun X C hnm hMC hMS => ?_)
  have C : Cx X cX7_priceOf RX7 4 (some .int) 1 22 := C
  show J X 4 0 [(0, .ref a0), (1, .int a1)] [] M 0 0 (some (.int r)) M'
  unfold f_X7_priceOf at h
  refine J_iconst (pc' := 1) (v := (0 : Int32)) C dX7_priceOf_0 rfl (by decide) ?_
  refine J_istore_n (pc' := 2) (lv' := [(2, .int (0 : Int32)), (0, .ref a0), (1, .int a1)]) C dX7_priceOf_1 rfl rfl (by decide) rfl ?_
  refine J_iconst (pc' := 3) (v := (0 : Int32)) C dX7_priceOf_2 rfl (by decide) ?_
  refine J_istore_n (pc' := 4) (lv' := [(3, .int (0 : Int32)), (2, .int (0 : Int32)), (0, .ref a0), (1, .int a1)]) C dX7_priceOf_3 rfl rfl (by decide) rfl ?_
  refine J_sub (lv' := [(0, .ref a0), (1, .int a1), (2, .int (0 : Int32)), (3, .int (0 : Int32))]) [2, 3, 1, 0] rfl ?_
  exact ok_X7_priceOf_L4 C N N _ _ _ _ _ _ _ h
def f_X7_costNow_L4 (N : Nat) : Nat → Nat → Int64 → Int32 → A_M → Option (Int64 × A_M)
  | 0, _, _, _, _ => none
  | n + 1, x0, x1, x3, M =>
    (gI M x0 7 3).bind fun v6 =>
    if v6 ≤ x3 then
    (some (x1, M))
    else
    ((gR M x0 7 2).bind fun v14 =>
    (ldI M v14 x3).bind fun v18 =>
    (chk M x0 7).bind fun _ =>
    bnd2 (f_X7_priceOf N x0 x3 M) fun v22 M22 =>
    f_X7_costNow_L4 N n x0 (x1 + ((v18.toInt64) * (v22.toInt64))) (x3 + 1) M22)
set_option maxHeartbeats 4000000 in
set_option maxRecDepth 100000 in
theorem ok_X7_costNow_L4 {X : JX} (C : Cx X cX7_costNow RX7 4 (some .long) 2 45) (N : Nat) : ∀ (n : Nat) (x0 : Nat) (x1 : Int64) (x3 : Int32) (M : A_M) (r : Int64) (M' : A_M), f_X7_costNow_L4 N n x0 x1 x3 M = some (r, M') → J X 4 4 [(0, .ref x0), (1, .long x1), (3, .int x3)] [] M 0 0 (some (.long r)) M' := by
  intro n
  induction n with
  | zero =>
    intro x0 x1 x3 M r M' h
    cases h
  | succ n ih =>
    intro x0 x1 x3 M r M' h
    rw [f_X7_costNow_L4] at h
    refine J_iload_n (pc' := 5) C 2 dX7_costNow_4 rfl rfl rfl ?_
    refine J_aload_n (pc' := 6) C 0 dX7_costNow_5 rfl rfl rfl ?_
    obtain ⟨v6, e6, h⟩ := bd h
    refine jg_882 (pc' := 9) C dX7_costNow_6 rfl (gI_some e6) ?_
    refine J_icmp_ge (tgt := 35) (pc' := 12) C dX7_costNow_9 (by decide) rfl (fun c9 => ?_) (fun c9 => ?_)
    · rw [if_pos c9] at h
      refine J_lload_n (pc' := 36) C 1 dX7_costNow_35 rfl rfl rfl ?_
      obtain ⟨rfl, rfl⟩ := rt2 h
      exact J_lret C dX7_costNow_36 (Nat.zero_le _) (Nat.zero_le _)
    · rw [if_neg c9] at h
      refine J_lload_n (pc' := 13) C 1 dX7_costNow_12 rfl rfl rfl ?_
      refine J_aload_n (pc' := 14) C 0 dX7_costNow_13 rfl rfl rfl ?_
      obtain ⟨v14, e14, h⟩ := bd h
      refine jg_881 (pc' := 17) C dX7_costNow_14 rfl (gR_some e14) ?_
      refine J_iload_n (pc' := 18) C 2 dX7_costNow_17 rfl rfl rfl ?_
      obtain ⟨v18, e18, h⟩ := bd h
      refine J_iald (pc' := 19) C dX7_costNow_18 rfl e18 ?_
      refine J_i2l (pc' := 20) C dX7_costNow_19 rfl ?_
      refine J_aload_n (pc' := 21) C 0 dX7_costNow_20 rfl rfl rfl ?_
      refine J_iload_n (pc' := 22) C 2 dX7_costNow_21 rfl rfl rfl ?_
      obtain ⟨_, q22, h⟩ := bd h
      obtain ⟨v22, M22, e22, h⟩ := bd2 h
      refine J_cV (pc' := 25) (st := [.long (v18.toInt64), .long x1]) (st2 := [.int v22, .long (v18.toInt64), .long x1]) (cs2 := 0) (sl2 := 0) C 7 rfl rfl q22 (ok_X7_priceOf N e22) mw_X7_priceOf wq_1218 rfl dX7_costNow_22 rfl rfl (Nat.le_of_ble_eq_true rfl) (by decide) (by decide) rfl rfl rfl (Nat.zero_le _) (Nat.zero_le _) ?_
      refine J_i2l (pc' := 26) C dX7_costNow_25 rfl ?_
      refine J_lmul (pc' := 27) C dX7_costNow_26 rfl ?_
      refine J_ladd (pc' := 28) C dX7_costNow_27 rfl ?_
      refine J_lstore_n (pc' := 29) (lv' := [(1, .long (x1 + ((v18.toInt64) * (v22.toInt64)))), (0, .ref x0), (3, .int x3)]) C dX7_costNow_28 rfl rfl (by decide) rfl ?_
      refine J_iinc (pc' := 32) (lv' := [(3, .int (x3 + 1)), (1, .long (x1 + ((v18.toInt64) * (v22.toInt64)))), (0, .ref x0)]) C 2 dX7_costNow_29 rfl rfl rfl (by decide) rfl ?_
      refine J_goto (tgt := 4) C dX7_costNow_32 (by decide) ?_
      refine J_sub (lv' := [(0, .ref x0), (1, .long (x1 + ((v18.toInt64) * (v22.toInt64)))), (3, .int (x3 + 1))]) [2, 1, 0] rfl ?_
      exact ih _ _ _ _ _ _ h
def f_X7_costNow (N : Nat) (a0 : Nat) (M : A_M) : Option (Int64 × A_M) :=
  f_X7_costNow_L4 N N a0 (0 : Int64) (0 : Int32) M
set_option maxHeartbeats 4000000 in
set_option maxRecDepth 100000 in
theorem ok_X7_costNow (N : Nat) {a0 : Nat} {M : A_M} {r : Int64} {M' : A_M} (h : f_X7_costNow N a0 M = some (r, M')) : Runs yX7_costNow cX7_costNow 4 (some .long) 2 45 0 0 [.ref a0] M (some (.long r)) M' := by
  refine Runs.intro (by decide) (Nat.le_of_ble_eq_true rfl) (fun X C hnm hMC hMS => ?_)
  have C : Cx X cX7_costNow RX7 4 (some .long) 2 45 := C
  show J X 4 0 [(0, .ref a0)] [] M 0 0 (some (.long r)) M'
  unfold f_X7_costNow at h
  refine J_lconst (pc' := 1) (v := (0 : Int64)) C dX7_costNow_0 rfl (by decide) ?_
  refine J_lstore_n (pc' := 2) (lv' := [(1, .long (0 : Int64)), (0, .ref a0)]) C dX7_costNow_1 rfl rfl (by decide) rfl ?_
  refine J_iconst (pc' := 3) (v := (0 : Int32)) C dX7_costNow_2 rfl (by decide) ?_
  refine J_istore_n (pc' := 4) (lv' := [(3, .int (0 : Int32)), (1, .long (0 : Int64)), (0, .ref a0)]) C dX7_costNow_3 rfl rfl (by decide) rfl ?_
  refine J_sub (lv' := [(0, .ref a0), (1, .long (0 : Int64)), (3, .int (0 : Int32))]) [2, 1, 0] rfl ?_
  exact ok_X7_costNow_L4 C N N _ _ _ _ _ _ h
def f_X7_rankBy_K52 (N : Nat) (k2 : Nat → Nat → Int32 → A_M → Option A_M) (x0 : Nat) (x1 : Nat) (x2 : Int32) (x3 : Int32) (M : A_M) : Option A_M :=
  (gR M x0 7 10).bind fun v53 =>
  (stI M v53 x3 x2).bind fun M58 =>
  k2 x0 x1 (x2 + 1) M58
set_option maxHeartbeats 4000000 in
set_option maxRecDepth 100000 in
theorem ok_X7_rankBy_K52 {X : JX} (C : Cx X cX7_rankBy RX7 4 none 0 0) (N : Nat) {k2 : Nat → Nat → Int32 → A_M → Option A_M} (hk2 : ∀ (x0 : Nat) (x1 : Nat) (x2 : Int32) (M : A_M) (M' : A_M), k2 x0 x1 x2 M = some M' → J X 4 2 [(0, .ref x0), (1, .ref x1), (2, .int x2)] [] M 0 0 none M') : ∀ (x0 : Nat) (x1 : Nat) (x2 : Int32) (x3 : Int32) (M : A_M) (M' : A_M), f_X7_rankBy_K52 N k2 x0 x1 x2 x3 M = some M' → J X 4 52 [(0, .ref x0), (1, .ref x1), (2, .int x2), (3, .int x3)] [] M 0 0 none M' := by
  intro x0 x1 x2 x3 M M' h
  unfold f_X7_rankBy_K52 at h
  refine J_aload_n (pc' := 53) C 0 dX7_rankBy_52 rfl rfl rfl ?_
  obtain ⟨v53, e53, h⟩ := bd h
  refine jg_889 (pc' := 56) C dX7_rankBy_53 rfl (gR_some e53) ?_
  refine J_iload_n (pc' := 57) C 3 dX7_rankBy_56 rfl rfl rfl ?_
  refine J_iload_n (pc' := 58) C 2 dX7_rankBy_57 rfl rfl rfl ?_
  obtain ⟨M58, e58, h⟩ := bd h
  refine J_iast (pc' := 59) C dX7_rankBy_58 rfl e58 ?_
  refine J_iinc (pc' := 62) (lv' := [(2, .int (x2 + 1)), (0, .ref x0), (1, .ref x1), (3, .int x3)]) C 2 dX7_rankBy_59 rfl rfl rfl (by decide) rfl ?_
  refine J_goto (tgt := 2) C dX7_rankBy_62 (by decide) ?_
  refine J_sub (lv' := [(0, .ref x0), (1, .ref x1), (2, .int (x2 + 1))]) [1, 2, 0] rfl ?_
  exact hk2 _ _ _ _ _ h
def f_X7_rankBy_L12 (N : Nat) (k2 : Nat → Nat → Int32 → A_M → Option A_M) : Nat → Nat → Nat → Int32 → Int32 → A_M → Option A_M
  | 0, _, _, _, _, _ => none
  | n + 1, x0, x1, x2, x3, M =>
    if x3 ≤ 0 then
    (f_X7_rankBy_K52 N k2 x0 x1 x2 x3 M)
    else
    ((gR M x0 7 10).bind fun v18 =>
    (ldI M v18 (x3 - (1 : Int32))).bind fun v24 =>
    (ldI M x1 v24).bind fun v25 =>
    (ldI M x1 x2).bind fun v28 =>
    if v28 ≤ v25 then
    (f_X7_rankBy_K52 N k2 x0 x1 x2 x3 M)
    else
    ((gR M x0 7 10).bind fun v33 =>
    (gR M x0 7 10).bind fun v38 =>
    (ldI M v38 (x3 - (1 : Int32))).bind fun v44 =>
    (stI M v33 x3 v44).bind fun M45 =>
    f_X7_rankBy_L12 N k2 n x0 x1 x2 (x3 + (-1)) M45))
set_option maxHeartbeats 4000000 in
set_option maxRecDepth 100000 in
theorem ok_X7_rankBy_L12 {X : JX} (C : Cx X cX7_rankBy RX7 4 none 0 0) (N : Nat) {k2 : Nat → Nat → Int32 → A_M → Option A_M} (hk2 : ∀ (x0 : Nat) (x1 : Nat) (x2 : Int32) (M : A_M) (M' : A_M), k2 x0 x1 x2 M = some M' → J X 4 2 [(0, .ref x0), (1, .ref x1), (2, .int x2)] [] M 0 0 none M') : ∀ (n : Nat) (x0 : Nat) (x1 : Nat) (x2 : Int32) (x3 : Int32) (M : A_M) (M' : A_M), f_X7_rankBy_L12 N k2 n x0 x1 x2 x3 M = some M' → J X 4 12 [(0, .ref x0), (1, .ref x1), (2, .int x2), (3, .int x3)] [] M 0 0 none M' := by
  intro n
  induction n with
  | zero =>
    intro x0 x1 x2 x3 M M' h
    cases h
  | succ n ih =>
    intro x0 x1 x2 x3 M M' h
    rw [f_X7_rankBy_L12] at h
    refine J_iload_n (pc' := 13) C 3 dX7_rankBy_12 rfl rfl rfl ?_
    refine J_if_le (tgt := 52) (pc' := 16) C dX7_rankBy_13 (by decide) rfl (fun c13 => ?_) (fun c13 => ?_)
    · rw [if_pos c13] at h
      refine J_sub (lv' := [(0, .ref x0), (1, .ref x1), (2, .int x2), (3, .int x3)]) [0, 1, 2, 3] rfl ?_
      exact ok_X7_rankBy_K52 C N hk2 _ _ _ _ _ _ h
    · rw [if_neg c13] at h
      refine J_aload_n (pc' := 17) C 1 dX7_rankBy_16 rfl rfl rfl ?_
      refine J_aload_n (pc' := 18) C 0 dX7_rankBy_17 rfl rfl rfl ?_
      obtain ⟨v18, e18, h⟩ := bd h
      refine jg_889 (pc' := 21) C dX7_rankBy_18 rfl (gR_some e18) ?_
      refine J_iload_n (pc' := 22) C 3 dX7_rankBy_21 rfl rfl rfl ?_
      refine J_iconst (pc' := 23) (v := (1 : Int32)) C dX7_rankBy_22 rfl (by decide) ?_
      refine J_isub (pc' := 24) C dX7_rankBy_23 rfl ?_
      obtain ⟨v24, e24, h⟩ := bd h
      refine J_iald (pc' := 25) C dX7_rankBy_24 rfl e24 ?_
      obtain ⟨v25, e25, h⟩ := bd h
      refine J_iald (pc' := 26) C dX7_rankBy_25 rfl e25 ?_
      refine J_aload_n (pc' := 27) C 1 dX7_rankBy_26 rfl rfl rfl ?_
      refine J_iload_n (pc' := 28) C 2 dX7_rankBy_27 rfl rfl rfl ?_
      obtain ⟨v28, e28, h⟩ := bd h
      refine J_iald (pc' := 29) C dX7_rankBy_28 rfl e28 ?_
      refine J_icmp_ge (tgt := 52) (pc' := 32) C dX7_rankBy_29 (by decide) rfl (fun c29 => ?_) (fun c29 => ?_)
      · rw [if_pos c29] at h
        refine J_sub (lv' := [(0, .ref x0), (1, .ref x1), (2, .int x2), (3, .int x3)]) [0, 1, 2, 3] rfl ?_
        exact ok_X7_rankBy_K52 C N hk2 _ _ _ _ _ _ h
      · rw [if_neg c29] at h
        refine J_aload_n (pc' := 33) C 0 dX7_rankBy_32 rfl rfl rfl ?_
        obtain ⟨v33, e33, h⟩ := bd h
        refine jg_889 (pc' := 36) C dX7_rankBy_33 rfl (gR_some e33) ?_
        refine J_iload_n (pc' := 37) C 3 dX7_rankBy_36 rfl rfl rfl ?_
        refine J_aload_n (pc' := 38) C 0 dX7_rankBy_37 rfl rfl rfl ?_
        obtain ⟨v38, e38, h⟩ := bd h
        refine jg_889 (pc' := 41) C dX7_rankBy_38 rfl (gR_some e38) ?_
        refine J_iload_n (pc' := 42) C 3 dX7_rankBy_41 rfl rfl rfl ?_
        refine J_iconst (pc' := 43) (v := (1 : Int32)) C dX7_rankBy_42 rfl (by decide) ?_
        refine J_isub (pc' := 44) C dX7_rankBy_43 rfl ?_
        obtain ⟨v44, e44, h⟩ := bd h
        refine J_iald (pc' := 45) C dX7_rankBy_44 rfl e44 ?_
        obtain ⟨M45, e45, h⟩ := bd h
        refine J_iast (pc' := 46) C dX7_rankBy_45 rfl e45 ?_
        refine J_iinc (pc' := 49) (lv' := [(3, .int (x3 + (-1))), (0, .ref x0), (1, .ref x1), (2, .int x2)]) C 3 dX7_rankBy_46 rfl rfl rfl (by decide) rfl ?_
        refine J_goto (tgt := 12) C dX7_rankBy_49 (by decide) ?_
        refine J_sub (lv' := [(0, .ref x0), (1, .ref x1), (2, .int x2), (3, .int (x3 + (-1)))]) [1, 2, 3, 0] rfl ?_
        exact ih _ _ _ _ _ _ h
def f_X7_rankBy_L2 (N : Nat) : Nat → Nat → Nat → Int32 → A_M → Option A_M
  | 0, _, _, _, _ => none
  | n + 1, x0, x1, x2, M =>
    (gI M x0 7 3).bind fun v4 =>
    if v4 ≤ x2 then
    (some M)
    else
    (f_X7_rankBy_L12 N (f_X7_rankBy_L2 N n) N x0 x1 x2 x2 M)
set_option maxHeartbeats 4000000 in
set_option maxRecDepth 100000 in
theorem ok_X7_rankBy_L2 {X : JX} (C : Cx X cX7_rankBy RX7 4 none 0 0) (N : Nat) : ∀ (n : Nat) (x0 : Nat) (x1 : Nat) (x2 : Int32) (M : A_M) (M' : A_M), f_X7_rankBy_L2 N n x0 x1 x2 M = some M' → J X 4 2 [(0, .ref x0), (1, .ref x1), (2, .int x2)] [] M 0 0 none M' := by
  intro n
  induction n with
  | zero =>
    intro x0 x1 x2 M M' h
    cases h
  | succ n ih =>
    intro x0 x1 x2 M M' h
    rw [f_X7_rankBy_L2] at h
    refine J_iload_n (pc' := 3) C 2 dX7_rankBy_2 rfl rfl rfl ?_
    refine J_aload_n (pc' := 4) C 0 dX7_rankBy_3 rfl rfl rfl ?_
    obtain ⟨v4, e4, h⟩ := bd h
    refine jg_882 (pc' := 7) C dX7_rankBy_4 rfl (gI_some e4) ?_
    refine J_icmp_ge (tgt := 65) (pc' := 10) C dX7_rankBy_7 (by decide) rfl (fun c7 => ?_) (fun c7 => ?_)
    · rw [if_pos c7] at h
      obtain rfl := rt1 h
      exact J_vret C dX7_rankBy_65 (Nat.zero_le _) (Nat.zero_le _)
    · rw [if_neg c7] at h
      refine J_iload_n (pc' := 11) C 2 dX7_rankBy_10 rfl rfl rfl ?_
      refine J_istore_n (pc' := 12) (lv' := [(3, .int x2), (0, .ref x0), (1, .ref x1), (2, .int x2)]) C dX7_rankBy_11 rfl rfl (by decide) rfl ?_
      refine J_sub (lv' := [(0, .ref x0), (1, .ref x1), (2, .int x2), (3, .int x2)]) [1, 2, 3, 0] rfl ?_
      exact ok_X7_rankBy_L12 C N ih N _ _ _ _ _ _ h
def f_X7_rankBy (N : Nat) (a0 : Nat) (a1 : Nat) (M : A_M) : Option A_M :=
  f_X7_rankBy_L2 N N a0 a1 (0 : Int32) M
set_option maxHeartbeats 4000000 in
set_option maxRecDepth 100000 in
theorem ok_X7_rankBy (N : Nat) {a0 : Nat} {a1 : Nat} {M : A_M} {M' : A_M} (h : f_X7_rankBy N a0 a1 M = some M') : Runs yX7_rankBy cX7_rankBy 4 none 0 0 0 0 [.ref a0, .ref a1] M none M' := by
  refine Runs.intro (by decide) (Nat.le_of_ble_eq_true rfl) (fun X C hnm hMC hMS => ?_)
  have C : Cx X cX7_rankBy RX7 4 none 0 0 := C
  show J X 4 0 [(0, .ref a0), (1, .ref a1)] [] M 0 0 none M'
  unfold f_X7_rankBy at h
  refine J_iconst (pc' := 1) (v := (0 : Int32)) C dX7_rankBy_0 rfl (by decide) ?_
  refine J_istore_n (pc' := 2) (lv' := [(2, .int (0 : Int32)), (0, .ref a0), (1, .ref a1)]) C dX7_rankBy_1 rfl rfl (by decide) rfl ?_
  refine J_sub (lv' := [(0, .ref a0), (1, .ref a1), (2, .int (0 : Int32))]) [1, 2, 0] rfl ?_
  exact ok_X7_rankBy_L2 C N N _ _ _ _ _ h
def f_X7_at (N : Nat) (a0 : Nat) (a1 : Int32) (a2 : Int32) (a3 : Int32) (a4 : Int32) (a5 : Int32) (M : A_M) : Option (Int32 × A_M) :=
  (gI M a0 7 14).bind fun v1 =>
  if v1 = 0 then
  (some (((((((((a1 * (9 : Int32)) + a2) * (9 : Int32)) + a3) * (9 : Int32)) + a4) * (9 : Int32)) + a5), M))
  else
  (some (((((a1 * (25 : Int32)) + a2) * (25 : Int32)) + a5), M))
set_option maxHeartbeats 4000000 in
set_option maxRecDepth 100000 in
theorem ok_X7_at (N : Nat) {a0 : Nat} {a1 : Int32} {a2 : Int32} {a3 : Int32} {a4 : Int32} {a5 : Int32} {M : A_M} {r : Int32} {M' : A_M} (h : f_X7_at N a0 a1 a2 a3 a4 a5 M = some (r, M')) : Runs yX7_at cX7_at 6 (some .int) 0 0 0 0 [.ref a0, .int a1, .int a2, .int a3, .int a4, .int a5] M (some (.int r)) M' := by
  refine Runs.intro (by decide) (Nat.le_of_ble_eq_true rfl) (fun X C hnm hMC hMS => ?_)
  have C : Cx X cX7_at RX7 6 (some .int) 0 0 := C
  show J X 6 0 [(0, .ref a0), (1, .int a1), (2, .int a2), (3, .int a3), (4, .int a4), (5, .int a5)] [] M 0 0 (some (.int r)) M'
  unfold f_X7_at at h
  refine J_aload_n (pc' := 1) C 0 dX7_at_0 rfl rfl rfl ?_
  obtain ⟨v1, e1, h⟩ := bd h
  refine jg_893 (pc' := 4) C dX7_at_1 rfl (gI_some e1) ?_
  refine J_if_eq (tgt := 22) (pc' := 7) C dX7_at_4 (by decide) rfl (fun c4 => ?_) (fun c4 => ?_)
  · rw [if_pos c4] at h
    refine J_iload_n (pc' := 23) C 1 dX7_at_22 rfl rfl rfl ?_
    refine J_bipush (pc' := 25) (v := (9 : Int32)) C dX7_at_23 rfl (by decide) ?_
    refine J_imul (pc' := 26) C dX7_at_25 rfl ?_
    refine J_iload_n (pc' := 27) C 2 dX7_at_26 rfl rfl rfl ?_
    refine J_iadd (pc' := 28) C dX7_at_27 rfl ?_
    refine J_bipush (pc' := 30) (v := (9 : Int32)) C dX7_at_28 rfl (by decide) ?_
    refine J_imul (pc' := 31) C dX7_at_30 rfl ?_
    refine J_iload_n (pc' := 32) C 3 dX7_at_31 rfl rfl rfl ?_
    refine J_iadd (pc' := 33) C dX7_at_32 rfl ?_
    refine J_bipush (pc' := 35) (v := (9 : Int32)) C dX7_at_33 rfl (by decide) ?_
    refine J_imul (pc' := 36) C dX7_at_35 rfl ?_
    refine J_iload (pc' := 38) C 4 dX7_at_36 rfl rfl ?_
    refine J_iadd (pc' := 39) C dX7_at_38 rfl ?_
    refine J_bipush (pc' := 41) (v := (9 : Int32)) C dX7_at_39 rfl (by decide) ?_
    refine J_imul (pc' := 42) C dX7_at_41 rfl ?_
    refine J_iload (pc' := 44) C 5 dX7_at_42 rfl rfl ?_
    refine J_iadd (pc' := 45) C dX7_at_44 rfl ?_
    obtain ⟨rfl, rfl⟩ := rt2 h
    exact J_iret C dX7_at_45 (Nat.zero_le _) (Nat.zero_le _)
  · rw [if_neg c4] at h
    refine J_iload_n (pc' := 8) C 1 dX7_at_7 rfl rfl rfl ?_
    refine J_bipush (pc' := 10) (v := (25 : Int32)) C dX7_at_8 rfl (by decide) ?_
    refine J_imul (pc' := 11) C dX7_at_10 rfl ?_
    refine J_iload_n (pc' := 12) C 2 dX7_at_11 rfl rfl rfl ?_
    refine J_iadd (pc' := 13) C dX7_at_12 rfl ?_
    refine J_bipush (pc' := 15) (v := (25 : Int32)) C dX7_at_13 rfl (by decide) ?_
    refine J_imul (pc' := 16) C dX7_at_15 rfl ?_
    refine J_iload (pc' := 18) C 5 dX7_at_16 rfl rfl ?_
    refine J_iadd (pc' := 19) C dX7_at_18 rfl ?_
    refine J_goto (tgt := 45) C dX7_at_19 (by decide) ?_
    obtain ⟨rfl, rfl⟩ := rt2 h
    exact J_iret C dX7_at_45 (Nat.zero_le _) (Nat.zero_le _)
def f_X7_least (N : Nat) (a0 : Int32) (a1 : Int32) (M : A_M) : Option (Int32 × A_M) :=
  if a1 ≤ a0 then
  (some (a1, M))
  else
  (some (a0, M))
set_option maxHeartbeats 4000000 in
set_option maxRecDepth 100000 in
theorem ok_X7_least (N : Nat) {a0 : Int32} {a1 : Int32} {M : A_M} {r : Int32} {M' : A_M} (h : f_X7_least N a0 a1 M = some (r, M')) : Runs yX7_least cX7_least 2 (some .int) 0 0 0 0 [.int a0, .int a1] M (some (.int r)) M' := by
  refine Runs.intro (by decide) (Nat.le_of_ble_eq_true rfl) (fun X C hnm hMC hMS => ?_)
  have C : Cx X cX7_least RX7 2 (some .int) 0 0 := C
  show J X 2 0 [(0, .int a0), (1, .int a1)] [] M 0 0 (some (.int r)) M'
  unfold f_X7_least at h
  refine J_iload_n (pc' := 1) C 0 dX7_least_0 rfl rfl rfl ?_
  refine J_iload_n (pc' := 2) C 1 dX7_least_1 rfl rfl rfl ?_
  refine J_icmp_ge (tgt := 9) (pc' := 5) C dX7_least_2 (by decide) rfl (fun c2 => ?_) (fun c2 => ?_)
  · rw [if_pos c2] at h
    refine J_iload_n (pc' := 10) C 1 dX7_least_9 rfl rfl rfl ?_
    obtain ⟨rfl, rfl⟩ := rt2 h
    exact J_iret C dX7_least_10 (Nat.zero_le _) (Nat.zero_le _)
  · rw [if_neg c2] at h
    refine J_iload_n (pc' := 6) C 0 dX7_least_5 rfl rfl rfl ?_
    refine J_goto (tgt := 10) C dX7_least_6 (by decide) ?_
    obtain ⟨rfl, rfl⟩ := rt2 h
    exact J_iret C dX7_least_10 (Nat.zero_le _) (Nat.zero_le _)
def f_X7_arePricesAlike_K36 (N : Nat) (k4 : Nat → Int32 → Int32 → A_M → Option (Int32 × A_M)) (x0 : Nat) (x2 : Int32) (s0 : Int32) (M : A_M) : Option (Int32 × A_M) :=
  k4 x0 s0 (x2 + 1) M
set_option maxHeartbeats 4000000 in
set_option maxRecDepth 100000 in
theorem ok_X7_arePricesAlike_K36 {X : JX} (C : Cx X cX7_arePricesAlike RX7 3 (some .boolean) 0 0) (N : Nat) {k4 : Nat → Int32 → Int32 → A_M → Option (Int32 × A_M)} (hk4 : ∀ (x0 : Nat) (x1 : Int32) (x2 : Int32) (M : A_M) (r : Int32) (M' : A_M), k4 x0 x1 x2 M = some (r, M') → J X 3 4 [(0, .ref x0), (1, .int x1), (2, .int x2)] [] M 0 0 (some (.int r)) M') : ∀ (x0 : Nat) (x2 : Int32) (s0 : Int32) (M : A_M) (r : Int32) (M' : A_M), f_X7_arePricesAlike_K36 N k4 x0 x2 s0 M = some (r, M') → J X 3 36 [(0, .ref x0), (2, .int x2)] [.int s0] M 0 0 (some (.int r)) M' := by
  intro x0 x2 s0 M r M' h
  unfold f_X7_arePricesAlike_K36 at h
  refine J_istore_n (pc' := 37) (lv' := [(1, .int s0), (0, .ref x0), (2, .int x2)]) C dX7_arePricesAlike_36 rfl rfl (by decide) rfl ?_
  refine J_iinc (pc' := 40) (lv' := [(2, .int (x2 + 1)), (1, .int s0), (0, .ref x0)]) C 2 dX7_arePricesAlike_37 rfl rfl rfl (by decide) rfl ?_
  refine J_goto (tgt := 4) C dX7_arePricesAlike_40 (by decide) ?_
  refine J_sub (lv' := [(0, .ref x0), (1, .int s0), (2, .int (x2 + 1))]) [2, 1, 0] rfl ?_
  exact hk4 _ _ _ _ _ _ h
def f_X7_arePricesAlike_K35 (N : Nat) (k4 : Nat → Int32 → Int32 → A_M → Option (Int32 × A_M)) (x0 : Nat) (x2 : Int32) (M : A_M) : Option (Int32 × A_M) :=
  f_X7_arePricesAlike_K36 N k4 x0 x2 (0 : Int32) M
set_option maxHeartbeats 4000000 in
set_option maxRecDepth 100000 in
theorem ok_X7_arePricesAlike_K35 {X : JX} (C : Cx X cX7_arePricesAlike RX7 3 (some .boolean) 0 0) (N : Nat) {k4 : Nat → Int32 → Int32 → A_M → Option (Int32 × A_M)} (hk4 : ∀ (x0 : Nat) (x1 : Int32) (x2 : Int32) (M : A_M) (r : Int32) (M' : A_M), k4 x0 x1 x2 M = some (r, M') → J X 3 4 [(0, .ref x0), (1, .int x1), (2, .int x2)] [] M 0 0 (some (.int r)) M') : ∀ (x0 : Nat) (x2 : Int32) (M : A_M) (r : Int32) (M' : A_M), f_X7_arePricesAlike_K35 N k4 x0 x2 M = some (r, M') → J X 3 35 [(0, .ref x0), (2, .int x2)] [] M 0 0 (some (.int r)) M' := by
  intro x0 x2 M r M' h
  unfold f_X7_arePricesAlike_K35 at h
  refine J_iconst (pc' := 36) (v := (0 : Int32)) C dX7_arePricesAlike_35 rfl (by decide) ?_
  refine J_sub (lv' := [(0, .ref x0), (2, .int x2)]) [0, 1] rfl ?_
  exact ok_X7_arePricesAlike_K36 C N hk4 _ _ _ _ _ _ h
def f_X7_arePricesAlike_L4 (N : Nat) : Nat → Nat → Int32 → Int32 → A_M → Option (Int32 × A_M)
  | 0, _, _, _, _ => none
  | n + 1, x0, x1, x2, M =>
    (gI M x0 7 1).bind fun v6 =>
    if v6 ≤ x2 then
    ((zb x1).bind fun _ =>
    some (x1, M))
    else
    (if x1 = 0 then
    (f_X7_arePricesAlike_K35 N (f_X7_arePricesAlike_L4 N n) x0 x2 M)
    else
    ((gR M x0 7 0).bind fun v17 =>
    (ldI M v17 x2).bind fun v21 =>
    (gR M x0 7 0).bind fun v23 =>
    (ldI M v23 (0 : Int32)).bind fun v27 =>
    if v21 = v27 then
    (f_X7_arePricesAlike_K36 N (f_X7_arePricesAlike_L4 N n) x0 x2 (1 : Int32) M)
    else
    (f_X7_arePricesAlike_K35 N (f_X7_arePricesAlike_L4 N n) x0 x2 M)))
set_option maxHeartbeats 4000000 in
set_option maxRecDepth 100000 in
theorem ok_X7_arePricesAlike_L4 {X : JX} (C : Cx X cX7_arePricesAlike RX7 3 (some .boolean) 0 0) (N : Nat) : ∀ (n : Nat) (x0 : Nat) (x1 : Int32) (x2 : Int32) (M : A_M) (r : Int32) (M' : A_M), f_X7_arePricesAlike_L4 N n x0 x1 x2 M = some (r, M') → J X 3 4 [(0, .ref x0), (1, .int x1), (2, .int x2)] [] M 0 0 (some (.int r)) M' := by
  intro n
  induction n with
  | zero =>
    intro x0 x1 x2 M r M' h
    cases h
  | succ n ih =>
    intro x0 x1 x2 M r M' h
    rw [f_X7_arePricesAlike_L4] at h
    refine J_iload_n (pc' := 5) C 2 dX7_arePricesAlike_4 rfl rfl rfl ?_
    refine J_aload_n (pc' := 6) C 0 dX7_arePricesAlike_5 rfl rfl rfl ?_
    obtain ⟨v6, e6, h⟩ := bd h
    refine jg_880 (pc' := 9) C dX7_arePricesAlike_6 rfl (gI_some e6) ?_
    refine J_icmp_ge (tgt := 43) (pc' := 12) C dX7_arePricesAlike_9 (by decide) rfl (fun c9 => ?_) (fun c9 => ?_)
    · rw [if_pos c9] at h
      refine J_iload_n (pc' := 44) C 1 dX7_arePricesAlike_43 rfl rfl rfl ?_
      obtain ⟨_, z44, h⟩ := bd h
      obtain ⟨rfl, rfl⟩ := rt2 h
      exact J_zret C (zb_n (zb_some z44)) dX7_arePricesAlike_44 (Nat.zero_le _) (Nat.zero_le _)
    · rw [if_neg c9] at h
      refine J_iload_n (pc' := 13) C 1 dX7_arePricesAlike_12 rfl rfl rfl ?_
      refine J_if_eq (tgt := 35) (pc' := 16) C dX7_arePricesAlike_13 (by decide) rfl (fun c13 => ?_) (fun c13 => ?_)
      · rw [if_pos c13] at h
        refine J_sub (lv' := [(0, .ref x0), (2, .int x2)]) [0, 2] rfl ?_
        exact ok_X7_arePricesAlike_K35 C N ih _ _ _ _ _ h
      · rw [if_neg c13] at h
        refine J_aload_n (pc' := 17) C 0 dX7_arePricesAlike_16 rfl rfl rfl ?_
        obtain ⟨v17, e17, h⟩ := bd h
        refine jg_879 (pc' := 20) C dX7_arePricesAlike_17 rfl (gR_some e17) ?_
        refine J_iload_n (pc' := 21) C 2 dX7_arePricesAlike_20 rfl rfl rfl ?_
        obtain ⟨v21, e21, h⟩ := bd h
        refine J_iald (pc' := 22) C dX7_arePricesAlike_21 rfl e21 ?_
        refine J_aload_n (pc' := 23) C 0 dX7_arePricesAlike_22 rfl rfl rfl ?_
        obtain ⟨v23, e23, h⟩ := bd h
        refine jg_879 (pc' := 26) C dX7_arePricesAlike_23 rfl (gR_some e23) ?_
        refine J_iconst (pc' := 27) (v := (0 : Int32)) C dX7_arePricesAlike_26 rfl (by decide) ?_
        obtain ⟨v27, e27, h⟩ := bd h
        refine J_iald (pc' := 28) C dX7_arePricesAlike_27 rfl e27 ?_
        refine J_icmp_ne (tgt := 35) (pc' := 31) C dX7_arePricesAlike_28 (by decide) rfl (fun c28 => ?_) (fun c28 => ?_)
        · rw [if_neg c28] at h
          refine J_sub (lv' := [(0, .ref x0), (2, .int x2)]) [0, 2] rfl ?_
          exact ok_X7_arePricesAlike_K35 C N ih _ _ _ _ _ h
        · rw [if_pos c28] at h
          refine J_iconst (pc' := 32) (v := (1 : Int32)) C dX7_arePricesAlike_31 rfl (by decide) ?_
          refine J_goto (tgt := 36) C dX7_arePricesAlike_32 (by decide) ?_
          refine J_sub (lv' := [(0, .ref x0), (2, .int x2)]) [0, 2] rfl ?_
          exact ok_X7_arePricesAlike_K36 C N ih _ _ _ _ _ _ h
def f_X7_arePricesAlike (N : Nat) (a0 : Nat) (M : A_M) : Option (Int32 × A_M) :=
  f_X7_arePricesAlike_L4 N N a0 (1 : Int32) (1 : Int32) M
set_option maxHeartbeats 4000000 in
set_option maxRecDepth 100000 in
theorem ok_X7_arePricesAlike (N : Nat) {a0 : Nat} {M : A_M} {r : Int32} {M' : A_M} (h : f_X7_arePricesAlike N a0 M = some (r, M')) : Runs yX7_arePricesAlike cX7_arePricesAlike 3 (some .boolean) 0 0 0 0 [.ref a0] M (some (.int r)) M' := by
  refine Runs.intro (by decide) (Nat.le_of_ble_eq_true rfl) (fun X C hnm hMC hMS => ?_)
  have C : Cx X cX7_arePricesAlike RX7 3 (some .boolean) 0 0 := C
  show J X 3 0 [(0, .ref a0)] [] M 0 0 (some (.int r)) M'
  unfold f_X7_arePricesAlike at h
  refine J_iconst (pc' := 1) (v := (1 : Int32)) C dX7_arePricesAlike_0 rfl (by decide) ?_
  refine J_istore_n (pc' := 2) (lv' := [(1, .int (1 : Int32)), (0, .ref a0)]) C dX7_arePricesAlike_1 rfl rfl (by decide) rfl ?_
  refine J_iconst (pc' := 3) (v := (1 : Int32)) C dX7_arePricesAlike_2 rfl (by decide) ?_
  refine J_istore_n (pc' := 4) (lv' := [(2, .int (1 : Int32)), (1, .int (1 : Int32)), (0, .ref a0)]) C dX7_arePricesAlike_3 rfl rfl (by decide) rfl ?_
  refine J_sub (lv' := [(0, .ref a0), (1, .int (1 : Int32)), (2, .int (1 : Int32))]) [2, 1, 0] rfl ?_
  exact ok_X7_arePricesAlike_L4 C N N _ _ _ _ _ _ h
def f_X7_mayBeFree_K53 (N : Nat) (k26 : Nat → Int32 → Int32 → A_M → Option (Int32 × A_M)) (x0 : Nat) (x2 : Int32) (s0 : Int32) (M : A_M) : Option (Int32 × A_M) :=
  k26 x0 s0 (x2 + 1) M
set_option maxHeartbeats 4000000 in
set_option maxRecDepth 100000 in
theorem ok_X7_mayBeFree_K53 {X : JX} (C : Cx X cX7_mayBeFree RX7 3 (some .boolean) 1 22) (N : Nat) {k26 : Nat → Int32 → Int32 → A_M → Option (Int32 × A_M)} (hk26 : ∀ (x0 : Nat) (x1 : Int32) (x2 : Int32) (M : A_M) (r : Int32) (M' : A_M), k26 x0 x1 x2 M = some (r, M') → J X 3 26 [(0, .ref x0), (1, .int x1), (2, .int x2)] [] M 0 0 (some (.int r)) M') : ∀ (x0 : Nat) (x2 : Int32) (s0 : Int32) (M : A_M) (r : Int32) (M' : A_M), f_X7_mayBeFree_K53 N k26 x0 x2 s0 M = some (r, M') → J X 3 53 [(0, .ref x0), (2, .int x2)] [.int s0] M 0 0 (some (.int r)) M' := by
  intro x0 x2 s0 M r M' h
  unfold f_X7_mayBeFree_K53 at h
  refine J_istore_n (pc' := 54) (lv' := [(1, .int s0), (0, .ref x0), (2, .int x2)]) C dX7_mayBeFree_53 rfl rfl (by decide) rfl ?_
  refine J_iinc (pc' := 57) (lv' := [(2, .int (x2 + 1)), (1, .int s0), (0, .ref x0)]) C 2 dX7_mayBeFree_54 rfl rfl rfl (by decide) rfl ?_
  refine J_goto (tgt := 26) C dX7_mayBeFree_57 (by decide) ?_
  refine J_sub (lv' := [(0, .ref x0), (1, .int s0), (2, .int (x2 + 1))]) [2, 1, 0] rfl ?_
  exact hk26 _ _ _ _ _ _ h
def f_X7_mayBeFree_K52 (N : Nat) (k26 : Nat → Int32 → Int32 → A_M → Option (Int32 × A_M)) (x0 : Nat) (x2 : Int32) (M : A_M) : Option (Int32 × A_M) :=
  f_X7_mayBeFree_K53 N k26 x0 x2 (0 : Int32) M
set_option maxHeartbeats 4000000 in
set_option maxRecDepth 100000 in
theorem ok_X7_mayBeFree_K52 {X : JX} (C : Cx X cX7_mayBeFree RX7 3 (some .boolean) 1 22) (N : Nat) {k26 : Nat → Int32 → Int32 → A_M → Option (Int32 × A_M)} (hk26 : ∀ (x0 : Nat) (x1 : Int32) (x2 : Int32) (M : A_M) (r : Int32) (M' : A_M), k26 x0 x1 x2 M = some (r, M') → J X 3 26 [(0, .ref x0), (1, .int x1), (2, .int x2)] [] M 0 0 (some (.int r)) M') : ∀ (x0 : Nat) (x2 : Int32) (M : A_M) (r : Int32) (M' : A_M), f_X7_mayBeFree_K52 N k26 x0 x2 M = some (r, M') → J X 3 52 [(0, .ref x0), (2, .int x2)] [] M 0 0 (some (.int r)) M' := by
  intro x0 x2 M r M' h
  unfold f_X7_mayBeFree_K52 at h
  refine J_iconst (pc' := 53) (v := (0 : Int32)) C dX7_mayBeFree_52 rfl (by decide) ?_
  refine J_sub (lv' := [(0, .ref x0), (2, .int x2)]) [0, 1] rfl ?_
  exact ok_X7_mayBeFree_K53 C N hk26 _ _ _ _ _ _ h
def f_X7_mayBeFree_L26 (N : Nat) : Nat → Nat → Int32 → Int32 → A_M → Option (Int32 × A_M)
  | 0, _, _, _, _ => none
  | n + 1, x0, x1, x2, M =>
    (gI M x0 7 1).bind fun v28 =>
    if v28 ≤ x2 then
    (if x1 = 0 then
    ((chk M x0 7).bind fun _ =>
    bnd2 (f_X7_arePricesAlike N x0 M) fun v65 M65 =>
    if v65 = 0 then
    (some ((0 : Int32), M65))
    else
    (some ((1 : Int32), M65)))
    else
    (some ((1 : Int32), M)))
    else
    (if x1 = 0 then
    (f_X7_mayBeFree_K52 N (f_X7_mayBeFree_L26 N n) x0 x2 M)
    else
    ((gR M x0 7 0).bind fun v39 =>
    (ldI M v39 x2).bind fun v43 =>
    if (3 : Int32) < v43 then
    (f_X7_mayBeFree_K52 N (f_X7_mayBeFree_L26 N n) x0 x2 M)
    else
    (f_X7_mayBeFree_K53 N (f_X7_mayBeFree_L26 N n) x0 x2 (1 : Int32) M)))
set_option maxHeartbeats 4000000 in
set_option maxRecDepth 100000 in
theorem ok_X7_mayBeFree_L26 {X : JX} (C : Cx X cX7_mayBeFree RX7 3 (some .boolean) 1 22) (N : Nat) : ∀ (n : Nat) (x0 : Nat) (x1 : Int32) (x2 : Int32) (M : A_M) (r : Int32) (M' : A_M), f_X7_mayBeFree_L26 N n x0 x1 x2 M = some (r, M') → J X 3 26 [(0, .ref x0), (1, .int x1), (2, .int x2)] [] M 0 0 (some (.int r)) M' := by
  intro n
  induction n with
  | zero =>
    intro x0 x1 x2 M r M' h
    cases h
  | succ n ih =>
    intro x0 x1 x2 M r M' h
    rw [f_X7_mayBeFree_L26] at h
    refine J_iload_n (pc' := 27) C 2 dX7_mayBeFree_26 rfl rfl rfl ?_
    refine J_aload_n (pc' := 28) C 0 dX7_mayBeFree_27 rfl rfl rfl ?_
    obtain ⟨v28, e28, h⟩ := bd h
    refine jg_880 (pc' := 31) C dX7_mayBeFree_28 rfl (gI_some e28) ?_
    refine J_icmp_ge (tgt := 60) (pc' := 34) C dX7_mayBeFree_31 (by decide) rfl (fun c31 => ?_) (fun c31 => ?_)
    · rw [if_pos c31] at h
      refine J_iload_n (pc' := 61) C 1 dX7_mayBeFree_60 rfl rfl rfl ?_
      refine J_if_ne (tgt := 71) (pc' := 64) C dX7_mayBeFree_61 (by decide) rfl (fun c61 => ?_) (fun c61 => ?_)
      · rw [if_neg c61] at h
        refine J_iconst (pc' := 72) (v := (1 : Int32)) C dX7_mayBeFree_71 rfl (by decide) ?_
        refine J_goto (tgt := 76) C dX7_mayBeFree_72 (by decide) ?_
        obtain ⟨rfl, rfl⟩ := rt2 h
        exact J_zret C rfl dX7_mayBeFree_76 (Nat.zero_le _) (Nat.zero_le _)
      · rw [if_pos c61] at h
        refine J_aload_n (pc' := 65) C 0 dX7_mayBeFree_64 rfl rfl rfl ?_
        obtain ⟨_, q65, h⟩ := bd h
        obtain ⟨v65, M65, e65, h⟩ := bd2 h
        refine J_cV (pc' := 68) (st := []) (st2 := [.int v65]) (cs2 := 0) (sl2 := 0) C 7 rfl rfl q65 (ok_X7_arePricesAlike N e65) mw_X7_arePricesAlike wq_1124 rfl dX7_mayBeFree_65 rfl rfl (Nat.le_of_ble_eq_true rfl) (by decide) (by decide) rfl rfl rfl (Nat.zero_le _) (Nat.zero_le _) ?_
        refine J_if_eq (tgt := 75) (pc' := 71) C dX7_mayBeFree_68 (by decide) rfl (fun c68 => ?_) (fun c68 => ?_)
        · rw [if_pos c68] at h
          refine J_iconst (pc' := 76) (v := (0 : Int32)) C dX7_mayBeFree_75 rfl (by decide) ?_
          obtain ⟨rfl, rfl⟩ := rt2 h
          exact J_zret C rfl dX7_mayBeFree_76 (Nat.zero_le _) (Nat.zero_le _)
        · rw [if_neg c68] at h
          refine J_iconst (pc' := 72) (v := (1 : Int32)) C dX7_mayBeFree_71 rfl (by decide) ?_
          refine J_goto (tgt := 76) C dX7_mayBeFree_72 (by decide) ?_
          obtain ⟨rfl, rfl⟩ := rt2 h
          exact J_zret C rfl dX7_mayBeFree_76 (Nat.zero_le _) (Nat.zero_le _)
    · rw [if_neg c31] at h
      refine J_iload_n (pc' := 35) C 1 dX7_mayBeFree_34 rfl rfl rfl ?_
      refine J_if_eq (tgt := 52) (pc' := 38) C dX7_mayBeFree_35 (by decide) rfl (fun c35 => ?_) (fun c35 => ?_)
      · rw [if_pos c35] at h
        refine J_sub (lv' := [(0, .ref x0), (2, .int x2)]) [0, 2] rfl ?_
        exact ok_X7_mayBeFree_K52 C N ih _ _ _ _ _ h
      · rw [if_neg c35] at h
        refine J_aload_n (pc' := 39) C 0 dX7_mayBeFree_38 rfl rfl rfl ?_
        obtain ⟨v39, e39, h⟩ := bd h
        refine jg_879 (pc' := 42) C dX7_mayBeFree_39 rfl (gR_some e39) ?_
        refine J_iload_n (pc' := 43) C 2 dX7_mayBeFree_42 rfl rfl rfl ?_
        obtain ⟨v43, e43, h⟩ := bd h
        refine J_iald (pc' := 44) C dX7_mayBeFree_43 rfl e43 ?_
        refine J_iconst (pc' := 45) (v := (3 : Int32)) C dX7_mayBeFree_44 rfl (by decide) ?_
        refine J_icmp_gt (tgt := 52) (pc' := 48) C dX7_mayBeFree_45 (by decide) rfl (fun c45 => ?_) (fun c45 => ?_)
        · rw [if_pos c45] at h
          refine J_sub (lv' := [(0, .ref x0), (2, .int x2)]) [0, 2] rfl ?_
          exact ok_X7_mayBeFree_K52 C N ih _ _ _ _ _ h
        · rw [if_neg c45] at h
          refine J_iconst (pc' := 49) (v := (1 : Int32)) C dX7_mayBeFree_48 rfl (by decide) ?_
          refine J_goto (tgt := 53) C dX7_mayBeFree_49 (by decide) ?_
          refine J_sub (lv' := [(0, .ref x0), (2, .int x2)]) [0, 2] rfl ?_
          exact ok_X7_mayBeFree_K53 C N ih _ _ _ _ _ _ h
def f_X7_mayBeFree_K23 (N : Nat) (x0 : Nat) (s0 : Int32) (M : A_M) : Option (Int32 × A_M) :=
  f_X7_mayBeFree_L26 N N x0 s0 (0 : Int32) M
set_option maxHeartbeats 4000000 in
set_option maxRecDepth 100000 in
theorem ok_X7_mayBeFree_K23 {X : JX} (C : Cx X cX7_mayBeFree RX7 3 (some .boolean) 1 22) (N : Nat) : ∀ (x0 : Nat) (s0 : Int32) (M : A_M) (r : Int32) (M' : A_M), f_X7_mayBeFree_K23 N x0 s0 M = some (r, M') → J X 3 23 [(0, .ref x0)] [.int s0] M 0 0 (some (.int r)) M' := by
  intro x0 s0 M r M' h
  unfold f_X7_mayBeFree_K23 at h
  refine J_istore_n (pc' := 24) (lv' := [(1, .int s0), (0, .ref x0)]) C dX7_mayBeFree_23 rfl rfl (by decide) rfl ?_
  refine J_iconst (pc' := 25) (v := (0 : Int32)) C dX7_mayBeFree_24 rfl (by decide) ?_
  refine J_istore_n (pc' := 26) (lv' := [(2, .int (0 : Int32)), (1, .int s0), (0, .ref x0)]) C dX7_mayBeFree_25 rfl rfl (by decide) rfl ?_
  refine J_sub (lv' := [(0, .ref x0), (1, .int s0), (2, .int (0 : Int32))]) [2, 1, 0] rfl ?_
  exact ok_X7_mayBeFree_L26 C N N _ _ _ _ _ _ h
def f_X7_mayBeFree (N : Nat) (a0 : Nat) (M : A_M) : Option (Int32 × A_M) :=
  (chk M a0 7).bind fun _ =>
  bnd2 (f_X7_canBegin N a0 M) fun v1 M1 =>
  if v1 = 0 then
  (some ((0 : Int32), M1))
  else
  ((gI M1 a0 7 3).bind fun v10 =>
  if (8 : Int32) < v10 then
  (f_X7_mayBeFree_K23 N a0 (0 : Int32) M1)
  else
  (f_X7_mayBeFree_K23 N a0 (1 : Int32) M1))
set_option maxHeartbeats 4000000 in
set_option maxRecDepth 100000 in
theorem ok_X7_mayBeFree (N : Nat) {a0 : Nat} {M : A_M} {r : Int32} {M' : A_M} (h : f_X7_mayBeFree N a0 M = some (r, M')) : Runs yX7_mayBeFree cX7_mayBeFree 3 (some .boolean) 1 22 0 0 [.ref a0] M (some (.int r)) M' := by
  refine Runs.intro (by decide) (Nat.le_of_ble_eq_true rfl) (fun X C hnm hMC hMS => ?_)
  have C : Cx X cX7_mayBeFree RX7 3 (some .boolean) 1 22 := C
  show J X 3 0 [(0, .ref a0)] [] M 0 0 (some (.int r)) M'
  unfold f_X7_mayBeFree at h
  refine J_aload_n (pc' := 1) C 0 dX7_mayBeFree_0 rfl rfl rfl ?_
  obtain ⟨_, q1, h⟩ := bd h
  obtain ⟨v1, M1, e1, h⟩ := bd2 h
  refine J_cV (pc' := 4) (st := []) (st2 := [.int v1]) (cs2 := 0) (sl2 := 0) C 7 rfl rfl q1 (ok_X7_canBegin N e1) mw_X7_canBegin wq_1120 rfl dX7_mayBeFree_1 rfl rfl (Nat.le_of_ble_eq_true rfl) (by decide) (by decide) rfl rfl rfl (Nat.zero_le _) (Nat.zero_le _) ?_
  refine J_if_ne (tgt := 9) (pc' := 7) C dX7_mayBeFree_4 (by decide) rfl (fun c4 => ?_) (fun c4 => ?_)
  · rw [if_neg c4] at h
    refine J_aload_n (pc' := 10) C 0 dX7_mayBeFree_9 rfl rfl rfl ?_
    obtain ⟨v10, e10, h⟩ := bd h
    refine jg_882 (pc' := 13) C dX7_mayBeFree_10 rfl (gI_some e10) ?_
    refine J_bipush (pc' := 15) (v := (8 : Int32)) C dX7_mayBeFree_13 rfl (by decide) ?_
    refine J_icmp_gt (tgt := 22) (pc' := 18) C dX7_mayBeFree_15 (by decide) rfl (fun c15 => ?_) (fun c15 => ?_)
    · rw [if_pos c15] at h
      refine J_iconst (pc' := 23) (v := (0 : Int32)) C dX7_mayBeFree_22 rfl (by decide) ?_
      refine J_sub (lv' := [(0, .ref a0)]) [0] rfl ?_
      exact ok_X7_mayBeFree_K23 C N _ _ _ _ _ h
    · rw [if_neg c15] at h
      refine J_iconst (pc' := 19) (v := (1 : Int32)) C dX7_mayBeFree_18 rfl (by decide) ?_
      refine J_goto (tgt := 23) C dX7_mayBeFree_19 (by decide) ?_
      refine J_sub (lv' := [(0, .ref a0)]) [0] rfl ?_
      exact ok_X7_mayBeFree_K23 C N _ _ _ _ _ h
  · rw [if_pos c4] at h
    refine J_iconst (pc' := 8) (v := (0 : Int32)) C dX7_mayBeFree_7 rfl (by decide) ?_
    obtain ⟨rfl, rfl⟩ := rt2 h
    exact J_zret C rfl dX7_mayBeFree_8 (Nat.zero_le _) (Nat.zero_le _)
def f_X7_behind (N : Nat) (a0 : Nat) (a1 : Int32) (a2 : Int32) (a3 : Int32) (a4 : Int32) (a5 : Int32) (a6 : Int32) (a7 : Int32) (M : A_M) : Option (Int32 × A_M) :=
  (gI M a0 7 3).bind fun v1 =>
  (gR M a0 7 17).bind fun v16 =>
  (ldI M v16 (1 : Int32)).bind fun v20 =>
  bnd2 (f_X7_least N (a3 + (a7 * v20)) ((v1 - a5) - a6) M) fun v25 M25 =>
  (gR M25 a0 7 17).bind fun v35 =>
  (ldI M25 v35 (2 : Int32)).bind fun v39 =>
  bnd2 (f_X7_least N (a4 + (a7 * v39)) ((v1 - a5) - a6) M25) fun v44 M44 =>
  (gR M44 a0 7 17).bind fun v52 =>
  (ldI M44 v52 (3 : Int32)).bind fun v56 =>
  bnd2 (f_X7_least N (a7 * v56) ((v1 - a5) - a6) M44) fun v60 M60 =>
  if ((v25 + v44) + v60) = 0 then
  (some ((-1 : Int32), M60))
  else
  ((chk M60 a0 7).bind fun _ =>
  bnd2 (f_X7_at N a0 (a1 + (1 : Int32)) v25 v44 v60 (a5 + a6) M60) fun v95 M95 =>
  some (v95, M95))
set_option maxHeartbeats 4000000 in
set_option maxRecDepth 100000 in
theorem ok_X7_behind (N : Nat) {a0 : Nat} {a1 : Int32} {a2 : Int32} {a3 : Int32} {a4 : Int32} {a5 : Int32} {a6 : Int32} {a7 : Int32} {M : A_M} {r : Int32} {M' : A_M} (h : f_X7_behind N a0 a1 a2 a3 a4 a5 a6 a7 M = some (r, M')) : Runs yX7_behind cX7_behind 12 (some .int) 1 25 0 0 [.ref a0, .int a1, .int a2, .int a3, .int a4, .int a5, .int a6, .int a7] M (some (.int r)) M' := by
  refine Runs.intro (by decide) (Nat.le_of_ble_eq_true rfl) (fun X C hnm hMC hMS => ?_)
  have C : Cx X cX7_behind RX7 12 (some .int) 1 25 := C
  show J X 12 0 [(0, .ref a0), (1, .int a1), (2, .int a2), (3, .int a3), (4, .int a4), (5, .int a5), (6, .int a6), (7, .int a7)] [] M 0 0 (some (.int r)) M'
  unfold f_X7_behind at h
  refine J_aload_n (pc' := 1) C 0 dX7_behind_0 rfl rfl rfl ?_
  obtain ⟨v1, e1, h⟩ := bd h
  refine jg_882 (pc' := 4) C dX7_behind_1 rfl (gI_some e1) ?_
  refine J_iload (pc' := 6) C 5 dX7_behind_4 rfl rfl ?_
  refine J_isub (pc' := 7) C dX7_behind_6 rfl ?_
  refine J_iload (pc' := 9) C 6 dX7_behind_7 rfl rfl ?_
  refine J_isub (pc' := 10) C dX7_behind_9 rfl ?_
  refine J_istore (pc' := 12) (lv' := [(8, .int ((v1 - a5) - a6)), (0, .ref a0), (1, .int a1), (2, .int a2), (3, .int a3), (4, .int a4), (5, .int a5), (6, .int a6), (7, .int a7)]) C dX7_behind_10 rfl (by decide) rfl ?_
  refine J_iload_n (pc' := 13) C 4 dX7_behind_12 rfl rfl rfl ?_
  refine J_iload (pc' := 15) C 8 dX7_behind_13 rfl rfl ?_
  refine J_aload_n (pc' := 16) C 1 dX7_behind_15 rfl rfl rfl ?_
  obtain ⟨v16, e16, h⟩ := bd h
  refine jg_896 (pc' := 19) C dX7_behind_16 rfl (gR_some e16) ?_
  refine J_iconst (pc' := 20) (v := (1 : Int32)) C dX7_behind_19 rfl (by decide) ?_
  obtain ⟨v20, e20, h⟩ := bd h
  refine J_iald (pc' := 21) C dX7_behind_20 rfl e20 ?_
  refine J_imul (pc' := 22) C dX7_behind_21 rfl ?_
  refine J_iadd (pc' := 23) C dX7_behind_22 rfl ?_
  refine J_iload (pc' := 25) C 0 dX7_behind_23 rfl rfl ?_
  obtain ⟨v25, M25, e25, h⟩ := bd2 h
  refine J_cS (pc' := 28) (st := []) (st2 := [.int v25]) (cs2 := 0) (sl2 := 0) C (ok_X7_least N e25) mw_X7_least wq_1148 rfl dX7_behind_25 rfl rfl (Nat.le_of_ble_eq_true rfl) (by decide) (by decide) rfl rfl rfl (Nat.zero_le _) (Nat.zero_le _) ?_
  refine J_istore (pc' := 30) (lv' := [(9, .int v25), (8, .int ((v1 - a5) - a6)), (0, .ref a0), (1, .int a1), (2, .int a2), (3, .int a3), (4, .int a4), (5, .int a5), (6, .int a6), (7, .int a7)]) C dX7_behind_28 rfl (by decide) rfl ?_
  refine J_iload (pc' := 32) C 6 dX7_behind_30 rfl rfl ?_
  refine J_iload (pc' := 34) C 9 dX7_behind_32 rfl rfl ?_
  refine J_aload_n (pc' := 35) C 2 dX7_behind_34 rfl rfl rfl ?_
  obtain ⟨v35, e35, h⟩ := bd h
  refine jg_896 (pc' := 38) C dX7_behind_35 rfl (gR_some e35) ?_
  refine J_iconst (pc' := 39) (v := (2 : Int32)) C dX7_behind_38 rfl (by decide) ?_
  obtain ⟨v39, e39, h⟩ := bd h
  refine J_iald (pc' := 40) C dX7_behind_39 rfl e39 ?_
  refine J_imul (pc' := 41) C dX7_behind_40 rfl ?_
  refine J_iadd (pc' := 42) C dX7_behind_41 rfl ?_
  refine J_iload (pc' := 44) C 1 dX7_behind_42 rfl rfl ?_
  obtain ⟨v44, M44, e44, h⟩ := bd2 h
  refine J_cS (pc' := 47) (st := []) (st2 := [.int v44]) (cs2 := 0) (sl2 := 0) C (ok_X7_least N e44) mw_X7_least wq_1148 rfl dX7_behind_44 rfl rfl (Nat.le_of_ble_eq_true rfl) (by decide) (by decide) rfl rfl rfl (Nat.zero_le _) (Nat.zero_le _) ?_
  refine J_istore (pc' := 49) (lv' := [(10, .int v44), (9, .int v25), (8, .int ((v1 - a5) - a6)), (0, .ref a0), (1, .int a1), (2, .int a2), (3, .int a3), (4, .int a4), (5, .int a5), (6, .int a6), (7, .int a7)]) C dX7_behind_47 rfl (by decide) rfl ?_
  refine J_iload (pc' := 51) C 10 dX7_behind_49 rfl rfl ?_
  refine J_aload_n (pc' := 52) C 3 dX7_behind_51 rfl rfl rfl ?_
  obtain ⟨v52, e52, h⟩ := bd h
  refine jg_896 (pc' := 55) C dX7_behind_52 rfl (gR_some e52) ?_
  refine J_iconst (pc' := 56) (v := (3 : Int32)) C dX7_behind_55 rfl (by decide) ?_
  obtain ⟨v56, e56, h⟩ := bd h
  refine J_iald (pc' := 57) C dX7_behind_56 rfl e56 ?_
  refine J_imul (pc' := 58) C dX7_behind_57 rfl ?_
  refine J_iload (pc' := 60) C 2 dX7_behind_58 rfl rfl ?_
  obtain ⟨v60, M60, e60, h⟩ := bd2 h
  refine J_cS (pc' := 63) (st := []) (st2 := [.int v60]) (cs2 := 0) (sl2 := 0) C (ok_X7_least N e60) mw_X7_least wq_1148 rfl dX7_behind_60 rfl rfl (Nat.le_of_ble_eq_true rfl) (by decide) (by decide) rfl rfl rfl (Nat.zero_le _) (Nat.zero_le _) ?_
  refine J_istore (pc' := 65) (lv' := [(11, .int v60), (10, .int v44), (9, .int v25), (8, .int ((v1 - a5) - a6)), (0, .ref a0), (1, .int a1), (2, .int a2), (3, .int a3), (4, .int a4), (5, .int a5), (6, .int a6), (7, .int a7)]) C dX7_behind_63 rfl (by decide) rfl ?_
  refine J_iload (pc' := 67) C 2 dX7_behind_65 rfl rfl ?_
  refine J_iload (pc' := 69) C 1 dX7_behind_67 rfl rfl ?_
  refine J_iadd (pc' := 70) C dX7_behind_69 rfl ?_
  refine J_iload (pc' := 72) C 0 dX7_behind_70 rfl rfl ?_
  refine J_iadd (pc' := 73) C dX7_behind_72 rfl ?_
  refine J_if_ne (tgt := 80) (pc' := 76) C dX7_behind_73 (by decide) rfl (fun c73 => ?_) (fun c73 => ?_)
  · rw [if_neg c73] at h
    refine J_aload_n (pc' := 81) C 4 dX7_behind_80 rfl rfl rfl ?_
    refine J_iload_n (pc' := 82) C 5 dX7_behind_81 rfl rfl rfl ?_
    refine J_iconst (pc' := 83) (v := (1 : Int32)) C dX7_behind_82 rfl (by decide) ?_
    refine J_iadd (pc' := 84) C dX7_behind_83 rfl ?_
    refine J_iload (pc' := 86) C 2 dX7_behind_84 rfl rfl ?_
    refine J_iload (pc' := 88) C 1 dX7_behind_86 rfl rfl ?_
    refine J_iload (pc' := 90) C 0 dX7_behind_88 rfl rfl ?_
    refine J_iload (pc' := 92) C 9 dX7_behind_90 rfl rfl ?_
    refine J_iload (pc' := 94) C 10 dX7_behind_92 rfl rfl ?_
    refine J_iadd (pc' := 95) C dX7_behind_94 rfl ?_
    obtain ⟨_, q95, h⟩ := bd h
    obtain ⟨v95, M95, e95, h⟩ := bd2 h
    refine J_cV (pc' := 98) (st := []) (st2 := [.int v95]) (cs2 := 0) (sl2 := 0) C 7 rfl rfl q95 (ok_X7_at N e95) mw_X7_at wq_1136 rfl dX7_behind_95 rfl rfl (Nat.le_of_ble_eq_true rfl) (by decide) (by decide) rfl rfl rfl (Nat.zero_le _) (Nat.zero_le _) ?_
    obtain ⟨rfl, rfl⟩ := rt2 h
    exact J_iret C dX7_behind_98 (Nat.zero_le _) (Nat.zero_le _)
  · rw [if_pos c73] at h
    refine J_iconst (pc' := 77) (v := (-1 : Int32)) C dX7_behind_76 rfl (by decide) ?_
    refine J_goto (tgt := 98) C dX7_behind_77 (by decide) ?_
    obtain ⟨rfl, rfl⟩ := rt2 h
    exact J_iret C dX7_behind_98 (Nat.zero_le _) (Nat.zero_le _)
def f_X7_reachFrom_K116 (N : Nat) (k28 : Nat → Int32 → Int32 → Int32 → Int32 → Int32 → Int32 → Int32 → Int32 → A_M → Option A_M) (k64 : Nat → Int32 → Int32 → Int32 → Int32 → Int32 → Int32 → Int32 → Int32 → Int32 → Int32 → A_M → Option A_M) (x0 : Nat) (x1 : Int32) (x2 : Int32) (x3 : Int32) (x4 : Int32) (x5 : Int32) (x6 : Int32) (x7 : Int32) (x8 : Int32) (x9 : Int32) (x10 : Int32) (M : A_M) : Option A_M :=
  k64 x0 x1 x2 x3 x4 x5 x6 x7 x8 x9 (x10 + 1) M
set_option maxHeartbeats 4000000 in
set_option maxRecDepth 100000 in
theorem ok_X7_reachFrom_K116 {X : JX} (C : Cx X cX7_reachFrom RX7 12 none 2 56) (N : Nat) {k28 : Nat → Int32 → Int32 → Int32 → Int32 → Int32 → Int32 → Int32 → Int32 → A_M → Option A_M} (hk28 : ∀ (x0 : Nat) (x1 : Int32) (x2 : Int32) (x3 : Int32) (x4 : Int32) (x5 : Int32) (x6 : Int32) (x7 : Int32) (x8 : Int32) (M : A_M) (M' : A_M), k28 x0 x1 x2 x3 x4 x5 x6 x7 x8 M = some M' → J X 12 28 [(0, .ref x0), (1, .int x1), (2, .int x2), (3, .int x3), (4, .int x4), (5, .int x5), (6, .int x6), (7, .int x7), (8, .int x8)] [] M 0 0 none M') {k64 : Nat → Int32 → Int32 → Int32 → Int32 → Int32 → Int32 → Int32 → Int32 → Int32 → Int32 → A_M → Option A_M} (hk64 : ∀ (x0 : Nat) (x1 : Int32) (x2 : Int32) (x3 : Int32) (x4 : Int32) (x5 : Int32) (x6 : Int32) (x7 : Int32) (x8 : Int32) (x9 : Int32) (x10 : Int32) (M : A_M) (M' : A_M), k64 x0 x1 x2 x3 x4 x5 x6 x7 x8 x9 x10 M = some M' → J X 12 64 [(0, .ref x0), (1, .int x1), (2, .int x2), (3, .int x3), (4, .int x4), (5, .int x5), (6, .int x6), (7, .int x7), (8, .int x8), (9, .int x9), (10, .int x10)] [] M 0 0 none M') : ∀ (x0 : Nat) (x1 : Int32) (x2 : Int32) (x3 : Int32) (x4 : Int32) (x5 : Int32) (x6 : Int32) (x7 : Int32) (x8 : Int32) (x9 : Int32) (x10 : Int32) (M : A_M) (M' : A_M), f_X7_reachFrom_K116 N k28 k64 x0 x1 x2 x3 x4 x5 x6 x7 x8 x9 x10 M = some M' → J X 12 116 [(0, .ref x0), (1, .int x1), (2, .int x2), (3, .int x3), (4, .int x4), (5, .int x5), (6, .int x6), (7, .int x7), (8, .int x8), (9, .int x9), (10, .int x10)] [] M 0 0 none M' := by
  intro x0 x1 x2 x3 x4 x5 x6 x7 x8 x9 x10 M M' h
  unfold f_X7_reachFrom_K116 at h
  refine J_iinc (pc' := 119) (lv' := [(10, .int (x10 + 1)), (0, .ref x0), (1, .int x1), (2, .int x2), (3, .int x3), (4, .int x4), (5, .int x5), (6, .int x6), (7, .int x7), (8, .int x8), (9, .int x9)]) C 10 dX7_reachFrom_116 rfl rfl rfl (by decide) rfl ?_
  refine J_goto (tgt := 64) C dX7_reachFrom_119 (by decide) ?_
  refine J_sub (lv' := [(0, .ref x0), (1, .int x1), (2, .int x2), (3, .int x3), (4, .int x4), (5, .int x5), (6, .int x6), (7, .int x7), (8, .int x8), (9, .int x9), (10, .int (x10 + 1))]) [1, 2, 3, 4, 5, 6, 7, 8, 9, 10, 0] rfl ?_
  exact hk64 _ _ _ _ _ _ _ _ _ _ _ _ _ h
def f_X7_reachFrom_K122 (N : Nat) (k28 : Nat → Int32 → Int32 → Int32 → Int32 → Int32 → Int32 → Int32 → Int32 → A_M → Option A_M) (x0 : Nat) (x1 : Int32) (x2 : Int32) (x3 : Int32) (x4 : Int32) (x5 : Int32) (x6 : Int32) (x7 : Int32) (x8 : Int32) (M : A_M) : Option A_M :=
  k28 x0 x1 x2 x3 x4 x5 x6 x7 (x8 + 1) M
set_option maxHeartbeats 4000000 in
set_option maxRecDepth 100000 in
theorem ok_X7_reachFrom_K122 {X : JX} (C : Cx X cX7_reachFrom RX7 12 none 2 56) (N : Nat) {k28 : Nat → Int32 → Int32 → Int32 → Int32 → Int32 → Int32 → Int32 → Int32 → A_M → Option A_M} (hk28 : ∀ (x0 : Nat) (x1 : Int32) (x2 : Int32) (x3 : Int32) (x4 : Int32) (x5 : Int32) (x6 : Int32) (x7 : Int32) (x8 : Int32) (M : A_M) (M' : A_M), k28 x0 x1 x2 x3 x4 x5 x6 x7 x8 M = some M' → J X 12 28 [(0, .ref x0), (1, .int x1), (2, .int x2), (3, .int x3), (4, .int x4), (5, .int x5), (6, .int x6), (7, .int x7), (8, .int x8)] [] M 0 0 none M') : ∀ (x0 : Nat) (x1 : Int32) (x2 : Int32) (x3 : Int32) (x4 : Int32) (x5 : Int32) (x6 : Int32) (x7 : Int32) (x8 : Int32) (M : A_M) (M' : A_M), f_X7_reachFrom_K122 N k28 x0 x1 x2 x3 x4 x5 x6 x7 x8 M = some M' → J X 12 122 [(0, .ref x0), (1, .int x1), (2, .int x2), (3, .int x3), (4, .int x4), (5, .int x5), (6, .int x6), (7, .int x7), (8, .int x8)] [] M 0 0 none M' := by
  intro x0 x1 x2 x3 x4 x5 x6 x7 x8 M M' h
  unfold f_X7_reachFrom_K122 at h
  refine J_iinc (pc' := 125) (lv' := [(8, .int (x8 + 1)), (0, .ref x0), (1, .int x1), (2, .int x2), (3, .int x3), (4, .int x4), (5, .int x5), (6, .int x6), (7, .int x7)]) C 8 dX7_reachFrom_122 rfl rfl rfl (by decide) rfl ?_
  refine J_goto (tgt := 28) C dX7_reachFrom_125 (by decide) ?_
  refine J_sub (lv' := [(0, .ref x0), (1, .int x1), (2, .int x2), (3, .int x3), (4, .int x4), (5, .int x5), (6, .int x6), (7, .int x7), (8, .int (x8 + 1))]) [1, 2, 3, 4, 5, 6, 7, 8, 0] rfl ?_
  exact hk28 _ _ _ _ _ _ _ _ _ _ _ h
def f_X7_reachFrom_L64 (N : Nat) (k28 : Nat → Int32 → Int32 → Int32 → Int32 → Int32 → Int32 → Int32 → Int32 → A_M → Option A_M) : Nat → Nat → Int32 → Int32 → Int32 → Int32 → Int32 → Int32 → Int32 → Int32 → Int32 → Int32 → A_M → Option A_M
  | 0, _, _, _, _, _, _, _, _, _, _, _, _ => none
  | n + 1, x0, x1, x2, x3, x4, x5, x6, x7, x8, x9, x10, M =>
    if x9 < x10 then
    (f_X7_reachFrom_K122 N k28 x0 x1 x2 x3 x4 x5 x6 x7 x8 M)
    else
    (if x6 ≤ x8 then
    (f_X7_reachFrom_K122 N k28 x0 x1 x2 x3 x4 x5 x6 x7 x8 M)
    else
    ((gI M x0 7 16).bind fun v80 =>
    if v80 ≤ x1 then
    (f_X7_reachFrom_K122 N k28 x0 x1 x2 x3 x4 x5 x6 x7 x8 M)
    else
    ((chk M x0 7).bind fun _ =>
    bnd2 (f_X7_behind N x0 x1 x2 x3 x4 x5 x8 x10 M) fun v98 M98 =>
    if v98 < 0 then
    (f_X7_reachFrom_K116 N k28 (f_X7_reachFrom_L64 N k28 n) x0 x1 x2 x3 x4 x5 x6 x7 x8 x9 x10 M98)
    else
    ((gR M98 x0 7 12).bind fun v109 =>
    (stZ M98 v109 v98 (1 : Int32)).bind fun M115 =>
    f_X7_reachFrom_K116 N k28 (f_X7_reachFrom_L64 N k28 n) x0 x1 x2 x3 x4 x5 x6 x7 x8 x9 x10 M115))))
set_option maxHeartbeats 4000000 in
set_option maxRecDepth 100000 in
theorem ok_X7_reachFrom_L64 {X : JX} (C : Cx X cX7_reachFrom RX7 12 none 2 56) (N : Nat) {k28 : Nat → Int32 → Int32 → Int32 → Int32 → Int32 → Int32 → Int32 → Int32 → A_M → Option A_M} (hk28 : ∀ (x0 : Nat) (x1 : Int32) (x2 : Int32) (x3 : Int32) (x4 : Int32) (x5 : Int32) (x6 : Int32) (x7 : Int32) (x8 : Int32) (M : A_M) (M' : A_M), k28 x0 x1 x2 x3 x4 x5 x6 x7 x8 M = some M' → J X 12 28 [(0, .ref x0), (1, .int x1), (2, .int x2), (3, .int x3), (4, .int x4), (5, .int x5), (6, .int x6), (7, .int x7), (8, .int x8)] [] M 0 0 none M') : ∀ (n : Nat) (x0 : Nat) (x1 : Int32) (x2 : Int32) (x3 : Int32) (x4 : Int32) (x5 : Int32) (x6 : Int32) (x7 : Int32) (x8 : Int32) (x9 : Int32) (x10 : Int32) (M : A_M) (M' : A_M), f_X7_reachFrom_L64 N k28 n x0 x1 x2 x3 x4 x5 x6 x7 x8 x9 x10 M = some M' → J X 12 64 [(0, .ref x0), (1, .int x1), (2, .int x2), (3, .int x3), (4, .int x4), (5, .int x5), (6, .int x6), (7, .int x7), (8, .int x8), (9, .int x9), (10, .int x10)] [] M 0 0 none M' := by
  intro n
  induction n with
  | zero =>
    intro x0 x1 x2 x3 x4 x5 x6 x7 x8 x9 x10 M M' h
    cases h
  | succ n ih =>
    intro x0 x1 x2 x3 x4 x5 x6 x7 x8 x9 x10 M M' h
    rw [f_X7_reachFrom_L64] at h
    refine J_iload (pc' := 66) C 10 dX7_reachFrom_64 rfl rfl ?_
    refine J_iload (pc' := 68) C 9 dX7_reachFrom_66 rfl rfl ?_
    refine J_icmp_gt (tgt := 122) (pc' := 71) C dX7_reachFrom_68 (by decide) rfl (fun c68 => ?_) (fun c68 => ?_)
    · rw [if_pos c68] at h
      refine J_sub (lv' := [(0, .ref x0), (1, .int x1), (2, .int x2), (3, .int x3), (4, .int x4), (5, .int x5), (6, .int x6), (7, .int x7), (8, .int x8)]) [0, 1, 2, 3, 4, 5, 6, 7, 8] rfl ?_
      exact ok_X7_reachFrom_K122 C N hk28 _ _ _ _ _ _ _ _ _ _ _ h
    · rw [if_neg c68] at h
      refine J_iload (pc' := 73) C 8 dX7_reachFrom_71 rfl rfl ?_
      refine J_iload (pc' := 75) C 6 dX7_reachFrom_73 rfl rfl ?_
      refine J_icmp_ge (tgt := 122) (pc' := 78) C dX7_reachFrom_75 (by decide) rfl (fun c75 => ?_) (fun c75 => ?_)
      · rw [if_pos c75] at h
        refine J_sub (lv' := [(0, .ref x0), (1, .int x1), (2, .int x2), (3, .int x3), (4, .int x4), (5, .int x5), (6, .int x6), (7, .int x7), (8, .int x8)]) [0, 1, 2, 3, 4, 5, 6, 7, 8] rfl ?_
        exact ok_X7_reachFrom_K122 C N hk28 _ _ _ _ _ _ _ _ _ _ _ h
      · rw [if_neg c75] at h
        refine J_iload_n (pc' := 79) C 1 dX7_reachFrom_78 rfl rfl rfl ?_
        refine J_aload_n (pc' := 80) C 0 dX7_reachFrom_79 rfl rfl rfl ?_
        obtain ⟨v80, e80, h⟩ := bd h
        refine jg_895 (pc' := 83) C dX7_reachFrom_80 rfl (gI_some e80) ?_
        refine J_icmp_ge (tgt := 122) (pc' := 86) C dX7_reachFrom_83 (by decide) rfl (fun c83 => ?_) (fun c83 => ?_)
        · rw [if_pos c83] at h
          refine J_sub (lv' := [(0, .ref x0), (1, .int x1), (2, .int x2), (3, .int x3), (4, .int x4), (5, .int x5), (6, .int x6), (7, .int x7), (8, .int x8)]) [0, 1, 2, 3, 4, 5, 6, 7, 8] rfl ?_
          exact ok_X7_reachFrom_K122 C N hk28 _ _ _ _ _ _ _ _ _ _ _ h
        · rw [if_neg c83] at h
          refine J_aload_n (pc' := 87) C 0 dX7_reachFrom_86 rfl rfl rfl ?_
          refine J_iload_n (pc' := 88) C 1 dX7_reachFrom_87 rfl rfl rfl ?_
          refine J_iload_n (pc' := 89) C 2 dX7_reachFrom_88 rfl rfl rfl ?_
          refine J_iload_n (pc' := 90) C 3 dX7_reachFrom_89 rfl rfl rfl ?_
          refine J_iload (pc' := 92) C 4 dX7_reachFrom_90 rfl rfl ?_
          refine J_iload (pc' := 94) C 5 dX7_reachFrom_92 rfl rfl ?_
          refine J_iload (pc' := 96) C 8 dX7_reachFrom_94 rfl rfl ?_
          refine J_iload (pc' := 98) C 10 dX7_reachFrom_96 rfl rfl ?_
          obtain ⟨_, q98, h⟩ := bd h
          obtain ⟨v98, M98, e98, h⟩ := bd2 h
          refine J_cV (pc' := 101) (st := []) (st2 := [.int v98]) (cs2 := 0) (sl2 := 0) C 7 rfl rfl q98 (ok_X7_behind N e98) mw_X7_behind wq_1151 rfl dX7_reachFrom_98 rfl rfl (Nat.le_of_ble_eq_true rfl) (by decide) (by decide) rfl rfl rfl (Nat.zero_le _) (Nat.zero_le _) ?_
          refine J_istore (pc' := 103) (lv' := [(11, .int v98), (0, .ref x0), (1, .int x1), (2, .int x2), (3, .int x3), (4, .int x4), (5, .int x5), (6, .int x6), (7, .int x7), (8, .int x8), (9, .int x9), (10, .int x10)]) C dX7_reachFrom_101 rfl (by decide) rfl ?_
          refine J_iload (pc' := 105) C 0 dX7_reachFrom_103 rfl rfl ?_
          refine J_if_lt (tgt := 116) (pc' := 108) C dX7_reachFrom_105 (by decide) rfl (fun c105 => ?_) (fun c105 => ?_)
          · rw [if_pos c105] at h
            refine J_sub (lv' := [(0, .ref x0), (1, .int x1), (2, .int x2), (3, .int x3), (4, .int x4), (5, .int x5), (6, .int x6), (7, .int x7), (8, .int x8), (9, .int x9), (10, .int x10)]) [1, 2, 3, 4, 5, 6, 7, 8, 9, 10, 11] rfl ?_
            exact ok_X7_reachFrom_K116 C N hk28 ih _ _ _ _ _ _ _ _ _ _ _ _ _ h
          · rw [if_neg c105] at h
            refine J_aload_n (pc' := 109) C 1 dX7_reachFrom_108 rfl rfl rfl ?_
            obtain ⟨v109, e109, h⟩ := bd h
            refine jg_891 (pc' := 112) C dX7_reachFrom_109 rfl (gR_some e109) ?_
            refine J_iload (pc' := 114) C 0 dX7_reachFrom_112 rfl rfl ?_
            refine J_iconst (pc' := 115) (v := (1 : Int32)) C dX7_reachFrom_114 rfl (by decide) ?_
            obtain ⟨M115, e115, h⟩ := bd h
            refine J_zast (pc' := 116) C dX7_reachFrom_115 rfl e115 ?_
            refine J_sub (lv' := [(0, .ref x0), (1, .int x1), (2, .int x2), (3, .int x3), (4, .int x4), (5, .int x5), (6, .int x6), (7, .int x7), (8, .int x8), (9, .int x9), (10, .int x10)]) [1, 2, 3, 4, 5, 6, 7, 8, 9, 10, 11] rfl ?_
            exact ok_X7_reachFrom_K116 C N hk28 ih _ _ _ _ _ _ _ _ _ _ _ _ _ h
def f_X7_reachFrom_K59 (N : Nat) (k28 : Nat → Int32 → Int32 → Int32 → Int32 → Int32 → Int32 → Int32 → Int32 → A_M → Option A_M) (x0 : Nat) (x1 : Int32) (x2 : Int32) (x3 : Int32) (x4 : Int32) (x5 : Int32) (x6 : Int32) (x7 : Int32) (x8 : Int32) (s0 : Int32) (M : A_M) : Option A_M :=
  f_X7_reachFrom_L64 N k28 N x0 x1 x2 x3 x4 x5 x6 x7 x8 s0 (0 : Int32) M
set_option maxHeartbeats 4000000 in
set_option maxRecDepth 100000 in
theorem ok_X7_reachFrom_K59 {X : JX} (C : Cx X cX7_reachFrom RX7 12 none 2 56) (N : Nat) {k28 : Nat → Int32 → Int32 → Int32 → Int32 → Int32 → Int32 → Int32 → Int32 → A_M → Option A_M} (hk28 : ∀ (x0 : Nat) (x1 : Int32) (x2 : Int32) (x3 : Int32) (x4 : Int32) (x5 : Int32) (x6 : Int32) (x7 : Int32) (x8 : Int32) (M : A_M) (M' : A_M), k28 x0 x1 x2 x3 x4 x5 x6 x7 x8 M = some M' → J X 12 28 [(0, .ref x0), (1, .int x1), (2, .int x2), (3, .int x3), (4, .int x4), (5, .int x5), (6, .int x6), (7, .int x7), (8, .int x8)] [] M 0 0 none M') : ∀ (x0 : Nat) (x1 : Int32) (x2 : Int32) (x3 : Int32) (x4 : Int32) (x5 : Int32) (x6 : Int32) (x7 : Int32) (x8 : Int32) (s0 : Int32) (M : A_M) (M' : A_M), f_X7_reachFrom_K59 N k28 x0 x1 x2 x3 x4 x5 x6 x7 x8 s0 M = some M' → J X 12 59 [(0, .ref x0), (1, .int x1), (2, .int x2), (3, .int x3), (4, .int x4), (5, .int x5), (6, .int x6), (7, .int x7), (8, .int x8)] [.int s0] M 0 0 none M' := by
  intro x0 x1 x2 x3 x4 x5 x6 x7 x8 s0 M M' h
  unfold f_X7_reachFrom_K59 at h
  refine J_istore (pc' := 61) (lv' := [(9, .int s0), (0, .ref x0), (1, .int x1), (2, .int x2), (3, .int x3), (4, .int x4), (5, .int x5), (6, .int x6), (7, .int x7), (8, .int x8)]) C dX7_reachFrom_59 rfl (by decide) rfl ?_
  refine J_iconst (pc' := 62) (v := (0 : Int32)) C dX7_reachFrom_61 rfl (by decide) ?_
  refine J_istore (pc' := 64) (lv' := [(10, .int (0 : Int32)), (9, .int s0), (0, .ref x0), (1, .int x1), (2, .int x2), (3, .int x3), (4, .int x4), (5, .int x5), (6, .int x6), (7, .int x7), (8, .int x8)]) C dX7_reachFrom_62 rfl (by decide) rfl ?_
  refine J_sub (lv' := [(0, .ref x0), (1, .int x1), (2, .int x2), (3, .int x3), (4, .int x4), (5, .int x5), (6, .int x6), (7, .int x7), (8, .int x8), (9, .int s0), (10, .int (0 : Int32))]) [2, 3, 4, 5, 6, 7, 8, 9, 10, 1, 0] rfl ?_
  exact ok_X7_reachFrom_L64 C N hk28 N _ _ _ _ _ _ _ _ _ _ _ _ _ h
def f_X7_reachFrom_L28 (N : Nat) : Nat → Nat → Int32 → Int32 → Int32 → Int32 → Int32 → Int32 → Int32 → Int32 → A_M → Option A_M
  | 0, _, _, _, _, _, _, _, _, _, _ => none
  | n + 1, x0, x1, x2, x3, x4, x5, x6, x7, x8, M =>
    if x7 < x8 then
    (some M)
    else
    ((gI M x0 7 16).bind fun v37 =>
    if x1 = v37 then
    (f_X7_reachFrom_K59 N (f_X7_reachFrom_L28 N n) x0 x1 x2 x3 x4 x5 x6 x7 x8 (0 : Int32) M)
    else
    (bnd2 (f_X7_least N (x2 - x8) (x6 - x8) M) fun v56 M56 =>
    f_X7_reachFrom_K59 N (f_X7_reachFrom_L28 N n) x0 x1 x2 x3 x4 x5 x6 x7 x8 v56 M56))
set_option maxHeartbeats 4000000 in
set_option maxRecDepth 100000 in
theorem ok_X7_reachFrom_L28 {X : JX} (C : Cx X cX7_reachFrom RX7 12 none 2 56) (N : Nat) : ∀ (n : Nat) (x0 : Nat) (x1 : Int32) (x2 : Int32) (x3 : Int32) (x4 : Int32) (x5 : Int32) (x6 : Int32) (x7 : Int32) (x8 : Int32) (M : A_M) (M' : A_M), f_X7_reachFrom_L28 N n x0 x1 x2 x3 x4 x5 x6 x7 x8 M = some M' → J X 12 28 [(0, .ref x0), (1, .int x1), (2, .int x2), (3, .int x3), (4, .int x4), (5, .int x5), (6, .int x6), (7, .int x7), (8, .int x8)] [] M 0 0 none M' := by
  intro n
  induction n with
  | zero =>
    intro x0 x1 x2 x3 x4 x5 x6 x7 x8 M M' h
    cases h
  | succ n ih =>
    intro x0 x1 x2 x3 x4 x5 x6 x7 x8 M M' h
    rw [f_X7_reachFrom_L28] at h
    refine J_iload (pc' := 30) C 8 dX7_reachFrom_28 rfl rfl ?_
    refine J_iload (pc' := 32) C 7 dX7_reachFrom_30 rfl rfl ?_
    refine J_icmp_gt (tgt := 128) (pc' := 35) C dX7_reachFrom_32 (by decide) rfl (fun c32 => ?_) (fun c32 => ?_)
    · rw [if_pos c32] at h
      obtain rfl := rt1 h
      exact J_vret C dX7_reachFrom_128 (Nat.zero_le _) (Nat.zero_le _)
    · rw [if_neg c32] at h
      refine J_iload_n (pc' := 36) C 1 dX7_reachFrom_35 rfl rfl rfl ?_
      refine J_aload_n (pc' := 37) C 0 dX7_reachFrom_36 rfl rfl rfl ?_
      obtain ⟨v37, e37, h⟩ := bd h
      refine jg_895 (pc' := 40) C dX7_reachFrom_37 rfl (gI_some e37) ?_
      refine J_icmp_ne (tgt := 47) (pc' := 43) C dX7_reachFrom_40 (by decide) rfl (fun c40 => ?_) (fun c40 => ?_)
      · rw [if_neg c40] at h
        refine J_iload_n (pc' := 48) C 2 dX7_reachFrom_47 rfl rfl rfl ?_
        refine J_iload (pc' := 50) C 8 dX7_reachFrom_48 rfl rfl ?_
        refine J_isub (pc' := 51) C dX7_reachFrom_50 rfl ?_
        refine J_iload (pc' := 53) C 6 dX7_reachFrom_51 rfl rfl ?_
        refine J_iload (pc' := 55) C 8 dX7_reachFrom_53 rfl rfl ?_
        refine J_isub (pc' := 56) C dX7_reachFrom_55 rfl ?_
        obtain ⟨v56, M56, e56, h⟩ := bd2 h
        refine J_cS (pc' := 59) (st := []) (st2 := [.int v56]) (cs2 := 0) (sl2 := 0) C (ok_X7_least N e56) mw_X7_least wq_1148 rfl dX7_reachFrom_56 rfl rfl (Nat.le_of_ble_eq_true rfl) (by decide) (by decide) rfl rfl rfl (Nat.zero_le _) (Nat.zero_le _) ?_
        refine J_sub (lv' := [(0, .ref x0), (1, .int x1), (2, .int x2), (3, .int x3), (4, .int x4), (5, .int x5), (6, .int x6), (7, .int x7), (8, .int x8)]) [0, 1, 2, 3, 4, 5, 6, 7, 8] rfl ?_
        exact ok_X7_reachFrom_K59 C N ih _ _ _ _ _ _ _ _ _ _ _ _ h
      · rw [if_pos c40] at h
        refine J_iconst (pc' := 44) (v := (0 : Int32)) C dX7_reachFrom_43 rfl (by decide) ?_
        refine J_goto (tgt := 59) C dX7_reachFrom_44 (by decide) ?_
        refine J_sub (lv' := [(0, .ref x0), (1, .int x1), (2, .int x2), (3, .int x3), (4, .int x4), (5, .int x5), (6, .int x6), (7, .int x7), (8, .int x8)]) [0, 1, 2, 3, 4, 5, 6, 7, 8] rfl ?_
        exact ok_X7_reachFrom_K59 C N ih _ _ _ _ _ _ _ _ _ _ _ _ h
def f_X7_reachFrom_K23 (N : Nat) (x0 : Nat) (x1 : Int32) (x2 : Int32) (x3 : Int32) (x4 : Int32) (x5 : Int32) (x6 : Int32) (s0 : Int32) (M : A_M) : Option A_M :=
  f_X7_reachFrom_L28 N N x0 x1 x2 x3 x4 x5 x6 s0 (0 : Int32) M
set_option maxHeartbeats 4000000 in
set_option maxRecDepth 100000 in
theorem ok_X7_reachFrom_K23 {X : JX} (C : Cx X cX7_reachFrom RX7 12 none 2 56) (N : Nat) : ∀ (x0 : Nat) (x1 : Int32) (x2 : Int32) (x3 : Int32) (x4 : Int32) (x5 : Int32) (x6 : Int32) (s0 : Int32) (M : A_M) (M' : A_M), f_X7_reachFrom_K23 N x0 x1 x2 x3 x4 x5 x6 s0 M = some M' → J X 12 23 [(0, .ref x0), (1, .int x1), (2, .int x2), (3, .int x3), (4, .int x4), (5, .int x5), (6, .int x6)] [.int s0] M 0 0 none M' := by
  intro x0 x1 x2 x3 x4 x5 x6 s0 M M' h
  unfold f_X7_reachFrom_K23 at h
  refine J_istore (pc' := 25) (lv' := [(7, .int s0), (0, .ref x0), (1, .int x1), (2, .int x2), (3, .int x3), (4, .int x4), (5, .int x5), (6, .int x6)]) C dX7_reachFrom_23 rfl (by decide) rfl ?_
  refine J_iconst (pc' := 26) (v := (0 : Int32)) C dX7_reachFrom_25 rfl (by decide) ?_
  refine J_istore (pc' := 28) (lv' := [(8, .int (0 : Int32)), (7, .int s0), (0, .ref x0), (1, .int x1), (2, .int x2), (3, .int x3), (4, .int x4), (5, .int x5), (6, .int x6)]) C dX7_reachFrom_26 rfl (by decide) rfl ?_
  refine J_sub (lv' := [(0, .ref x0), (1, .int x1), (2, .int x2), (3, .int x3), (4, .int x4), (5, .int x5), (6, .int x6), (7, .int s0), (8, .int (0 : Int32))]) [2, 3, 4, 5, 6, 7, 8, 1, 0] rfl ?_
  exact ok_X7_reachFrom_L28 C N N _ _ _ _ _ _ _ _ _ _ _ h
def f_X7_reachFrom (N : Nat) (a0 : Nat) (a1 : Int32) (a2 : Int32) (a3 : Int32) (a4 : Int32) (a5 : Int32) (M : A_M) : Option A_M :=
  (gI M a0 7 3).bind fun v1 =>
  if a1 = 0 then
  (f_X7_reachFrom_K23 N a0 a1 a2 a3 a4 a5 (v1 - a5) (0 : Int32) M)
  else
  (bnd2 (f_X7_least N a2 (v1 - a5) M) fun v20 M20 =>
  f_X7_reachFrom_K23 N a0 a1 a2 a3 a4 a5 (v1 - a5) v20 M20)
set_option maxHeartbeats 4000000 in
set_option maxRecDepth 100000 in
theorem ok_X7_reachFrom (N : Nat) {a0 : Nat} {a1 : Int32} {a2 : Int32} {a3 : Int32} {a4 : Int32} {a5 : Int32} {M : A_M} {M' : A_M} (h : f_X7_reachFrom N a0 a1 a2 a3 a4 a5 M = some M') : Runs yX7_reachFrom cX7_reachFrom 12 none 2 56 0 0 [.ref a0, .int a1, .int a2, .int a3, .int a4, .int a5] M none M' := by
  refine Runs.intro (by decide) (Nat.le_of_ble_eq_true rfl) (fun X C hnm hMC hMS => ?_)
  have C : Cx X cX7_reachFrom RX7 12 none 2 56 := C
  show J X 12 0 [(0, .ref a0), (1, .int a1), (2, .int a2), (3, .int a3), (4, .int a4), (5, .int a5)] [] M 0 0 none M'
  unfold f_X7_reachFrom at h
  refine J_aload_n (pc' := 1) C 0 dX7_reachFrom_0 rfl rfl rfl ?_
  obtain ⟨v1, e1, h⟩ := bd h
  refine jg_882 (pc' := 4) C dX7_reachFrom_1 rfl (gI_some e1) ?_
  refine J_iload (pc' := 6) C 5 dX7_reachFrom_4 rfl rfl ?_
  refine J_isub (pc' := 7) C dX7_reachFrom_6 rfl ?_
  refine J_istore (pc' := 9) (lv' := [(6, .int (v1 - a5)), (0, .ref a0), (1, .int a1), (2, .int a2), (3, .int a3), (4, .int a4), (5, .int a5)]) C dX7_reachFrom_7 rfl (by decide) rfl ?_
  refine J_iload_n (pc' := 10) C 2 dX7_reachFrom_9 rfl rfl rfl ?_
  refine J_if_ne (tgt := 17) (pc' := 13) C dX7_reachFrom_10 (by decide) rfl (fun c10 => ?_) (fun c10 => ?_)
  · rw [if_neg c10] at h
    refine J_iload_n (pc' := 18) C 3 dX7_reachFrom_17 rfl rfl rfl ?_
    refine J_iload (pc' := 20) C 0 dX7_reachFrom_18 rfl rfl ?_
    obtain ⟨v20, M20, e20, h⟩ := bd2 h
    refine J_cS (pc' := 23) (st := []) (st2 := [.int v20]) (cs2 := 0) (sl2 := 0) C (ok_X7_least N e20) mw_X7_least wq_1148 rfl dX7_reachFrom_20 rfl rfl (Nat.le_of_ble_eq_true rfl) (by decide) (by decide) rfl rfl rfl (Nat.zero_le _) (Nat.zero_le _) ?_
    refine J_sub (lv' := [(0, .ref a0), (1, .int a1), (2, .int a2), (3, .int a3), (4, .int a4), (5, .int a5), (6, .int (v1 - a5))]) [1, 2, 3, 4, 5, 6, 0] rfl ?_
    exact ok_X7_reachFrom_K23 C N _ _ _ _ _ _ _ _ _ _ h
  · rw [if_pos c10] at h
    refine J_iconst (pc' := 14) (v := (0 : Int32)) C dX7_reachFrom_13 rfl (by decide) ?_
    refine J_goto (tgt := 23) C dX7_reachFrom_14 (by decide) ?_
    refine J_sub (lv' := [(0, .ref a0), (1, .int a1), (2, .int a2), (3, .int a3), (4, .int a4), (5, .int a5), (6, .int (v1 - a5))]) [1, 2, 3, 4, 5, 6, 0] rfl ?_
    exact ok_X7_reachFrom_K23 C N _ _ _ _ _ _ _ _ _ _ h
