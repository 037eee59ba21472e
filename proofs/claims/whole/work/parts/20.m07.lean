def f_X6_rowBehind_L8 (N : Nat) : Nat → Int32 → Int64 → Int32 → A_M → Option (Int64 × A_M)
  | 0, _, _, _, _ => none
  | n + 1, x3, x4, x6, M =>
    if x6 < 0 then
    (some ((-1 : Int64), M))
    else
    (bnd2 (f_X6_signOfRow N x4 x6 M) fun v28 M28 =>
    if (x3 - (1 : Int32)) ≤ v28 then
    (f_X6_rowBehind_L8 N n x3 (x4 - ((v28.toInt64) * ((1 : Int64) <<< (((2 : Int32) * ((23 : Int32) - x6)).toInt64 &&& 63)))) (x6 + (-1)) M28)
    else
    (some ((x4 + ((1 : Int64) <<< (((2 : Int32) * ((23 : Int32) - x6)).toInt64 &&& 63))), M28)))
set_option maxHeartbeats 4000000 in
set_option maxRecDepth 100000 in
theorem ok_X6_rowBehind_L8 {X : JX} (C : Cx X cX6_rowBehind RX6 10 (some .long) 1 22) (N : Nat) : ∀ (n : Nat) (x3 : Int32) (x4 : Int64) (x6 : Int32) (M : A_M) (r : Int64) (M' : A_M), f_X6_rowBehind_L8 N n x3 x4 x6 M = some (r, M') → J X 10 8 [(3, .int x3), (4, .long x4), (6, .int x6)] [] M 0 0 (some (.long r)) M' := by
  intro n
  induction n with
  | zero =>
    intro x3 x4 x6 M r M' h
    cases h
  | succ n ih =>
    intro x3 x4 x6 M r M' h
    rw [f_X6_rowBehind_L8] at h
    refine J_iload (pc' := 10) C 2 dX6_rowBehind_8 rfl rfl ?_
    refine J_if_lt (tgt := 64) (pc' := 13) C dX6_rowBehind_10 (by decide) rfl (fun c10 => ?_) (fun c10 => ?_)
    · rw [if_pos c10] at h
      refine J_ldc2 (pc' := 67) C dX6_rowBehind_64 rfl wq_651 ?_
      obtain ⟨rfl, rfl⟩ := rt2 h
      exact J_lret C dX6_rowBehind_67 (Nat.zero_le _) (Nat.zero_le _)
    · rw [if_neg c10] at h
      refine J_lconst (pc' := 14) (v := (1 : Int64)) C dX6_rowBehind_13 rfl (by decide) ?_
      refine J_iconst (pc' := 15) (v := (2 : Int32)) C dX6_rowBehind_14 rfl (by decide) ?_
      refine J_bipush (pc' := 17) (v := (23 : Int32)) C dX6_rowBehind_15 rfl (by decide) ?_
      refine J_iload (pc' := 19) C 2 dX6_rowBehind_17 rfl rfl ?_
      refine J_isub (pc' := 20) C dX6_rowBehind_19 rfl ?_
      refine J_imul (pc' := 21) C dX6_rowBehind_20 rfl ?_
      refine J_lshl (pc' := 22) C dX6_rowBehind_21 rfl ?_
      refine J_lstore (pc' := 24) (lv' := [(7, .long ((1 : Int64) <<< (((2 : Int32) * ((23 : Int32) - x6)).toInt64 &&& 63))), (3, .int x3), (4, .long x4), (6, .int x6)]) C dX6_rowBehind_22 rfl (by decide) rfl ?_
      refine J_lload (pc' := 26) C 2 dX6_rowBehind_24 rfl rfl ?_
      refine J_iload (pc' := 28) C 3 dX6_rowBehind_26 rfl rfl ?_
      obtain ⟨v28, M28, e28, h⟩ := bd2 h
      refine J_cS (pc' := 31) (st := []) (st2 := [.int v28]) (cs2 := 0) (sl2 := 0) C (ok_X6_signOfRow N e28) mw_X6_signOfRow wq_551 rfl dX6_rowBehind_28 rfl rfl (Nat.le_of_ble_eq_true rfl) (by decide) (by decide) rfl rfl rfl (Nat.zero_le _) (Nat.zero_le _) ?_
      refine J_istore (pc' := 33) (lv' := [(9, .int v28), (7, .long ((1 : Int64) <<< (((2 : Int32) * ((23 : Int32) - x6)).toInt64 &&& 63))), (3, .int x3), (4, .long x4), (6, .int x6)]) C dX6_rowBehind_31 rfl (by decide) rfl ?_
      refine J_iload (pc' := 35) C 0 dX6_rowBehind_33 rfl rfl ?_
      refine J_iload_n (pc' := 36) C 2 dX6_rowBehind_35 rfl rfl rfl ?_
      refine J_iconst (pc' := 37) (v := (1 : Int32)) C dX6_rowBehind_36 rfl (by decide) ?_
      refine J_isub (pc' := 38) C dX6_rowBehind_37 rfl ?_
      refine J_icmp_ge (tgt := 47) (pc' := 41) C dX6_rowBehind_38 (by decide) rfl (fun c38 => ?_) (fun c38 => ?_)
      · rw [if_pos c38] at h
        refine J_lload (pc' := 49) C 3 dX6_rowBehind_47 rfl rfl ?_
        refine J_iload (pc' := 51) C 0 dX6_rowBehind_49 rfl rfl ?_
        refine J_i2l (pc' := 52) C dX6_rowBehind_51 rfl ?_
        refine J_lload (pc' := 54) C 1 dX6_rowBehind_52 rfl rfl ?_
        refine J_lmul (pc' := 55) C dX6_rowBehind_54 rfl ?_
        refine J_lsub (pc' := 56) C dX6_rowBehind_55 rfl ?_
        refine J_lstore (pc' := 58) (lv' := [(4, .long (x4 - ((v28.toInt64) * ((1 : Int64) <<< (((2 : Int32) * ((23 : Int32) - x6)).toInt64 &&& 63))))), (9, .int v28), (7, .long ((1 : Int64) <<< (((2 : Int32) * ((23 : Int32) - x6)).toInt64 &&& 63))), (3, .int x3), (6, .int x6)]) C dX6_rowBehind_56 rfl (by decide) rfl ?_
        refine J_iinc (pc' := 61) (lv' := [(6, .int (x6 + (-1))), (4, .long (x4 - ((v28.toInt64) * ((1 : Int64) <<< (((2 : Int32) * ((23 : Int32) - x6)).toInt64 &&& 63))))), (9, .int v28), (7, .long ((1 : Int64) <<< (((2 : Int32) * ((23 : Int32) - x6)).toInt64 &&& 63))), (3, .int x3)]) C 4 dX6_rowBehind_58 rfl rfl rfl (by decide) rfl ?_
        refine J_goto (tgt := 8) C dX6_rowBehind_61 (by decide) ?_
        refine J_sub (lv' := [(3, .int x3), (4, .long (x4 - ((v28.toInt64) * ((1 : Int64) <<< (((2 : Int32) * ((23 : Int32) - x6)).toInt64 &&& 63))))), (6, .int (x6 + (-1)))]) [4, 1, 0] rfl ?_
        exact ih _ _ _ _ _ _ h
      · rw [if_neg c38] at h
        refine J_lload (pc' := 43) C 3 dX6_rowBehind_41 rfl rfl ?_
        refine J_lload (pc' := 45) C 1 dX6_rowBehind_43 rfl rfl ?_
        refine J_ladd (pc' := 46) C dX6_rowBehind_45 rfl ?_
        obtain ⟨rfl, rfl⟩ := rt2 h
        exact J_lret C dX6_rowBehind_46 (Nat.zero_le _) (Nat.zero_le _)
def f_X6_rowBehind (N : Nat) (a0 : Int64) (a2 : Int32) (a3 : Int32) (M : A_M) : Option (Int64 × A_M) :=
  f_X6_rowBehind_L8 N N a3 a0 (a2 - (1 : Int32)) M
set_option maxHeartbeats 4000000 in
set_option maxRecDepth 100000 in
theorem ok_X6_rowBehind (N : Nat) {a0 : Int64} {a2 : Int32} {a3 : Int32} {M : A_M} {r : Int64} {M' : A_M} (h : f_X6_rowBehind N a0 a2 a3 M = some (r, M')) : Runs yX6_rowBehind cX6_rowBehind 10 (some .long) 1 22 0 0 [.long a0, .int a2, .int a3] M (some (.long r)) M' := by
  refine Runs.intro (by decide) (Nat.le_of_ble_eq_true rfl) (fun X C hnm hMC hMS => ?_)
  have C : Cx X cX6_rowBehind RX6 10 (some .long) 1 22 := C
  show J X 10 0 [(0, .long a0), (2, .int a2), (3, .int a3)] [] M 0 0 (some (.long r)) M'
  unfold f_X6_rowBehind at h
  refine J_lload_n (pc' := 1) C 0 dX6_rowBehind_0 rfl rfl rfl ?_
  refine J_lstore (pc' := 3) (lv' := [(4, .long a0), (0, .long a0), (2, .int a2), (3, .int a3)]) C dX6_rowBehind_1 rfl (by decide) rfl ?_
  refine J_iload_n (pc' := 4) C 2 dX6_rowBehind_3 rfl rfl rfl ?_
  refine J_iconst (pc' := 5) (v := (1 : Int32)) C dX6_rowBehind_4 rfl (by decide) ?_
  refine J_isub (pc' := 6) C dX6_rowBehind_5 rfl ?_
  refine J_istore (pc' := 8) (lv' := [(6, .int (a2 - (1 : Int32))), (4, .long a0), (0, .long a0), (2, .int a2), (3, .int a3)]) C dX6_rowBehind_6 rfl (by decide) rfl ?_
  refine J_sub (lv' := [(3, .int a3), (4, .long a0), (6, .int (a2 - (1 : Int32)))]) [4, 1, 0] rfl ?_
  exact ok_X6_rowBehind_L8 C N N _ _ _ _ _ _ h
def f_X6_makeCanon_K82 (N : Nat) (k30 : Nat → Nat → Int64 → Int32 → Int32 → A_M → Option (Int32 × A_M)) (x0 : Nat) (x1 : Nat) (x2 : Int64) (x5 : Int32) (x6 : Int32) (M : A_M) : Option (Int32 × A_M) :=
  if 0 ≤ (lg_cmp x2 (0 : Int64)) then
  ((gR M x0 6 7).bind fun v91 =>
  (gR M v91 0 1).bind fun v94 =>
  (ldI M v94 x6).bind fun v99 =>
  (chk M x1 0).bind fun _ =>
  (f_X0_giveWord N x1 x6 x2 v99 M).bind fun M108 =>
  k30 x0 x1 x2 v99 (x5 + 1) M108)
  else
  (some ((0 : Int32), M))
set_option maxHeartbeats 4000000 in
set_option maxRecDepth 100000 in
theorem ok_X6_makeCanon_K82 {X : JX} (C : Cx X cX6_makeCanon RX6 7 (some .boolean) 2 51) (N : Nat) {k30 : Nat → Nat → Int64 → Int32 → Int32 → A_M → Option (Int32 × A_M)} (hk30 : ∀ (x0 : Nat) (x1 : Nat) (x2 : Int64) (x4 : Int32) (x5 : Int32) (M : A_M) (r : Int32) (M' : A_M), k30 x0 x1 x2 x4 x5 M = some (r, M') → J X 7 30 [(0, .ref x0), (1, .ref x1), (2, .long x2), (4, .int x4), (5, .int x5)] [] M 0 0 (some (.int r)) M') : ∀ (x0 : Nat) (x1 : Nat) (x2 : Int64) (x5 : Int32) (x6 : Int32) (M : A_M) (r : Int32) (M' : A_M), f_X6_makeCanon_K82 N k30 x0 x1 x2 x5 x6 M = some (r, M') → J X 7 82 [(0, .ref x0), (1, .ref x1), (2, .long x2), (5, .int x5), (6, .int x6)] [] M 0 0 (some (.int r)) M' := by
  intro x0 x1 x2 x5 x6 M r M' h
  unfold f_X6_makeCanon_K82 at h
  refine J_lload_n (pc' := 83) C 2 dX6_makeCanon_82 rfl rfl rfl ?_
  refine J_lconst (pc' := 84) (v := (0 : Int64)) C dX6_makeCanon_83 rfl (by decide) ?_
  refine J_lcmp (pc' := 85) C dX6_makeCanon_84 rfl ?_
  refine J_if_ge (tgt := 90) (pc' := 88) C dX6_makeCanon_85 (by decide) rfl (fun c85 => ?_) (fun c85 => ?_)
  · rw [if_pos c85] at h
    refine J_aload_n (pc' := 91) C 0 dX6_makeCanon_90 rfl rfl rfl ?_
    obtain ⟨v91, e91, h⟩ := bd h
    refine jg_197 (pc' := 94) C dX6_makeCanon_91 rfl (gR_some e91) ?_
    obtain ⟨v94, e94, h⟩ := bd h
    refine jg_177 (pc' := 97) C dX6_makeCanon_94 rfl (gR_some e94) ?_
    refine J_iload (pc' := 99) C 4 dX6_makeCanon_97 rfl rfl ?_
    obtain ⟨v99, e99, h⟩ := bd h
    refine J_iald (pc' := 100) C dX6_makeCanon_99 rfl e99 ?_
    refine J_istore (pc' := 102) (lv' := [(4, .int v99), (0, .ref x0), (1, .ref x1), (2, .long x2), (5, .int x5), (6, .int x6)]) C dX6_makeCanon_100 rfl (by decide) rfl ?_
    refine J_aload_n (pc' := 103) C 2 dX6_makeCanon_102 rfl rfl rfl ?_
    refine J_iload (pc' := 105) C 5 dX6_makeCanon_103 rfl rfl ?_
    refine J_lload_n (pc' := 106) C 3 dX6_makeCanon_105 rfl rfl rfl ?_
    refine J_iload (pc' := 108) C 0 dX6_makeCanon_106 rfl rfl ?_
    obtain ⟨_, q108, h⟩ := bd h
    obtain ⟨M108, e108, h⟩ := bd h
    refine J_cV (pc' := 111) (st := []) (st2 := []) (cs2 := 0) (sl2 := 0) C 0 rfl rfl q108 (ok_X0_giveWord N e108) mw_X0_giveWord wq_536 rfl dX6_makeCanon_108 rfl rfl (Nat.le_of_ble_eq_true rfl) (by decide) (by decide) rfl rfl rfl (Nat.zero_le _) (Nat.zero_le _) ?_
    refine J_iinc (pc' := 114) (lv' := [(5, .int (x5 + 1)), (4, .int v99), (0, .ref x0), (1, .ref x1), (2, .long x2), (6, .int x6)]) C 4 dX6_makeCanon_111 rfl rfl rfl (by decide) rfl ?_
    refine J_goto (tgt := 30) C dX6_makeCanon_114 (by decide) ?_
    refine J_sub (lv' := [(0, .ref x0), (1, .ref x1), (2, .long x2), (4, .int v99), (5, .int (x5 + 1))]) [2, 3, 4, 1, 0] rfl ?_
    exact hk30 _ _ _ _ _ _ _ _ h
  · rw [if_neg c85] at h
    refine J_iconst (pc' := 89) (v := (0 : Int32)) C dX6_makeCanon_88 rfl (by decide) ?_
    obtain ⟨rfl, rfl⟩ := rt2 h
    exact J_zret C rfl dX6_makeCanon_89 (Nat.zero_le _) (Nat.zero_le _)
def f_X6_makeCanon_L30 (N : Nat) : Nat → Nat → Nat → Int64 → Int32 → Int32 → A_M → Option (Int32 × A_M)
  | 0, _, _, _, _, _, _ => none
  | n + 1, x0, x1, x2, x4, x5, M =>
    (gR M x0 6 7).bind fun v33 =>
    (gI M v33 0 2).bind fun v36 =>
    if v36 ≤ x5 then
    (some ((1 : Int32), M))
    else
    ((gR M x0 6 2).bind fun v43 =>
    (ldI M v43 x5).bind fun v48 =>
    (gR M x0 6 7).bind fun v52 =>
    (gR M v52 0 1).bind fun v55 =>
    (ldI M v55 v48).bind fun v60 =>
    if v60 = 0 then
    (some ((0 : Int32), M))
    else
    (if x5 ≤ 0 then
    (f_X6_makeCanon_K82 N (f_X6_makeCanon_L30 N n) x0 x1 x2 x5 v48 M)
    else
    ((gI M x0 6 10).bind fun v75 =>
    bnd2 (f_X6_rowBehind N x2 x4 v75 M) fun v78 M78 =>
    f_X6_makeCanon_K82 N (f_X6_makeCanon_L30 N n) x0 x1 v78 x5 v48 M78)))
set_option maxHeartbeats 4000000 in
set_option maxRecDepth 100000 in
theorem ok_X6_makeCanon_L30 {X : JX} (C : Cx X cX6_makeCanon RX6 7 (some .boolean) 2 51) (N : Nat) : ∀ (n : Nat) (x0 : Nat) (x1 : Nat) (x2 : Int64) (x4 : Int32) (x5 : Int32) (M : A_M) (r : Int32) (M' : A_M), f_X6_makeCanon_L30 N n x0 x1 x2 x4 x5 M = some (r, M') → J X 7 30 [(0, .ref x0), (1, .ref x1), (2, .long x2), (4, .int x4), (5, .int x5)] [] M 0 0 (some (.int r)) M' := by
  intro n
  induction n with
  | zero =>
    intro x0 x1 x2 x4 x5 M r M' h
    cases h
  | succ n ih =>
    intro x0 x1 x2 x4 x5 M r M' h
    rw [f_X6_makeCanon_L30] at h
    refine J_iload (pc' := 32) C 4 dX6_makeCanon_30 rfl rfl ?_
    refine J_aload_n (pc' := 33) C 0 dX6_makeCanon_32 rfl rfl rfl ?_
    obtain ⟨v33, e33, h⟩ := bd h
    refine jg_197 (pc' := 36) C dX6_makeCanon_33 rfl (gR_some e33) ?_
    obtain ⟨v36, e36, h⟩ := bd h
    refine jg_181 (pc' := 39) C dX6_makeCanon_36 rfl (gI_some e36) ?_
    refine J_icmp_ge (tgt := 117) (pc' := 42) C dX6_makeCanon_39 (by decide) rfl (fun c39 => ?_) (fun c39 => ?_)
    · rw [if_pos c39] at h
      refine J_iconst (pc' := 118) (v := (1 : Int32)) C dX6_makeCanon_117 rfl (by decide) ?_
      obtain ⟨rfl, rfl⟩ := rt2 h
      exact J_zret C rfl dX6_makeCanon_118 (Nat.zero_le _) (Nat.zero_le _)
    · rw [if_neg c39] at h
      refine J_aload_n (pc' := 43) C 0 dX6_makeCanon_42 rfl rfl rfl ?_
      obtain ⟨v43, e43, h⟩ := bd h
      refine jg_192 (pc' := 46) C dX6_makeCanon_43 rfl (gR_some e43) ?_
      refine J_iload (pc' := 48) C 4 dX6_makeCanon_46 rfl rfl ?_
      obtain ⟨v48, e48, h⟩ := bd h
      refine J_iald (pc' := 49) C dX6_makeCanon_48 rfl e48 ?_
      refine J_istore (pc' := 51) (lv' := [(6, .int v48), (0, .ref x0), (1, .ref x1), (2, .long x2), (4, .int x4), (5, .int x5)]) C dX6_makeCanon_49 rfl (by decide) rfl ?_
      refine J_aload_n (pc' := 52) C 1 dX6_makeCanon_51 rfl rfl rfl ?_
      obtain ⟨v52, e52, h⟩ := bd h
      refine jg_197 (pc' := 55) C dX6_makeCanon_52 rfl (gR_some e52) ?_
      obtain ⟨v55, e55, h⟩ := bd h
      refine jg_177 (pc' := 58) C dX6_makeCanon_55 rfl (gR_some e55) ?_
      refine J_iload (pc' := 60) C 0 dX6_makeCanon_58 rfl rfl ?_
      obtain ⟨v60, e60, h⟩ := bd h
      refine J_iald (pc' := 61) C dX6_makeCanon_60 rfl e60 ?_
      refine J_if_ne (tgt := 66) (pc' := 64) C dX6_makeCanon_61 (by decide) rfl (fun c61 => ?_) (fun c61 => ?_)
      · rw [if_neg c61] at h
        refine J_iload (pc' := 68) C 5 dX6_makeCanon_66 rfl rfl ?_
        refine J_if_le (tgt := 82) (pc' := 71) C dX6_makeCanon_68 (by decide) rfl (fun c68 => ?_) (fun c68 => ?_)
        · rw [if_pos c68] at h
          refine J_sub (lv' := [(0, .ref x0), (1, .ref x1), (2, .long x2), (5, .int x5), (6, .int v48)]) [1, 2, 3, 5, 0] rfl ?_
          exact ok_X6_makeCanon_K82 C N ih _ _ _ _ _ _ _ _ h
        · rw [if_neg c68] at h
          refine J_lload_n (pc' := 72) C 3 dX6_makeCanon_71 rfl rfl rfl ?_
          refine J_iload (pc' := 74) C 4 dX6_makeCanon_72 rfl rfl ?_
          refine J_aload_n (pc' := 75) C 1 dX6_makeCanon_74 rfl rfl rfl ?_
          obtain ⟨v75, e75, h⟩ := bd h
          refine jg_200 (pc' := 78) C dX6_makeCanon_75 rfl (gI_some e75) ?_
          obtain ⟨v78, M78, e78, h⟩ := bd2 h
          refine J_cS (pc' := 81) (st := []) (st2 := [.long v78]) (cs2 := 0) (sl2 := 0) C (ok_X6_rowBehind N e78) mw_X6_rowBehind wq_648 rfl dX6_makeCanon_78 rfl rfl (Nat.le_of_ble_eq_true rfl) (by decide) (by decide) rfl rfl rfl (Nat.zero_le _) (Nat.zero_le _) ?_
          refine J_lstore_n (pc' := 82) (lv' := [(2, .long v78), (6, .int v48), (0, .ref x0), (1, .ref x1), (4, .int x4), (5, .int x5)]) C dX6_makeCanon_81 rfl rfl (by decide) rfl ?_
          refine J_sub (lv' := [(0, .ref x0), (1, .ref x1), (2, .long v78), (5, .int x5), (6, .int v48)]) [2, 3, 0, 5, 1] rfl ?_
          exact ok_X6_makeCanon_K82 C N ih _ _ _ _ _ _ _ _ h
      · rw [if_pos c61] at h
        refine J_iconst (pc' := 65) (v := (0 : Int32)) C dX6_makeCanon_64 rfl (by decide) ?_
        obtain ⟨rfl, rfl⟩ := rt2 h
        exact J_zret C rfl dX6_makeCanon_65 (Nat.zero_le _) (Nat.zero_le _)
def f_X6_makeCanon (N : Nat) (a0 : Nat) (a1 : Nat) (M : A_M) : Option (Int32 × A_M) :=
  (gR M a0 6 7).bind fun v2 =>
  (gI M v2 0 2).bind fun v5 =>
  (chk M a1 0).bind fun _ =>
  (f_X0_begin N a1 v5 M).bind fun M8 =>
  (gR M8 a0 6 7).bind fun v12 =>
  (gR M8 a0 6 2).bind fun v16 =>
  (chk M8 v12 0).bind fun _ =>
  (f_X0_orderBySize N v12 v16 M8).bind fun M19 =>
  f_X6_makeCanon_L30 N N a0 a1 (0 : Int64) (0 : Int32) (0 : Int32) M19
set_option maxHeartbeats 4000000 in
set_option maxRecDepth 100000 in
theorem ok_X6_makeCanon (N : Nat) {a0 : Nat} {a1 : Nat} {M : A_M} {r : Int32} {M' : A_M} (h : f_X6_makeCanon N a0 a1 M = some (r, M')) : Runs yX6_makeCanon cX6_makeCanon 7 (some .boolean) 2 51 0 0 [.ref a0, .ref a1] M (some (.int r)) M' := by
  refine Runs.intro (by decide) (Nat.le_of_ble_eq_true rfl) (fun X C hnm hMC hMS => ?_)
  have C : Cx X cX6_makeCanon RX6 7 (some .boolean) 2 51 := C
  show J X 7 0 [(0, .ref a0), (1, .ref a1)] [] M 0 0 (some (.int r)) M'
  unfold f_X6_makeCanon at h
  refine J_aload_n (pc' := 1) C 1 dX6_makeCanon_0 rfl rfl rfl ?_
  refine J_aload_n (pc' := 2) C 0 dX6_makeCanon_1 rfl rfl rfl ?_
  obtain ⟨v2, e2, h⟩ := bd h
  refine jg_197 (pc' := 5) C dX6_makeCanon_2 rfl (gR_some e2) ?_
  obtain ⟨v5, e5, h⟩ := bd h
  refine jg_181 (pc' := 8) C dX6_makeCanon_5 rfl (gI_some e5) ?_
  obtain ⟨_, q8, h⟩ := bd h
  obtain ⟨M8, e8, h⟩ := bd h
  refine J_cV (pc' := 11) (st := []) (st2 := []) (cs2 := 0) (sl2 := 0) C 0 rfl rfl q8 (ok_X0_begin N e8) mw_X0_begin wq_253 rfl dX6_makeCanon_8 rfl rfl (Nat.le_of_ble_eq_true rfl) (by decide) (by decide) rfl rfl rfl (Nat.zero_le _) (Nat.zero_le _) ?_
  refine J_aload_n (pc' := 12) C 0 dX6_makeCanon_11 rfl rfl rfl ?_
  obtain ⟨v12, e12, h⟩ := bd h
  refine jg_197 (pc' := 15) C dX6_makeCanon_12 rfl (gR_some e12) ?_
  refine J_aload_n (pc' := 16) C 0 dX6_makeCanon_15 rfl rfl rfl ?_
  obtain ⟨v16, e16, h⟩ := bd h
  refine jg_192 (pc' := 19) C dX6_makeCanon_16 rfl (gR_some e16) ?_
  obtain ⟨_, q19, h⟩ := bd h
  obtain ⟨M19, e19, h⟩ := bd h
  refine J_cV (pc' := 22) (st := []) (st2 := []) (cs2 := 0) (sl2 := 0) C 0 rfl rfl q19 (ok_X0_orderBySize N e19) mw_X0_orderBySize wq_644 rfl dX6_makeCanon_19 rfl rfl (Nat.le_of_ble_eq_true rfl) (by decide) (by decide) rfl rfl rfl (Nat.zero_le _) (Nat.zero_le _) ?_
  refine J_lconst (pc' := 23) (v := (0 : Int64)) C dX6_makeCanon_22 rfl (by decide) ?_
  refine J_lstore_n (pc' := 24) (lv' := [(2, .long (0 : Int64)), (0, .ref a0), (1, .ref a1)]) C dX6_makeCanon_23 rfl rfl (by decide) rfl ?_
  refine J_iconst (pc' := 25) (v := (0 : Int32)) C dX6_makeCanon_24 rfl (by decide) ?_
  refine J_istore (pc' := 27) (lv' := [(4, .int (0 : Int32)), (2, .long (0 : Int64)), (0, .ref a0), (1, .ref a1)]) C dX6_makeCanon_25 rfl (by decide) rfl ?_
  refine J_iconst (pc' := 28) (v := (0 : Int32)) C dX6_makeCanon_27 rfl (by decide) ?_
  refine J_istore (pc' := 30) (lv' := [(5, .int (0 : Int32)), (4, .int (0 : Int32)), (2, .long (0 : Int64)), (0, .ref a0), (1, .ref a1)]) C dX6_makeCanon_28 rfl (by decide) rfl ?_
  refine J_sub (lv' := [(0, .ref a0), (1, .ref a1), (2, .long (0 : Int64)), (4, .int (0 : Int32)), (5, .int (0 : Int32))]) [3, 4, 2, 1, 0] rfl ?_
  exact ok_X6_makeCanon_L30 C N N _ _ _ _ _ _ _ _ h
def f_X6_canon (N : Nat) (a0 : Nat) (M : A_M) : Option (Int32 × A_M) :=
  (chk M a0 6).bind fun _ =>
  bnd2 (f_X6_hasCode N a0 M) fun v1 M1 =>
  if v1 = 0 then
  (some ((-3 : Int32), M1))
  else
  ((gR M1 a0 6 8).bind fun v12 =>
  (chk M1 a0 6).bind fun _ =>
  bnd2 (f_X6_makeCanon N a0 v12 M1) fun v15 M15 =>
  if v15 = 0 then
  (some ((-5 : Int32), M15))
  else
  ((gR M15 a0 6 8).bind fun v26 =>
  (chk M15 a0 6).bind fun _ =>
  (f_X6_handOver N a0 v26 M15).bind fun M29 =>
  some ((1 : Int32), M29)))
set_option maxHeartbeats 4000000 in
set_option maxRecDepth 100000 in
theorem ok_X6_canon (N : Nat) {a0 : Nat} {M : A_M} {r : Int32} {M' : A_M} (h : f_X6_canon N a0 M = some (r, M')) : Runs yX6_canon cX6_canon 1 (some .int) 3 77 0 0 [.ref a0] M (some (.int r)) M' := by
  refine Runs.intro (by decide) (Nat.le_of_ble_eq_true rfl) (fun X C hnm hMC hMS => ?_)
  have C : Cx X cX6_canon RX6 1 (some .int) 3 77 := C
  show J X 1 0 [(0, .ref a0)] [] M 0 0 (some (.int r)) M'
  unfold f_X6_canon at h
  refine J_aload_n (pc' := 1) C 0 dX6_canon_0 rfl rfl rfl ?_
  obtain ⟨_, q1, h⟩ := bd h
  obtain ⟨v1, M1, e1, h⟩ := bd2 h
  refine J_cV (pc' := 4) (st := []) (st2 := [.int v1]) (cs2 := 0) (sl2 := 0) C 6 rfl rfl q1 (ok_X6_hasCode N e1) mw_X6_hasCode wq_562 rfl dX6_canon_1 rfl rfl (Nat.le_of_ble_eq_true rfl) (by decide) (by decide) rfl rfl rfl (Nat.zero_le _) (Nat.zero_le _) ?_
  refine J_if_ne (tgt := 10) (pc' := 7) C dX6_canon_4 (by decide) rfl (fun c4 => ?_) (fun c4 => ?_)
  · rw [if_neg c4] at h
    refine J_aload_n (pc' := 11) C 0 dX6_canon_10 rfl rfl rfl ?_
    refine J_aload_n (pc' := 12) C 0 dX6_canon_11 rfl rfl rfl ?_
    obtain ⟨v12, e12, h⟩ := bd h
    refine jg_198 (pc' := 15) C dX6_canon_12 rfl (gR_some e12) ?_
    obtain ⟨_, q15, h⟩ := bd h
    obtain ⟨v15, M15, e15, h⟩ := bd2 h
    refine J_cV (pc' := 18) (st := []) (st2 := [.int v15]) (cs2 := 0) (sl2 := 0) C 6 rfl rfl q15 (ok_X6_makeCanon N e15) mw_X6_makeCanon wq_640 rfl dX6_canon_15 rfl rfl (Nat.le_of_ble_eq_true rfl) (by decide) (by decide) rfl rfl rfl (Nat.zero_le _) (Nat.zero_le _) ?_
    refine J_if_ne (tgt := 24) (pc' := 21) C dX6_canon_18 (by decide) rfl (fun c18 => ?_) (fun c18 => ?_)
    · rw [if_neg c18] at h
      refine J_aload_n (pc' := 25) C 0 dX6_canon_24 rfl rfl rfl ?_
      refine J_aload_n (pc' := 26) C 0 dX6_canon_25 rfl rfl rfl ?_
      obtain ⟨v26, e26, h⟩ := bd h
      refine jg_198 (pc' := 29) C dX6_canon_26 rfl (gR_some e26) ?_
      obtain ⟨_, q29, h⟩ := bd h
      obtain ⟨M29, e29, h⟩ := bd h
      refine J_cV (pc' := 32) (st := []) (st2 := []) (cs2 := 0) (sl2 := 0) C 6 rfl rfl q29 (ok_X6_handOver N e29) mw_X6_handOver wq_538 rfl dX6_canon_29 rfl rfl (Nat.le_of_ble_eq_true rfl) (by decide) (by decide) rfl rfl rfl (Nat.zero_le _) (Nat.zero_le _) ?_
      refine J_iconst (pc' := 33) (v := (1 : Int32)) C dX6_canon_32 rfl (by decide) ?_
      obtain ⟨rfl, rfl⟩ := rt2 h
      exact J_iret C dX6_canon_33 (Nat.zero_le _) (Nat.zero_le _)
    · rw [if_pos c18] at h
      refine J_bipush (pc' := 23) (v := (-5 : Int32)) C dX6_canon_21 rfl (by decide) ?_
      obtain ⟨rfl, rfl⟩ := rt2 h
      exact J_iret C dX6_canon_23 (Nat.zero_le _) (Nat.zero_le _)
  · rw [if_pos c4] at h
    refine J_bipush (pc' := 9) (v := (-3 : Int32)) C dX6_canon_7 rfl (by decide) ?_
    obtain ⟨rfl, rfl⟩ := rt2 h
    exact J_iret C dX6_canon_9 (Nat.zero_le _) (Nat.zero_le _)
def f_X6_write (N : Nat) (a0 : Nat) (a1 : Int32) (M : A_M) : Option (Int32 × A_M) :=
  (chk M a0 6).bind fun _ =>
  bnd2 (f_X6_isThing N a0 a1 M) fun v2 M2 =>
  if v2 = 0 then
  (some ((-1 : Int32), M2))
  else
  ((chk M2 a0 6).bind fun _ =>
  bnd2 (f_X6_hasCode N a0 M2) fun v11 M11 =>
  if v11 = 0 then
  (some ((-3 : Int32), M11))
  else
  ((gR M11 a0 6 5).bind fun v21 =>
  (gR M11 a0 6 7).bind fun v25 =>
  (chk M11 v21 2).bind fun _ =>
  bnd2 (f_X2_writeWord N v21 v25 a1 M11) fun v29 M29 =>
  if v29 = 0 then
  (some ((-4 : Int32), M29))
  else
  ((gR M29 a0 6 5).bind fun v36 =>
  (gI M29 v36 2 2).bind fun v39 =>
  some (v39, M29))))
set_option maxHeartbeats 4000000 in
set_option maxRecDepth 100000 in
theorem ok_X6_write (N : Nat) {a0 : Nat} {a1 : Int32} {M : A_M} {r : Int32} {M' : A_M} (h : f_X6_write N a0 a1 M = some (r, M')) : Runs yX6_write cX6_write 2 (some .int) 2 46 0 0 [.ref a0, .int a1] M (some (.int r)) M' := by
  refine Runs.intro (by decide) (Nat.le_of_ble_eq_true rfl) (fun X C hnm hMC hMS => ?_)
  have C : Cx X cX6_write RX6 2 (some .int) 2 46 := C
  show J X 2 0 [(0, .ref a0), (1, .int a1)] [] M 0 0 (some (.int r)) M'
  unfold f_X6_write at h
  refine J_aload_n (pc' := 1) C 0 dX6_write_0 rfl rfl rfl ?_
  refine J_iload_n (pc' := 2) C 1 dX6_write_1 rfl rfl rfl ?_
  obtain ⟨_, q2, h⟩ := bd h
  obtain ⟨v2, M2, e2, h⟩ := bd2 h
  refine J_cV (pc' := 5) (st := []) (st2 := [.int v2]) (cs2 := 0) (sl2 := 0) C 6 rfl rfl q2 (ok_X6_isThing N e2) mw_X6_isThing wq_278 rfl dX6_write_2 rfl rfl (Nat.le_of_ble_eq_true rfl) (by decide) (by decide) rfl rfl rfl (Nat.zero_le _) (Nat.zero_le _) ?_
  refine J_if_ne (tgt := 10) (pc' := 8) C dX6_write_5 (by decide) rfl (fun c5 => ?_) (fun c5 => ?_)
  · rw [if_neg c5] at h
    refine J_aload_n (pc' := 11) C 0 dX6_write_10 rfl rfl rfl ?_
    obtain ⟨_, q11, h⟩ := bd h
    obtain ⟨v11, M11, e11, h⟩ := bd2 h
    refine J_cV (pc' := 14) (st := []) (st2 := [.int v11]) (cs2 := 0) (sl2 := 0) C 6 rfl rfl q11 (ok_X6_hasCode N e11) mw_X6_hasCode wq_562 rfl dX6_write_11 rfl rfl (Nat.le_of_ble_eq_true rfl) (by decide) (by decide) rfl rfl rfl (Nat.zero_le _) (Nat.zero_le _) ?_
    refine J_if_ne (tgt := 20) (pc' := 17) C dX6_write_14 (by decide) rfl (fun c14 => ?_) (fun c14 => ?_)
    · rw [if_neg c14] at h
      refine J_aload_n (pc' := 21) C 0 dX6_write_20 rfl rfl rfl ?_
      obtain ⟨v21, e21, h⟩ := bd h
      refine jg_195 (pc' := 24) C dX6_write_21 rfl (gR_some e21) ?_
      refine J_aload_n (pc' := 25) C 0 dX6_write_24 rfl rfl rfl ?_
      obtain ⟨v25, e25, h⟩ := bd h
      refine jg_197 (pc' := 28) C dX6_write_25 rfl (gR_some e25) ?_
      refine J_iload_n (pc' := 29) C 1 dX6_write_28 rfl rfl rfl ?_
      obtain ⟨_, q29, h⟩ := bd h
      obtain ⟨v29, M29, e29, h⟩ := bd2 h
      refine J_cV (pc' := 32) (st := []) (st2 := [.int v29]) (cs2 := 0) (sl2 := 0) C 2 rfl rfl q29 (ok_X2_writeWord N e29) mw_X2_writeWord wq_662 rfl dX6_write_29 rfl rfl (Nat.le_of_ble_eq_true rfl) (by decide) (by decide) rfl rfl rfl (Nat.zero_le _) (Nat.zero_le _) ?_
      refine J_if_eq (tgt := 45) (pc' := 35) C dX6_write_32 (by decide) rfl (fun c32 => ?_) (fun c32 => ?_)
      · rw [if_pos c32] at h
        refine J_bipush (pc' := 47) (v := (-4 : Int32)) C dX6_write_45 rfl (by decide) ?_
        obtain ⟨rfl, rfl⟩ := rt2 h
        exact J_iret C dX6_write_47 (Nat.zero_le _) (Nat.zero_le _)
      · rw [if_neg c32] at h
        refine J_aload_n (pc' := 36) C 0 dX6_write_35 rfl rfl rfl ?_
        obtain ⟨v36, e36, h⟩ := bd h
        refine jg_195 (pc' := 39) C dX6_write_36 rfl (gR_some e36) ?_
        obtain ⟨v39, e39, h⟩ := bd h
        refine jg_125 (pc' := 42) C dX6_write_39 rfl (gI_some e39) ?_
        refine J_goto (tgt := 47) C dX6_write_42 (by decide) ?_
        obtain ⟨rfl, rfl⟩ := rt2 h
        exact J_iret C dX6_write_47 (Nat.zero_le _) (Nat.zero_le _)
    · rw [if_pos c14] at h
      refine J_bipush (pc' := 19) (v := (-3 : Int32)) C dX6_write_17 rfl (by decide) ?_
      obtain ⟨rfl, rfl⟩ := rt2 h
      exact J_iret C dX6_write_19 (Nat.zero_le _) (Nat.zero_le _)
  · rw [if_pos c5] at h
    refine J_iconst (pc' := 9) (v := (-1 : Int32)) C dX6_write_8 rfl (by decide) ?_
    obtain ⟨rfl, rfl⟩ := rt2 h
    exact J_iret C dX6_write_9 (Nat.zero_le _) (Nat.zero_le _)
def f_X6_put (N : Nat) (a0 : Nat) (a1 : Int32) (M : A_M) : Option (Int32 × A_M) :=
  (chk M a0 6).bind fun _ =>
  bnd2 (f_X6_isSign N a0 a1 M) fun v2 M2 =>
  if v2 = 0 then
  (some ((-1 : Int32), M2))
  else
  ((gR M2 a0 6 5).bind fun v11 =>
  (gI M2 v11 2 2).bind fun v14 =>
  if v14 < (200 : Int32) then
  ((gR M2 a0 6 5).bind fun v27 =>
  (chk M2 v27 2).bind fun _ =>
  (f_X2_putSign N v27 a1 M2).bind fun M31 =>
  (gR M31 a0 6 5).bind fun v35 =>
  (gI M31 v35 2 2).bind fun v38 =>
  some (v38, M31))
  else
  (some ((-4 : Int32), M2)))
set_option maxHeartbeats 4000000 in
set_option maxRecDepth 100000 in
theorem ok_X6_put (N : Nat) {a0 : Nat} {a1 : Int32} {M : A_M} {r : Int32} {M' : A_M} (h : f_X6_put N a0 a1 M = some (r, M')) : Runs yX6_put cX6_put 2 (some .int) 1 21 0 0 [.ref a0, .int a1] M (some (.int r)) M' := by
  refine Runs.intro (by decide) (Nat.le_of_ble_eq_true rfl) (fun X C hnm hMC hMS => ?_)
  have C : Cx X cX6_put RX6 2 (some .int) 1 21 := C
  show J X 2 0 [(0, .ref a0), (1, .int a1)] [] M 0 0 (some (.int r)) M'
  unfold f_X6_put at h
  refine J_aload_n (pc' := 1) C 0 dX6_put_0 rfl rfl rfl ?_
  refine J_iload_n (pc' := 2) C 1 dX6_put_1 rfl rfl rfl ?_
  obtain ⟨_, q2, h⟩ := bd h
  obtain ⟨v2, M2, e2, h⟩ := bd2 h
  refine J_cV (pc' := 5) (st := []) (st2 := [.int v2]) (cs2 := 0) (sl2 := 0) C 6 rfl rfl q2 (ok_X6_isSign N e2) mw_X6_isSign wq_290 rfl dX6_put_2 rfl rfl (Nat.le_of_ble_eq_true rfl) (by decide) (by decide) rfl rfl rfl (Nat.zero_le _) (Nat.zero_le _) ?_
  refine J_if_ne (tgt := 10) (pc' := 8) C dX6_put_5 (by decide) rfl (fun c5 => ?_) (fun c5 => ?_)
  · rw [if_neg c5] at h
    refine J_aload_n (pc' := 11) C 0 dX6_put_10 rfl rfl rfl ?_
    obtain ⟨v11, e11, h⟩ := bd h
    refine jg_195 (pc' := 14) C dX6_put_11 rfl (gR_some e11) ?_
    obtain ⟨v14, e14, h⟩ := bd h
    refine jg_125 (pc' := 17) C dX6_put_14 rfl (gI_some e14) ?_
    refine J_sipush (pc' := 20) (v := (200 : Int32)) C dX6_put_17 rfl (by decide) ?_
    refine J_icmp_lt (tgt := 26) (pc' := 23) C dX6_put_20 (by decide) rfl (fun c20 => ?_) (fun c20 => ?_)
    · rw [if_pos c20] at h
      refine J_aload_n (pc' := 27) C 0 dX6_put_26 rfl rfl rfl ?_
      obtain ⟨v27, e27, h⟩ := bd h
      refine jg_195 (pc' := 30) C dX6_put_27 rfl (gR_some e27) ?_
      refine J_iload_n (pc' := 31) C 1 dX6_put_30 rfl rfl rfl ?_
      obtain ⟨_, q31, h⟩ := bd h
      obtain ⟨M31, e31, h⟩ := bd h
      refine J_cV (pc' := 34) (st := []) (st2 := []) (cs2 := 0) (sl2 := 0) C 2 rfl rfl q31 (ok_X2_putSign N e31) mw_X2_putSign wq_675 rfl dX6_put_31 rfl rfl (Nat.le_of_ble_eq_true rfl) (by decide) (by decide) rfl rfl rfl (Nat.zero_le _) (Nat.zero_le _) ?_
      refine J_aload_n (pc' := 35) C 0 dX6_put_34 rfl rfl rfl ?_
      obtain ⟨v35, e35, h⟩ := bd h
      refine jg_195 (pc' := 38) C dX6_put_35 rfl (gR_some e35) ?_
      obtain ⟨v38, e38, h⟩ := bd h
      refine jg_125 (pc' := 41) C dX6_put_38 rfl (gI_some e38) ?_
      obtain ⟨rfl, rfl⟩ := rt2 h
      exact J_iret C dX6_put_41 (Nat.zero_le _) (Nat.zero_le _)
    · rw [if_neg c20] at h
      refine J_bipush (pc' := 25) (v := (-4 : Int32)) C dX6_put_23 rfl (by decide) ?_
      obtain ⟨rfl, rfl⟩ := rt2 h
      exact J_iret C dX6_put_25 (Nat.zero_le _) (Nat.zero_le _)
  · rw [if_pos c5] at h
    refine J_iconst (pc' := 9) (v := (-1 : Int32)) C dX6_put_8 rfl (by decide) ?_
    obtain ⟨rfl, rfl⟩ := rt2 h
    exact J_iret C dX6_put_9 (Nat.zero_le _) (Nat.zero_le _)
def f_X6_wipe (N : Nat) (a0 : Nat) (M : A_M) : Option (Int32 × A_M) :=
  (gR M a0 6 5).bind fun v1 =>
  (gI M v1 2 2).bind fun v4 =>
  (gR M a0 6 5).bind fun v9 =>
  (pV M v9 2 2 (.int (0 : Int32))).bind fun M13 =>
  some (v4, M13)
set_option maxHeartbeats 4000000 in
set_option maxRecDepth 100000 in
theorem ok_X6_wipe (N : Nat) {a0 : Nat} {M : A_M} {r : Int32} {M' : A_M} (h : f_X6_wipe N a0 M = some (r, M')) : Runs yX6_wipe cX6_wipe 2 (some .int) 0 0 0 0 [.ref a0] M (some (.int r)) M' := by
  refine Runs.intro (by decide) (Nat.le_of_ble_eq_true rfl) (fun X C hnm hMC hMS => ?_)
  have C : Cx X cX6_wipe RX6 2 (some .int) 0 0 := C
  show J X 2 0 [(0, .ref a0)] [] M 0 0 (some (.int r)) M'
  unfold f_X6_wipe at h
  refine J_aload_n (pc' := 1) C 0 dX6_wipe_0 rfl rfl rfl ?_
  obtain ⟨v1, e1, h⟩ := bd h
  refine jg_195 (pc' := 4) C dX6_wipe_1 rfl (gR_some e1) ?_
  obtain ⟨v4, e4, h⟩ := bd h
  refine jg_125 (pc' := 7) C dX6_wipe_4 rfl (gI_some e4) ?_
  refine J_istore_n (pc' := 8) (lv' := [(1, .int v4), (0, .ref a0)]) C dX6_wipe_7 rfl rfl (by decide) rfl ?_
  refine J_aload_n (pc' := 9) C 1 dX6_wipe_8 rfl rfl rfl ?_
  obtain ⟨v9, e9, h⟩ := bd h
  refine jg_195 (pc' := 12) C dX6_wipe_9 rfl (gR_some e9) ?_
  refine J_iconst (pc' := 13) (v := (0 : Int32)) C dX6_wipe_12 rfl (by decide) ?_
  obtain ⟨M13, e13, h⟩ := bd h
  refine jp_125 (pc' := 16) C (fun _ => ⟨rfl, rfl⟩) dX6_wipe_13 rfl e13 ?_
  refine J_iload_n (pc' := 17) C 0 dX6_wipe_16 rfl rfl rfl ?_
  obtain ⟨rfl, rfl⟩ := rt2 h
  exact J_iret C dX6_wipe_17 (Nat.zero_le _) (Nat.zero_le _)
def f_X6_line (N : Nat) (a0 : Nat) (a1 : Int32) (M : A_M) : Option (Int32 × A_M) :=
  if a1 < 0 then
  (some ((-6 : Int32), M))
  else
  ((gR M a0 6 5).bind fun v6 =>
  (gI M v6 2 2).bind fun v9 =>
  if a1 < v9 then
  ((gR M a0 6 5).bind fun v21 =>
  (gR M v21 2 0).bind fun v24 =>
  (ldI M v24 a1).bind fun v28 =>
  some (v28, M))
  else
  (some ((-6 : Int32), M)))
set_option maxHeartbeats 4000000 in
set_option maxRecDepth 100000 in
theorem ok_X6_line (N : Nat) {a0 : Nat} {a1 : Int32} {M : A_M} {r : Int32} {M' : A_M} (h : f_X6_line N a0 a1 M = some (r, M')) : Runs yX6_line cX6_line 2 (some .int) 0 0 0 0 [.ref a0, .int a1] M (some (.int r)) M' := by
  refine Runs.intro (by decide) (Nat.le_of_ble_eq_true rfl) (fun X C hnm hMC hMS => ?_)
  have C : Cx X cX6_line RX6 2 (some .int) 0 0 := C
  show J X 2 0 [(0, .ref a0), (1, .int a1)] [] M 0 0 (some (.int r)) M'
  unfold f_X6_line at h
  refine J_iload_n (pc' := 1) C 1 dX6_line_0 rfl rfl rfl ?_
  refine J_if_lt (tgt := 15) (pc' := 4) C dX6_line_1 (by decide) rfl (fun c1 => ?_) (fun c1 => ?_)
  · rw [if_pos c1] at h
    refine J_bipush (pc' := 17) (v := (-6 : Int32)) C dX6_line_15 rfl (by decide) ?_
    refine J_goto (tgt := 29) C dX6_line_17 (by decide) ?_
    obtain ⟨rfl, rfl⟩ := rt2 h
    exact J_iret C dX6_line_29 (Nat.zero_le _) (Nat.zero_le _)
  · rw [if_neg c1] at h
    refine J_iload_n (pc' := 5) C 1 dX6_line_4 rfl rfl rfl ?_
    refine J_aload_n (pc' := 6) C 0 dX6_line_5 rfl rfl rfl ?_
    obtain ⟨v6, e6, h⟩ := bd h
    refine jg_195 (pc' := 9) C dX6_line_6 rfl (gR_some e6) ?_
    obtain ⟨v9, e9, h⟩ := bd h
    refine jg_125 (pc' := 12) C dX6_line_9 rfl (gI_some e9) ?_
    refine J_icmp_lt (tgt := 20) (pc' := 15) C dX6_line_12 (by decide) rfl (fun c12 => ?_) (fun c12 => ?_)
    · rw [if_pos c12] at h
      refine J_aload_n (pc' := 21) C 0 dX6_line_20 rfl rfl rfl ?_
      obtain ⟨v21, e21, h⟩ := bd h
      refine jg_195 (pc' := 24) C dX6_line_21 rfl (gR_some e21) ?_
      obtain ⟨v24, e24, h⟩ := bd h
      refine jg_121 (pc' := 27) C dX6_line_24 rfl (gR_some e24) ?_
      refine J_iload_n (pc' := 28) C 1 dX6_line_27 rfl rfl rfl ?_
      obtain ⟨v28, e28, h⟩ := bd h
      refine J_iald (pc' := 29) C dX6_line_28 rfl e28 ?_
      obtain ⟨rfl, rfl⟩ := rt2 h
      exact J_iret C dX6_line_29 (Nat.zero_le _) (Nat.zero_le _)
    · rw [if_neg c12] at h
      refine J_bipush (pc' := 17) (v := (-6 : Int32)) C dX6_line_15 rfl (by decide) ?_
      refine J_goto (tgt := 29) C dX6_line_17 (by decide) ?_
      obtain ⟨rfl, rfl⟩ := rt2 h
      exact J_iret C dX6_line_29 (Nat.zero_le _) (Nat.zero_le _)
def f_X6_read_L32 (N : Nat) : Nat → Nat → Int32 → A_M → Option (Int32 × A_M)
  | 0, _, _, _ => none
  | n + 1, x0, x1, M =>
    if (200 : Int32) ≤ x1 then
    ((gR M x0 6 5).bind fun v74 =>
    (gI M v74 2 3).bind fun v77 =>
    some (v77, M))
    else
    ((gR M x0 6 5).bind fun v40 =>
    (chk M v40 2).bind fun _ =>
    bnd2 (f_X2_goesOn N v40 M) fun v43 M43 =>
    if v43 = 0 then
    ((gR M43 x0 6 5).bind fun v74 =>
    (gI M43 v74 2 3).bind fun v77 =>
    some (v77, M43))
    else
    ((gR M43 x0 6 5).bind fun v50 =>
    (gR M43 x0 6 7).bind fun v54 =>
    (chk M43 v50 2).bind fun _ =>
    bnd2 (f_X2_readWord N v50 v54 M43) fun v57 M57 =>
    if 0 ≤ v57 then
    (f_X6_read_L32 N n x0 (x1 + 1) M57)
    else
    (some (v57, M57))))
set_option maxHeartbeats 4000000 in
set_option maxRecDepth 100000 in
theorem ok_X6_read_L32 {X : JX} (C : Cx X cX6_read RX6 3 (some .int) 5 110) (N : Nat) : ∀ (n : Nat) (x0 : Nat) (x1 : Int32) (M : A_M) (r : Int32) (M' : A_M), f_X6_read_L32 N n x0 x1 M = some (r, M') → J X 3 32 [(0, .ref x0), (1, .int x1)] [] M 0 0 (some (.int r)) M' := by
  intro n
  induction n with
  | zero =>
    intro x0 x1 M r M' h
    cases h
  | succ n ih =>
    intro x0 x1 M r M' h
    rw [f_X6_read_L32] at h
    refine J_iload_n (pc' := 33) C 1 dX6_read_32 rfl rfl rfl ?_
    refine J_sipush (pc' := 36) (v := (200 : Int32)) C dX6_read_33 rfl (by decide) ?_
    refine J_icmp_ge (tgt := 73) (pc' := 39) C dX6_read_36 (by decide) rfl (fun c36 => ?_) (fun c36 => ?_)
    · rw [if_pos c36] at h
      refine J_aload_n (pc' := 74) C 0 dX6_read_73 rfl rfl rfl ?_
      obtain ⟨v74, e74, h⟩ := bd h
      refine jg_195 (pc' := 77) C dX6_read_74 rfl (gR_some e74) ?_
      obtain ⟨v77, e77, h⟩ := bd h
      refine jg_127 (pc' := 80) C dX6_read_77 rfl (gI_some e77) ?_
      obtain ⟨rfl, rfl⟩ := rt2 h
      exact J_iret C dX6_read_80 (Nat.zero_le _) (Nat.zero_le _)
    · rw [if_neg c36] at h
      refine J_aload_n (pc' := 40) C 0 dX6_read_39 rfl rfl rfl ?_
      obtain ⟨v40, e40, h⟩ := bd h
      refine jg_195 (pc' := 43) C dX6_read_40 rfl (gR_some e40) ?_
      obtain ⟨_, q43, h⟩ := bd h
      obtain ⟨v43, M43, e43, h⟩ := bd2 h
      refine J_cV (pc' := 46) (st := []) (st2 := [.int v43]) (cs2 := 0) (sl2 := 0) C 2 rfl rfl q43 (ok_X2_goesOn N e43) mw_X2_goesOn wq_692 rfl dX6_read_43 rfl rfl (Nat.le_of_ble_eq_true rfl) (by decide) (by decide) rfl rfl rfl (Nat.zero_le _) (Nat.zero_le _) ?_
      refine J_if_eq (tgt := 73) (pc' := 49) C dX6_read_46 (by decide) rfl (fun c46 => ?_) (fun c46 => ?_)
      · rw [if_pos c46] at h
        refine J_aload_n (pc' := 74) C 0 dX6_read_73 rfl rfl rfl ?_
        obtain ⟨v74, e74, h⟩ := bd h
        refine jg_195 (pc' := 77) C dX6_read_74 rfl (gR_some e74) ?_
        obtain ⟨v77, e77, h⟩ := bd h
        refine jg_127 (pc' := 80) C dX6_read_77 rfl (gI_some e77) ?_
        obtain ⟨rfl, rfl⟩ := rt2 h
        exact J_iret C dX6_read_80 (Nat.zero_le _) (Nat.zero_le _)
      · rw [if_neg c46] at h
        refine J_aload_n (pc' := 50) C 0 dX6_read_49 rfl rfl rfl ?_
        obtain ⟨v50, e50, h⟩ := bd h
        refine jg_195 (pc' := 53) C dX6_read_50 rfl (gR_some e50) ?_
        refine J_aload_n (pc' := 54) C 0 dX6_read_53 rfl rfl rfl ?_
        obtain ⟨v54, e54, h⟩ := bd h
        refine jg_197 (pc' := 57) C dX6_read_54 rfl (gR_some e54) ?_
        obtain ⟨_, q57, h⟩ := bd h
        obtain ⟨v57, M57, e57, h⟩ := bd2 h
        refine J_cV (pc' := 60) (st := []) (st2 := [.int v57]) (cs2 := 0) (sl2 := 0) C 2 rfl rfl q57 (ok_X2_readWord N e57) mw_X2_readWord wq_696 rfl dX6_read_57 rfl rfl (Nat.le_of_ble_eq_true rfl) (by decide) (by decide) rfl rfl rfl (Nat.zero_le _) (Nat.zero_le _) ?_
        refine J_istore_n (pc' := 61) (lv' := [(2, .int v57), (0, .ref x0), (1, .int x1)]) C dX6_read_60 rfl rfl (by decide) rfl ?_
        refine J_iload_n (pc' := 62) C 0 dX6_read_61 rfl rfl rfl ?_
        refine J_if_ge (tgt := 67) (pc' := 65) C dX6_read_62 (by decide) rfl (fun c62 => ?_) (fun c62 => ?_)
        · rw [if_pos c62] at h
          refine J_iinc (pc' := 70) (lv' := [(1, .int (x1 + 1)), (2, .int v57), (0, .ref x0)]) C 2 dX6_read_67 rfl rfl rfl (by decide) rfl ?_
          refine J_goto (tgt := 32) C dX6_read_70 (by decide) ?_
          refine J_sub (lv' := [(0, .ref x0), (1, .int (x1 + 1))]) [2, 0] rfl ?_
          exact ih _ _ _ _ _ h
        · rw [if_neg c62] at h
          refine J_iload_n (pc' := 66) C 0 dX6_read_65 rfl rfl rfl ?_
          obtain ⟨rfl, rfl⟩ := rt2 h
          exact J_iret C dX6_read_66 (Nat.zero_le _) (Nat.zero_le _)
def f_X6_read (N : Nat) (a0 : Nat) (M : A_M) : Option (Int32 × A_M) :=
  (chk M a0 6).bind fun _ =>
  bnd2 (f_X6_hasCode N a0 M) fun v1 M1 =>
  if v1 = 0 then
  (some ((-3 : Int32), M1))
  else
  ((gR M1 a0 6 7).bind fun v11 =>
  (chk M1 v11 0).bind fun _ =>
  bnd2 (f_X0_isFree N v11 M1) fun v14 M14 =>
  if v14 = 0 then
  (some ((-5 : Int32), M14))
  else
  ((gR M14 a0 6 5).bind fun v24 =>
  (chk M14 v24 2).bind fun _ =>
  (f_X2_beginReading N v24 M14).bind fun M27 =>
  f_X6_read_L32 N N a0 (0 : Int32) M27))
set_option maxHeartbeats 4000000 in
set_option maxRecDepth 100000 in
theorem ok_X6_read (N : Nat) {a0 : Nat} {M : A_M} {r : Int32} {M' : A_M} (h : f_X6_read N a0 M = some (r, M')) : Runs yX6_read cX6_read 3 (some .int) 5 110 0 0 [.ref a0] M (some (.int r)) M' := by
  refine Runs.intro (by decide) (Nat.le_of_ble_eq_true rfl) (fun X C hnm hMC hMS => ?_)
  have C : Cx X cX6_read RX6 3 (some .int) 5 110 := C
  show J X 3 0 [(0, .ref a0)] [] M 0 0 (some (.int r)) M'
  unfold f_X6_read at h
  refine J_aload_n (pc' := 1) C 0 dX6_read_0 rfl rfl rfl ?_
  obtain ⟨_, q1, h⟩ := bd h
  obtain ⟨v1, M1, e1, h⟩ := bd2 h
  refine J_cV (pc' := 4) (st := []) (st2 := [.int v1]) (cs2 := 0) (sl2 := 0) C 6 rfl rfl q1 (ok_X6_hasCode N e1) mw_X6_hasCode wq_562 rfl dX6_read_1 rfl rfl (Nat.le_of_ble_eq_true rfl) (by decide) (by decide) rfl rfl rfl (Nat.zero_le _) (Nat.zero_le _) ?_
  refine J_if_ne (tgt := 10) (pc' := 7) C dX6_read_4 (by decide) rfl (fun c4 => ?_) (fun c4 => ?_)
  · rw [if_neg c4] at h
    refine J_aload_n (pc' := 11) C 0 dX6_read_10 rfl rfl rfl ?_
    obtain ⟨v11, e11, h⟩ := bd h
    refine jg_197 (pc' := 14) C dX6_read_11 rfl (gR_some e11) ?_
    obtain ⟨_, q14, h⟩ := bd h
    obtain ⟨v14, M14, e14, h⟩ := bd2 h
    refine J_cV (pc' := 17) (st := []) (st2 := [.int v14]) (cs2 := 0) (sl2 := 0) C 0 rfl rfl q14 (ok_X0_isFree N e14) mw_X0_isFree wq_627 rfl dX6_read_14 rfl rfl (Nat.le_of_ble_eq_true rfl) (by decide) (by decide) rfl rfl rfl (Nat.zero_le _) (Nat.zero_le _) ?_
    refine J_if_ne (tgt := 23) (pc' := 20) C dX6_read_17 (by decide) rfl (fun c17 => ?_) (fun c17 => ?_)
    · rw [if_neg c17] at h
      refine J_aload_n (pc' := 24) C 0 dX6_read_23 rfl rfl rfl ?_
      obtain ⟨v24, e24, h⟩ := bd h
      refine jg_195 (pc' := 27) C dX6_read_24 rfl (gR_some e24) ?_
      obtain ⟨_, q27, h⟩ := bd h
      obtain ⟨M27, e27, h⟩ := bd h
      refine J_cV (pc' := 30) (st := []) (st2 := []) (cs2 := 0) (sl2 := 0) C 2 rfl rfl q27 (ok_X2_beginReading N e27) mw_X2_beginReading wq_688 rfl dX6_read_27 rfl rfl (Nat.le_of_ble_eq_true rfl) (by decide) (by decide) rfl rfl rfl (Nat.zero_le _) (Nat.zero_le _) ?_
      refine J_iconst (pc' := 31) (v := (0 : Int32)) C dX6_read_30 rfl (by decide) ?_
      refine J_istore_n (pc' := 32) (lv' := [(1, .int (0 : Int32)), (0, .ref a0)]) C dX6_read_31 rfl rfl (by decide) rfl ?_
      refine J_sub (lv' := [(0, .ref a0), (1, .int (0 : Int32))]) [1, 0] rfl ?_
      exact ok_X6_read_L32 C N N _ _ _ _ _ h
    · rw [if_pos c17] at h
      refine J_bipush (pc' := 22) (v := (-5 : Int32)) C dX6_read_20 rfl (by decide) ?_
      obtain ⟨rfl, rfl⟩ := rt2 h
      exact J_iret C dX6_read_22 (Nat.zero_le _) (Nat.zero_le _)
  · rw [if_pos c4] at h
    refine J_bipush (pc' := 9) (v := (-3 : Int32)) C dX6_read_7 rfl (by decide) ?_
    obtain ⟨rfl, rfl⟩ := rt2 h
    exact J_iret C dX6_read_9 (Nat.zero_le _) (Nat.zero_le _)
def f_X6_item (N : Nat) (a0 : Nat) (a1 : Int32) (M : A_M) : Option (Int32 × A_M) :=
  if a1 < 0 then
  (some ((-6 : Int32), M))
  else
  ((gR M a0 6 5).bind fun v6 =>
  (gI M v6 2 3).bind fun v9 =>
  if a1 < v9 then
  ((gR M a0 6 5).bind fun v21 =>
  (gR M v21 2 1).bind fun v24 =>
  (ldI M v24 a1).bind fun v28 =>
  some (v28, M))
  else
  (some ((-6 : Int32), M)))
set_option maxHeartbeats 4000000 in
set_option maxRecDepth 100000 in
theorem ok_X6_item (N : Nat) {a0 : Nat} {a1 : Int32} {M : A_M} {r : Int32} {M' : A_M} (h : f_X6_item N a0 a1 M = some (r, M')) : Runs yX6_item cX6_item 2 (some .int) 0 0 0 0 [.ref a0, .int a1] M (some (.int r)) M' := by
  refine Runs.intro (by decide) (Nat.le_of_ble_eq_true rfl) (fun X C hnm hMC hMS => ?_)
  have C : Cx X cX6_item RX6 2 (some .int) 0 0 := C
  show J X 2 0 [(0, .ref a0), (1, .int a1)] [] M 0 0 (some (.int r)) M'
  unfold f_X6_item at h
  refine J_iload_n (pc' := 1) C 1 dX6_item_0 rfl rfl rfl ?_
  refine J_if_lt (tgt := 15) (pc' := 4) C dX6_item_1 (by decide) rfl (fun c1 => ?_) (fun c1 => ?_)
  · rw [if_pos c1] at h
    refine J_bipush (pc' := 17) (v := (-6 : Int32)) C dX6_item_15 rfl (by decide) ?_
    refine J_goto (tgt := 29) C dX6_item_17 (by decide) ?_
    obtain ⟨rfl, rfl⟩ := rt2 h
    exact J_iret C dX6_item_29 (Nat.zero_le _) (Nat.zero_le _)
  · rw [if_neg c1] at h
    refine J_iload_n (pc' := 5) C 1 dX6_item_4 rfl rfl rfl ?_
    refine J_aload_n (pc' := 6) C 0 dX6_item_5 rfl rfl rfl ?_
    obtain ⟨v6, e6, h⟩ := bd h
    refine jg_195 (pc' := 9) C dX6_item_6 rfl (gR_some e6) ?_
    obtain ⟨v9, e9, h⟩ := bd h
    refine jg_127 (pc' := 12) C dX6_item_9 rfl (gI_some e9) ?_
    refine J_icmp_lt (tgt := 20) (pc' := 15) C dX6_item_12 (by decide) rfl (fun c12 => ?_) (fun c12 => ?_)
    · rw [if_pos c12] at h
      refine J_aload_n (pc' := 21) C 0 dX6_item_20 rfl rfl rfl ?_
      obtain ⟨v21, e21, h⟩ := bd h
      refine jg_195 (pc' := 24) C dX6_item_21 rfl (gR_some e21) ?_
      obtain ⟨v24, e24, h⟩ := bd h
      refine jg_123 (pc' := 27) C dX6_item_24 rfl (gR_some e24) ?_
      refine J_iload_n (pc' := 28) C 1 dX6_item_27 rfl rfl rfl ?_
      obtain ⟨v28, e28, h⟩ := bd h
      refine J_iald (pc' := 29) C dX6_item_28 rfl e28 ?_
      obtain ⟨rfl, rfl⟩ := rt2 h
      exact J_iret C dX6_item_29 (Nat.zero_le _) (Nat.zero_le _)
    · rw [if_neg c12] at h
      refine J_bipush (pc' := 17) (v := (-6 : Int32)) C dX6_item_15 rfl (by decide) ?_
      refine J_goto (tgt := 29) C dX6_item_17 (by decide) ?_
      obtain ⟨rfl, rfl⟩ := rt2 h
      exact J_iret C dX6_item_29 (Nat.zero_le _) (Nat.zero_le _)
def f_X6_isGrowing (N : Nat) (a0 : Nat) (M : A_M) : Option (Int32 × A_M) :=
  (chk M a0 6).bind fun _ =>
  bnd2 (f_X6_hasCode N a0 M) fun v1 M1 =>
  if v1 = 0 then
  (some ((0 : Int32), M1))
  else
  ((gI M1 a0 6 12).bind fun v8 =>
  if v8 = (2 : Int32) then
  (some ((1 : Int32), M1))
  else
  (some ((0 : Int32), M1)))
set_option maxHeartbeats 4000000 in
set_option maxRecDepth 100000 in
theorem ok_X6_isGrowing (N : Nat) {a0 : Nat} {M : A_M} {r : Int32} {M' : A_M} (h : f_X6_isGrowing N a0 M = some (r, M')) : Runs yX6_isGrowing cX6_isGrowing 1 (some .boolean) 1 20 0 0 [.ref a0] M (some (.int r)) M' := by
  refine Runs.intro (by decide) (Nat.le_of_ble_eq_true rfl) (fun X C hnm hMC hMS => ?_)
  have C : Cx X cX6_isGrowing RX6 1 (some .boolean) 1 20 := C
  show J X 1 0 [(0, .ref a0)] [] M 0 0 (some (.int r)) M'
  unfold f_X6_isGrowing at h
  refine J_aload_n (pc' := 1) C 0 dX6_isGrowing_0 rfl rfl rfl ?_
  obtain ⟨_, q1, h⟩ := bd h
  obtain ⟨v1, M1, e1, h⟩ := bd2 h
  refine J_cV (pc' := 4) (st := []) (st2 := [.int v1]) (cs2 := 0) (sl2 := 0) C 6 rfl rfl q1 (ok_X6_hasCode N e1) mw_X6_hasCode wq_562 rfl dX6_isGrowing_1 rfl rfl (Nat.le_of_ble_eq_true rfl) (by decide) (by decide) rfl rfl rfl (Nat.zero_le _) (Nat.zero_le _) ?_
  refine J_if_eq (tgt := 19) (pc' := 7) C dX6_isGrowing_4 (by decide) rfl (fun c4 => ?_) (fun c4 => ?_)
  · rw [if_pos c4] at h
    refine J_iconst (pc' := 20) (v := (0 : Int32)) C dX6_isGrowing_19 rfl (by decide) ?_
    obtain ⟨rfl, rfl⟩ := rt2 h
    exact J_zret C rfl dX6_isGrowing_20 (Nat.zero_le _) (Nat.zero_le _)
  · rw [if_neg c4] at h
    refine J_aload_n (pc' := 8) C 0 dX6_isGrowing_7 rfl rfl rfl ?_
    obtain ⟨v8, e8, h⟩ := bd h
    refine jg_202 (pc' := 11) C dX6_isGrowing_8 rfl (gI_some e8) ?_
    refine J_iconst (pc' := 12) (v := (2 : Int32)) C dX6_isGrowing_11 rfl (by decide) ?_
    refine J_icmp_ne (tgt := 19) (pc' := 15) C dX6_isGrowing_12 (by decide) rfl (fun c12 => ?_) (fun c12 => ?_)
    · rw [if_neg c12] at h
      refine J_iconst (pc' := 20) (v := (0 : Int32)) C dX6_isGrowing_19 rfl (by decide) ?_
      obtain ⟨rfl, rfl⟩ := rt2 h
      exact J_zret C rfl dX6_isGrowing_20 (Nat.zero_le _) (Nat.zero_le _)
    · rw [if_pos c12] at h
      refine J_iconst (pc' := 16) (v := (1 : Int32)) C dX6_isGrowing_15 rfl (by decide) ?_
      refine J_goto (tgt := 20) C dX6_isGrowing_16 (by decide) ?_
      obtain ⟨rfl, rfl⟩ := rt2 h
      exact J_zret C rfl dX6_isGrowing_20 (Nat.zero_le _) (Nat.zero_le _)
def f_X6_grown (N : Nat) (a0 : Nat) (a1 : Int32) (M : A_M) : Option (Int32 × A_M) :=
  (chk M a0 6).bind fun _ =>
  bnd2 (f_X6_isThing N a0 a1 M) fun v2 M2 =>
  if v2 = 0 then
  (some ((-1 : Int32), M2))
  else
  ((chk M2 a0 6).bind fun _ =>
  bnd2 (f_X6_isGrowing N a0 M2) fun v11 M11 =>
  if v11 = 0 then
  (some ((-3 : Int32), M11))
  else
  ((gR M11 a0 6 3).bind fun v18 =>
  (ldI M11 v18 a1).bind fun v22 =>
  some (v22, M11)))
set_option maxHeartbeats 4000000 in
set_option maxRecDepth 100000 in
theorem ok_X6_grown (N : Nat) {a0 : Nat} {a1 : Int32} {M : A_M} {r : Int32} {M' : A_M} (h : f_X6_grown N a0 a1 M = some (r, M')) : Runs yX6_grown cX6_grown 2 (some .int) 2 40 0 0 [.ref a0, .int a1] M (some (.int r)) M' := by
  refine Runs.intro (by decide) (Nat.le_of_ble_eq_true rfl) (fun X C hnm hMC hMS => ?_)
  have C : Cx X cX6_grown RX6 2 (some .int) 2 40 := C
  show J X 2 0 [(0, .ref a0), (1, .int a1)] [] M 0 0 (some (.int r)) M'
  unfold f_X6_grown at h
  refine J_aload_n (pc' := 1) C 0 dX6_grown_0 rfl rfl rfl ?_
  refine J_iload_n (pc' := 2) C 1 dX6_grown_1 rfl rfl rfl ?_
  obtain ⟨_, q2, h⟩ := bd h
  obtain ⟨v2, M2, e2, h⟩ := bd2 h
  refine J_cV (pc' := 5) (st := []) (st2 := [.int v2]) (cs2 := 0) (sl2 := 0) C 6 rfl rfl q2 (ok_X6_isThing N e2) mw_X6_isThing wq_278 rfl dX6_grown_2 rfl rfl (Nat.le_of_ble_eq_true rfl) (by decide) (by decide) rfl rfl rfl (Nat.zero_le _) (Nat.zero_le _) ?_
  refine J_if_ne (tgt := 10) (pc' := 8) C dX6_grown_5 (by decide) rfl (fun c5 => ?_) (fun c5 => ?_)
  · rw [if_neg c5] at h
    refine J_aload_n (pc' := 11) C 0 dX6_grown_10 rfl rfl rfl ?_
    obtain ⟨_, q11, h⟩ := bd h
    obtain ⟨v11, M11, e11, h⟩ := bd2 h
    refine J_cV (pc' := 14) (st := []) (st2 := [.int v11]) (cs2 := 0) (sl2 := 0) C 6 rfl rfl q11 (ok_X6_isGrowing N e11) mw_X6_isGrowing wq_717 rfl dX6_grown_11 rfl rfl (Nat.le_of_ble_eq_true rfl) (by decide) (by decide) rfl rfl rfl (Nat.zero_le _) (Nat.zero_le _) ?_
    refine J_if_eq (tgt := 26) (pc' := 17) C dX6_grown_14 (by decide) rfl (fun c14 => ?_) (fun c14 => ?_)
    · rw [if_pos c14] at h
      refine J_bipush (pc' := 28) (v := (-3 : Int32)) C dX6_grown_26 rfl (by decide) ?_
      obtain ⟨rfl, rfl⟩ := rt2 h
      exact J_iret C dX6_grown_28 (Nat.zero_le _) (Nat.zero_le _)
    · rw [if_neg c14] at h
      refine J_aload_n (pc' := 18) C 0 dX6_grown_17 rfl rfl rfl ?_
      obtain ⟨v18, e18, h⟩ := bd h
      refine jg_193 (pc' := 21) C dX6_grown_18 rfl (gR_some e18) ?_
      refine J_iload_n (pc' := 22) C 1 dX6_grown_21 rfl rfl rfl ?_
      obtain ⟨v22, e22, h⟩ := bd h
      refine J_iald (pc' := 23) C dX6_grown_22 rfl e22 ?_
      refine J_goto (tgt := 28) C dX6_grown_23 (by decide) ?_
      obtain ⟨rfl, rfl⟩ := rt2 h
      exact J_iret C dX6_grown_28 (Nat.zero_le _) (Nat.zero_le _)
  · rw [if_pos c5] at h
    refine J_iconst (pc' := 9) (v := (-1 : Int32)) C dX6_grown_8 rfl (by decide) ?_
    obtain ⟨rfl, rfl⟩ := rt2 h
    exact J_iret C dX6_grown_9 (Nat.zero_le _) (Nat.zero_le _)
def f_X6_stepSign (N : Nat) (a0 : Nat) (a1 : Int32) (M : A_M) : Option (Int32 × A_M) :=
  (gN M a0 6 17).bind fun v1 =>
  match v1 with
  | none =>
  (some ((-6 : Int32), M))
  | some _ =>
  ((gR M a0 6 17).bind fun v13 =>
  (chk M v13 5).bind fun _ =>
  bnd2 (f_X5_signOfStep N v13 a1 M) fun v17 M17 =>
  some (v17, M17))
set_option maxHeartbeats 4000000 in
set_option maxRecDepth 100000 in
theorem ok_X6_stepSign (N : Nat) {a0 : Nat} {a1 : Int32} {M : A_M} {r : Int32} {M' : A_M} (h : f_X6_stepSign N a0 a1 M = some (r, M')) : Runs yX6_stepSign cX6_stepSign 2 (some .int) 1 23 0 0 [.ref a0, .int a1] M (some (.int r)) M' := by
  refine Runs.intro (by decide) (Nat.le_of_ble_eq_true rfl) (fun X C hnm hMC hMS => ?_)
  have C : Cx X cX6_stepSign RX6 2 (some .int) 1 23 := C
  show J X 2 0 [(0, .ref a0), (1, .int a1)] [] M 0 0 (some (.int r)) M'
  unfold f_X6_stepSign at h
  refine J_aload_n (pc' := 1) C 0 dX6_stepSign_0 rfl rfl rfl ?_
  obtain ⟨v1, e1, h⟩ := bd h
  cases v1 with
  | none =>
    refine jg_207 (pc' := 4) C dX6_stepSign_1 rfl (gN_null e1) ?_
    refine J_ifnonnullN (pc' := 7) C dX6_stepSign_4 rfl ?_
    dsimp only at h
    refine J_bipush (pc' := 9) (v := (-6 : Int32)) C dX6_stepSign_7 rfl (by decide) ?_
    refine J_goto (tgt := 20) C dX6_stepSign_9 (by decide) ?_
    obtain ⟨rfl, rfl⟩ := rt2 h
    exact J_iret C dX6_stepSign_20 (Nat.zero_le _) (Nat.zero_le _)
  | some x4 =>
    refine jg_207 (pc' := 4) C dX6_stepSign_1 rfl (gN_some e1) ?_
    refine J_ifnonnull (tgt := 12) C dX6_stepSign_4 (by decide) ?_
    dsimp only at h
    refine J_aload_n (pc' := 13) C 0 dX6_stepSign_12 rfl rfl rfl ?_
    obtain ⟨v13, e13, h⟩ := bd h
    refine jg_207 (pc' := 16) C dX6_stepSign_13 rfl (gR_some e13) ?_
    refine J_iload_n (pc' := 17) C 1 dX6_stepSign_16 rfl rfl rfl ?_
    obtain ⟨_, q17, h⟩ := bd h
    obtain ⟨v17, M17, e17, h⟩ := bd2 h
    refine J_cV (pc' := 20) (st := []) (st2 := [.int v17]) (cs2 := 0) (sl2 := 0) C 5 rfl rfl q17 (ok_X5_signOfStep N e17) mw_X5_signOfStep wq_824 rfl dX6_stepSign_17 rfl rfl (Nat.le_of_ble_eq_true rfl) (by decide) (by decide) rfl rfl rfl (Nat.zero_le _) (Nat.zero_le _) ?_
    obtain ⟨rfl, rfl⟩ := rt2 h
    exact J_iret C dX6_stepSign_20 (Nat.zero_le _) (Nat.zero_le _)
def f_X6_isPlace (N : Nat) (a0 : Int32) (M : A_M) : Option (Int32 × A_M) :=
  if a0 < 0 then
  (some ((0 : Int32), M))
  else
  (if (8 : Int32) ≤ a0 then
  (some ((0 : Int32), M))
  else
  (some ((1 : Int32), M)))
set_option maxHeartbeats 4000000 in
set_option maxRecDepth 100000 in
theorem ok_X6_isPlace (N : Nat) {a0 : Int32} {M : A_M} {r : Int32} {M' : A_M} (h : f_X6_isPlace N a0 M = some (r, M')) : Runs yX6_isPlace cX6_isPlace 1 (some .boolean) 0 0 0 0 [.int a0] M (some (.int r)) M' := by
  refine Runs.intro (by decide) (Nat.le_of_ble_eq_true rfl) (fun X C hnm hMC hMS => ?_)
  have C : Cx X cX6_isPlace RX6 1 (some .boolean) 0 0 := C
  show J X 1 0 [(0, .int a0)] [] M 0 0 (some (.int r)) M'
  unfold f_X6_isPlace at h
  refine J_iload_n (pc' := 1) C 0 dX6_isPlace_0 rfl rfl rfl ?_
  refine J_if_lt (tgt := 14) (pc' := 4) C dX6_isPlace_1 (by decide) rfl (fun c1 => ?_) (fun c1 => ?_)
  · rw [if_pos c1] at h
    refine J_iconst (pc' := 15) (v := (0 : Int32)) C dX6_isPlace_14 rfl (by decide) ?_
    obtain ⟨rfl, rfl⟩ := rt2 h
    exact J_zret C rfl dX6_isPlace_15 (Nat.zero_le _) (Nat.zero_le _)
  · rw [if_neg c1] at h
    refine J_iload_n (pc' := 5) C 0 dX6_isPlace_4 rfl rfl rfl ?_
    refine J_bipush (pc' := 7) (v := (8 : Int32)) C dX6_isPlace_5 rfl (by decide) ?_
    refine J_icmp_ge (tgt := 14) (pc' := 10) C dX6_isPlace_7 (by decide) rfl (fun c7 => ?_) (fun c7 => ?_)
    · rw [if_pos c7] at h
      refine J_iconst (pc' := 15) (v := (0 : Int32)) C dX6_isPlace_14 rfl (by decide) ?_
      obtain ⟨rfl, rfl⟩ := rt2 h
      exact J_zret C rfl dX6_isPlace_15 (Nat.zero_le _) (Nat.zero_le _)
    · rw [if_neg c7] at h
      refine J_iconst (pc' := 11) (v := (1 : Int32)) C dX6_isPlace_10 rfl (by decide) ?_
      refine J_goto (tgt := 15) C dX6_isPlace_11 (by decide) ?_
      obtain ⟨rfl, rfl⟩ := rt2 h
      exact J_zret C rfl dX6_isPlace_15 (Nat.zero_le _) (Nat.zero_le _)
def f_X6_keep (N : Nat) (a0 : Nat) (a1 : Int32) (M : A_M) : Option (Int32 × A_M) :=
  bnd2 (f_X6_isPlace N a1 M) fun v1 M1 =>
  if v1 = 0 then
  (some ((-1 : Int32), M1))
  else
  ((chk M1 a0 6).bind fun _ =>
  bnd2 (f_X6_hasCode N a0 M1) fun v10 M10 =>
  if v10 = 0 then
  (some ((-3 : Int32), M10))
  else
  ((gR M10 a0 6 9).bind fun v20 =>
  (ldA M10 v20 a1).bind fun v24 =>
  (gR M10 a0 6 7).bind fun v26 =>
  (chk M10 v24 0).bind fun _ =>
  (f_X0_take N v24 v26 M10).bind fun M29 =>
  some ((1 : Int32), M29)))
set_option maxHeartbeats 4000000 in
set_option maxRecDepth 100000 in
theorem ok_X6_keep (N : Nat) {a0 : Nat} {a1 : Int32} {M : A_M} {r : Int32} {M' : A_M} (h : f_X6_keep N a0 a1 M = some (r, M')) : Runs yX6_keep cX6_keep 2 (some .int) 2 51 0 0 [.ref a0, .int a1] M (some (.int r)) M' := by
  refine Runs.intro (by decide) (Nat.le_of_ble_eq_true rfl) (fun X C hnm hMC hMS => ?_)
  have C : Cx X cX6_keep RX6 2 (some .int) 2 51 := C
  show J X 2 0 [(0, .ref a0), (1, .int a1)] [] M 0 0 (some (.int r)) M'
  unfold f_X6_keep at h
  refine J_iload_n (pc' := 1) C 1 dX6_keep_0 rfl rfl rfl ?_
  obtain ⟨v1, M1, e1, h⟩ := bd2 h
  refine J_cS (pc' := 4) (st := []) (st2 := [.int v1]) (cs2 := 0) (sl2 := 0) C (ok_X6_isPlace N e1) mw_X6_isPlace wq_832 rfl dX6_keep_1 rfl rfl (Nat.le_of_ble_eq_true rfl) (by decide) (by decide) rfl rfl rfl (Nat.zero_le _) (Nat.zero_le _) ?_
  refine J_if_ne (tgt := 9) (pc' := 7) C dX6_keep_4 (by decide) rfl (fun c4 => ?_) (fun c4 => ?_)
  · rw [if_neg c4] at h
    refine J_aload_n (pc' := 10) C 0 dX6_keep_9 rfl rfl rfl ?_
    obtain ⟨_, q10, h⟩ := bd h
    obtain ⟨v10, M10, e10, h⟩ := bd2 h
    refine J_cV (pc' := 13) (st := []) (st2 := [.int v10]) (cs2 := 0) (sl2 := 0) C 6 rfl rfl q10 (ok_X6_hasCode N e10) mw_X6_hasCode wq_562 rfl dX6_keep_10 rfl rfl (Nat.le_of_ble_eq_true rfl) (by decide) (by decide) rfl rfl rfl (Nat.zero_le _) (Nat.zero_le _) ?_
    refine J_if_ne (tgt := 19) (pc' := 16) C dX6_keep_13 (by decide) rfl (fun c13 => ?_) (fun c13 => ?_)
    · rw [if_neg c13] at h
      refine J_aload_n (pc' := 20) C 0 dX6_keep_19 rfl rfl rfl ?_
      obtain ⟨v20, e20, h⟩ := bd h
      refine jg_199 (pc' := 23) C dX6_keep_20 rfl (gR_some e20) ?_
      refine J_iload_n (pc' := 24) C 1 dX6_keep_23 rfl rfl rfl ?_
      obtain ⟨v24, e24, h⟩ := bd h
      refine J_aald (pc' := 25) C dX6_keep_24 rfl e24 ?_
      refine J_aload_n (pc' := 26) C 0 dX6_keep_25 rfl rfl rfl ?_
      obtain ⟨v26, e26, h⟩ := bd h
      refine jg_197 (pc' := 29) C dX6_keep_26 rfl (gR_some e26) ?_
      obtain ⟨_, q29, h⟩ := bd h
      obtain ⟨M29, e29, h⟩ := bd h
      refine J_cV (pc' := 32) (st := []) (st2 := []) (cs2 := 0) (sl2 := 0) C 0 rfl rfl q29 (ok_X0_take N e29) mw_X0_take wq_542 rfl dX6_keep_29 rfl rfl (Nat.le_of_ble_eq_true rfl) (by decide) (by decide) rfl rfl rfl (Nat.zero_le _) (Nat.zero_le _) ?_
      refine J_iconst (pc' := 33) (v := (1 : Int32)) C dX6_keep_32 rfl (by decide) ?_
      obtain ⟨rfl, rfl⟩ := rt2 h
      exact J_iret C dX6_keep_33 (Nat.zero_le _) (Nat.zero_le _)
    · rw [if_pos c13] at h
      refine J_bipush (pc' := 18) (v := (-3 : Int32)) C dX6_keep_16 rfl (by decide) ?_
      obtain ⟨rfl, rfl⟩ := rt2 h
      exact J_iret C dX6_keep_18 (Nat.zero_le _) (Nat.zero_le _)
  · rw [if_pos c4] at h
    refine J_iconst (pc' := 8) (v := (-1 : Int32)) C dX6_keep_7 rfl (by decide) ?_
    obtain ⟨rfl, rfl⟩ := rt2 h
    exact J_iret C dX6_keep_8 (Nat.zero_le _) (Nat.zero_le _)
def f_X6_isKept (N : Nat) (a0 : Nat) (a1 : Int32) (M : A_M) : Option (Int32 × A_M) :=
  bnd2 (f_X6_isPlace N a1 M) fun v1 M1 =>
  if v1 = 0 then
  (some ((0 : Int32), M1))
  else
  ((gR M1 a0 6 9).bind fun v8 =>
  (ldA M1 v8 a1).bind fun v12 =>
  (gI M1 v12 0 2).bind fun v13 =>
  if v13 ≤ 0 then
  (some ((0 : Int32), M1))
  else
  (some ((1 : Int32), M1)))
set_option maxHeartbeats 4000000 in
set_option maxRecDepth 100000 in
theorem ok_X6_isKept (N : Nat) {a0 : Nat} {a1 : Int32} {M : A_M} {r : Int32} {M' : A_M} (h : f_X6_isKept N a0 a1 M = some (r, M')) : Runs yX6_isKept cX6_isKept 2 (some .boolean) 1 20 0 0 [.ref a0, .int a1] M (some (.int r)) M' := by
  refine Runs.intro (by decide) (Nat.le_of_ble_eq_true rfl) (fun X C hnm hMC hMS => ?_)
  have C : Cx X cX6_isKept RX6 2 (some .boolean) 1 20 := C
  show J X 2 0 [(0, .ref a0), (1, .int a1)] [] M 0 0 (some (.int r)) M'
  unfold f_X6_isKept at h
  refine J_iload_n (pc' := 1) C 1 dX6_isKept_0 rfl rfl rfl ?_
  obtain ⟨v1, M1, e1, h⟩ := bd2 h
  refine J_cS (pc' := 4) (st := []) (st2 := [.int v1]) (cs2 := 0) (sl2 := 0) C (ok_X6_isPlace N e1) mw_X6_isPlace wq_832 rfl dX6_isKept_1 rfl rfl (Nat.le_of_ble_eq_true rfl) (by decide) (by decide) rfl rfl rfl (Nat.zero_le _) (Nat.zero_le _) ?_
  refine J_if_eq (tgt := 23) (pc' := 7) C dX6_isKept_4 (by decide) rfl (fun c4 => ?_) (fun c4 => ?_)
  · rw [if_pos c4] at h
    refine J_iconst (pc' := 24) (v := (0 : Int32)) C dX6_isKept_23 rfl (by decide) ?_
    obtain ⟨rfl, rfl⟩ := rt2 h
    exact J_zret C rfl dX6_isKept_24 (Nat.zero_le _) (Nat.zero_le _)
  · rw [if_neg c4] at h
    refine J_aload_n (pc' := 8) C 0 dX6_isKept_7 rfl rfl rfl ?_
    obtain ⟨v8, e8, h⟩ := bd h
    refine jg_199 (pc' := 11) C dX6_isKept_8 rfl (gR_some e8) ?_
    refine J_iload_n (pc' := 12) C 1 dX6_isKept_11 rfl rfl rfl ?_
    obtain ⟨v12, e12, h⟩ := bd h
    refine J_aald (pc' := 13) C dX6_isKept_12 rfl e12 ?_
    obtain ⟨v13, e13, h⟩ := bd h
    refine jg_181 (pc' := 16) C dX6_isKept_13 rfl (gI_some e13) ?_
    refine J_if_le (tgt := 23) (pc' := 19) C dX6_isKept_16 (by decide) rfl (fun c16 => ?_) (fun c16 => ?_)
    · rw [if_pos c16] at h
      refine J_iconst (pc' := 24) (v := (0 : Int32)) C dX6_isKept_23 rfl (by decide) ?_
      obtain ⟨rfl, rfl⟩ := rt2 h
      exact J_zret C rfl dX6_isKept_24 (Nat.zero_le _) (Nat.zero_le _)
    · rw [if_neg c16] at h
      refine J_iconst (pc' := 20) (v := (1 : Int32)) C dX6_isKept_19 rfl (by decide) ?_
      refine J_goto (tgt := 24) C dX6_isKept_20 (by decide) ?_
      obtain ⟨rfl, rfl⟩ := rt2 h
      exact J_zret C rfl dX6_isKept_24 (Nat.zero_le _) (Nat.zero_le _)
def f_X6_back (N : Nat) (a0 : Nat) (a1 : Int32) (M : A_M) : Option (Int32 × A_M) :=
  (chk M a0 6).bind fun _ =>
  bnd2 (f_X6_isKept N a0 a1 M) fun v2 M2 =>
  if v2 = 0 then
  (some ((-1 : Int32), M2))
  else
  ((gR M2 a0 6 9).bind fun v11 =>
  (ldA M2 v11 a1).bind fun v15 =>
  (gI M2 v15 0 2).bind fun v16 =>
  (gI M2 a0 6 11).bind fun v20 =>
  if v16 = v20 then
  ((gR M2 a0 6 9).bind fun v31 =>
  (ldA M2 v31 a1).bind fun v35 =>
  (chk M2 a0 6).bind fun _ =>
  (f_X6_handOver N a0 v35 M2).bind fun M36 =>
  some ((1 : Int32), M36))
  else
  (some ((-3 : Int32), M2)))
set_option maxHeartbeats 4000000 in
set_option maxRecDepth 100000 in
theorem ok_X6_back (N : Nat) {a0 : Nat} {a1 : Int32} {M : A_M} {r : Int32} {M' : A_M} (h : f_X6_back N a0 a1 M = some (r, M')) : Runs yX6_back cX6_back 2 (some .int) 3 72 0 0 [.ref a0, .int a1] M (some (.int r)) M' := by
  refine Runs.intro (by decide) (Nat.le_of_ble_eq_true rfl) (fun X C hnm hMC hMS => ?_)
  have C : Cx X cX6_back RX6 2 (some .int) 3 72 := C
  show J X 2 0 [(0, .ref a0), (1, .int a1)] [] M 0 0 (some (.int r)) M'
  unfold f_X6_back at h
  refine J_aload_n (pc' := 1) C 0 dX6_back_0 rfl rfl rfl ?_
  refine J_iload_n (pc' := 2) C 1 dX6_back_1 rfl rfl rfl ?_
  obtain ⟨_, q2, h⟩ := bd h
  obtain ⟨v2, M2, e2, h⟩ := bd2 h
  refine J_cV (pc' := 5) (st := []) (st2 := [.int v2]) (cs2 := 0) (sl2 := 0) C 6 rfl rfl q2 (ok_X6_isKept N e2) mw_X6_isKept wq_839 rfl dX6_back_2 rfl rfl (Nat.le_of_ble_eq_true rfl) (by decide) (by decide) rfl rfl rfl (Nat.zero_le _) (Nat.zero_le _) ?_
  refine J_if_ne (tgt := 10) (pc' := 8) C dX6_back_5 (by decide) rfl (fun c5 => ?_) (fun c5 => ?_)
  · rw [if_neg c5] at h
    refine J_aload_n (pc' := 11) C 0 dX6_back_10 rfl rfl rfl ?_
    obtain ⟨v11, e11, h⟩ := bd h
    refine jg_199 (pc' := 14) C dX6_back_11 rfl (gR_some e11) ?_
    refine J_iload_n (pc' := 15) C 1 dX6_back_14 rfl rfl rfl ?_
    obtain ⟨v15, e15, h⟩ := bd h
    refine J_aald (pc' := 16) C dX6_back_15 rfl e15 ?_
    obtain ⟨v16, e16, h⟩ := bd h
    refine jg_181 (pc' := 19) C dX6_back_16 rfl (gI_some e16) ?_
    refine J_aload_n (pc' := 20) C 0 dX6_back_19 rfl rfl rfl ?_
    obtain ⟨v20, e20, h⟩ := bd h
    refine jg_201 (pc' := 23) C dX6_back_20 rfl (gI_some e20) ?_
    refine J_icmp_eq (tgt := 29) (pc' := 26) C dX6_back_23 (by decide) rfl (fun c23 => ?_) (fun c23 => ?_)
    · rw [if_pos c23] at h
      refine J_aload_n (pc' := 30) C 0 dX6_back_29 rfl rfl rfl ?_
      refine J_aload_n (pc' := 31) C 0 dX6_back_30 rfl rfl rfl ?_
      obtain ⟨v31, e31, h⟩ := bd h
      refine jg_199 (pc' := 34) C dX6_back_31 rfl (gR_some e31) ?_
      refine J_iload_n (pc' := 35) C 1 dX6_back_34 rfl rfl rfl ?_
      obtain ⟨v35, e35, h⟩ := bd h
      refine J_aald (pc' := 36) C dX6_back_35 rfl e35 ?_
      obtain ⟨_, q36, h⟩ := bd h
      obtain ⟨M36, e36, h⟩ := bd h
      refine J_cV (pc' := 39) (st := []) (st2 := []) (cs2 := 0) (sl2 := 0) C 6 rfl rfl q36 (ok_X6_handOver N e36) mw_X6_handOver wq_538 rfl dX6_back_36 rfl rfl (Nat.le_of_ble_eq_true rfl) (by decide) (by decide) rfl rfl rfl (Nat.zero_le _) (Nat.zero_le _) ?_
      refine J_iconst (pc' := 40) (v := (1 : Int32)) C dX6_back_39 rfl (by decide) ?_
      obtain ⟨rfl, rfl⟩ := rt2 h
      exact J_iret C dX6_back_40 (Nat.zero_le _) (Nat.zero_le _)
    · rw [if_neg c23] at h
      refine J_bipush (pc' := 28) (v := (-3 : Int32)) C dX6_back_26 rfl (by decide) ?_
      obtain ⟨rfl, rfl⟩ := rt2 h
      exact J_iret C dX6_back_28 (Nat.zero_le _) (Nat.zero_le _)
  · rw [if_pos c5] at h
    refine J_iconst (pc' := 9) (v := (-1 : Int32)) C dX6_back_8 rfl (by decide) ?_
    obtain ⟨rfl, rfl⟩ := rt2 h
    exact J_iret C dX6_back_9 (Nat.zero_le _) (Nat.zero_le _)
def f_X6_differs_L29 (N : Nat) : Nat → Nat → Nat → Int32 → A_M → Option (Int32 × A_M)
  | 0, _, _, _, _ => none
  | n + 1, x0, x2, x3, M =>
    (gI M x2 0 2).bind fun v31 =>
    if v31 ≤ x3 then
    (some ((-6 : Int32), M))
    else
    ((gR M x0 6 7).bind fun v39 =>
    (gI M v39 0 2).bind fun v42 =>
    if v42 ≤ x3 then
    (some ((-6 : Int32), M))
    else
    ((gR M x2 0 1).bind fun v49 =>
    (ldI M v49 x3).bind fun v53 =>
    (gR M x0 6 7).bind fun v55 =>
    (gR M v55 0 1).bind fun v58 =>
    (ldI M v58 x3).bind fun v62 =>
    if v53 = v62 then
    ((gR M x2 0 0).bind fun v67 =>
    (ldJ M v67 x3).bind fun v71 =>
    (gR M x0 6 7).bind fun v73 =>
    (gR M v73 0 0).bind fun v76 =>
    (ldJ M v76 x3).bind fun v80 =>
    if (lg_cmp v71 v80) = 0 then
    (f_X6_differs_L29 N n x0 x2 (x3 + 1) M)
    else
    (some (x3, M)))
    else
    (some (x3, M))))
set_option maxHeartbeats 4000000 in
set_option maxRecDepth 100000 in
theorem ok_X6_differs_L29 {X : JX} (C : Cx X cX6_differs RX6 4 (some .int) 2 41) (N : Nat) : ∀ (n : Nat) (x0 : Nat) (x2 : Nat) (x3 : Int32) (M : A_M) (r : Int32) (M' : A_M), f_X6_differs_L29 N n x0 x2 x3 M = some (r, M') → J X 4 29 [(0, .ref x0), (2, .ref x2), (3, .int x3)] [] M 0 0 (some (.int r)) M' := by
  intro n
  induction n with
  | zero =>
    intro x0 x2 x3 M r M' h
    cases h
  | succ n ih =>
    intro x0 x2 x3 M r M' h
    rw [f_X6_differs_L29] at h
    refine J_iload_n (pc' := 30) C 2 dX6_differs_29 rfl rfl rfl ?_
    refine J_aload_n (pc' := 31) C 1 dX6_differs_30 rfl rfl rfl ?_
    obtain ⟨v31, e31, h⟩ := bd h
    refine jg_181 (pc' := 34) C dX6_differs_31 rfl (gI_some e31) ?_
    refine J_icmp_ge (tgt := 93) (pc' := 37) C dX6_differs_34 (by decide) rfl (fun c34 => ?_) (fun c34 => ?_)
    · rw [if_pos c34] at h
      refine J_bipush (pc' := 95) (v := (-6 : Int32)) C dX6_differs_93 rfl (by decide) ?_
      obtain ⟨rfl, rfl⟩ := rt2 h
      exact J_iret C dX6_differs_95 (Nat.zero_le _) (Nat.zero_le _)
    · rw [if_neg c34] at h
      refine J_iload_n (pc' := 38) C 2 dX6_differs_37 rfl rfl rfl ?_
      refine J_aload_n (pc' := 39) C 0 dX6_differs_38 rfl rfl rfl ?_
      obtain ⟨v39, e39, h⟩ := bd h
      refine jg_197 (pc' := 42) C dX6_differs_39 rfl (gR_some e39) ?_
      obtain ⟨v42, e42, h⟩ := bd h
      refine jg_181 (pc' := 45) C dX6_differs_42 rfl (gI_some e42) ?_
      refine J_icmp_ge (tgt := 93) (pc' := 48) C dX6_differs_45 (by decide) rfl (fun c45 => ?_) (fun c45 => ?_)
      · rw [if_pos c45] at h
        refine J_bipush (pc' := 95) (v := (-6 : Int32)) C dX6_differs_93 rfl (by decide) ?_
        obtain ⟨rfl, rfl⟩ := rt2 h
        exact J_iret C dX6_differs_95 (Nat.zero_le _) (Nat.zero_le _)
      · rw [if_neg c45] at h
        refine J_aload_n (pc' := 49) C 1 dX6_differs_48 rfl rfl rfl ?_
        obtain ⟨v49, e49, h⟩ := bd h
        refine jg_177 (pc' := 52) C dX6_differs_49 rfl (gR_some e49) ?_
        refine J_iload_n (pc' := 53) C 2 dX6_differs_52 rfl rfl rfl ?_
        obtain ⟨v53, e53, h⟩ := bd h
        refine J_iald (pc' := 54) C dX6_differs_53 rfl e53 ?_
        refine J_aload_n (pc' := 55) C 0 dX6_differs_54 rfl rfl rfl ?_
        obtain ⟨v55, e55, h⟩ := bd h
        refine jg_197 (pc' := 58) C dX6_differs_55 rfl (gR_some e55) ?_
        obtain ⟨v58, e58, h⟩ := bd h
        refine jg_177 (pc' := 61) C dX6_differs_58 rfl (gR_some e58) ?_
        refine J_iload_n (pc' := 62) C 2 dX6_differs_61 rfl rfl rfl ?_
        obtain ⟨v62, e62, h⟩ := bd h
        refine J_iald (pc' := 63) C dX6_differs_62 rfl e62 ?_
        refine J_icmp_ne (tgt := 85) (pc' := 66) C dX6_differs_63 (by decide) rfl (fun c63 => ?_) (fun c63 => ?_)
        · rw [if_neg c63] at h
          refine J_iload_n (pc' := 86) C 2 dX6_differs_85 rfl rfl rfl ?_
          obtain ⟨rfl, rfl⟩ := rt2 h
          exact J_iret C dX6_differs_86 (Nat.zero_le _) (Nat.zero_le _)
        · rw [if_pos c63] at h
          refine J_aload_n (pc' := 67) C 1 dX6_differs_66 rfl rfl rfl ?_
          obtain ⟨v67, e67, h⟩ := bd h
          refine jg_173 (pc' := 70) C dX6_differs_67 rfl (gR_some e67) ?_
          refine J_iload_n (pc' := 71) C 2 dX6_differs_70 rfl rfl rfl ?_
          obtain ⟨v71, e71, h⟩ := bd h
          refine J_lald (pc' := 72) C dX6_differs_71 rfl e71 ?_
          refine J_aload_n (pc' := 73) C 0 dX6_differs_72 rfl rfl rfl ?_
          obtain ⟨v73, e73, h⟩ := bd h
          refine jg_197 (pc' := 76) C dX6_differs_73 rfl (gR_some e73) ?_
          obtain ⟨v76, e76, h⟩ := bd h
          refine jg_173 (pc' := 79) C dX6_differs_76 rfl (gR_some e76) ?_
          refine J_iload_n (pc' := 80) C 2 dX6_differs_79 rfl rfl rfl ?_
          obtain ⟨v80, e80, h⟩ := bd h
          refine J_lald (pc' := 81) C dX6_differs_80 rfl e80 ?_
          refine J_lcmp (pc' := 82) C dX6_differs_81 rfl ?_
          refine J_if_eq (tgt := 87) (pc' := 85) C dX6_differs_82 (by decide) rfl (fun c82 => ?_) (fun c82 => ?_)
          · rw [if_pos c82] at h
            refine J_iinc (pc' := 90) (lv' := [(3, .int (x3 + 1)), (0, .ref x0), (2, .ref x2)]) C 2 dX6_differs_87 rfl rfl rfl (by decide) rfl ?_
            refine J_goto (tgt := 29) C dX6_differs_90 (by decide) ?_
            refine J_sub (lv' := [(0, .ref x0), (2, .ref x2), (3, .int (x3 + 1))]) [1, 2, 0] rfl ?_
            exact ih _ _ _ _ _ _ h
          · rw [if_neg c82] at h
            refine J_iload_n (pc' := 86) C 2 dX6_differs_85 rfl rfl rfl ?_
            obtain ⟨rfl, rfl⟩ := rt2 h
            exact J_iret C dX6_differs_86 (Nat.zero_le _) (Nat.zero_le _)
def f_X6_differs (N : Nat) (a0 : Nat) (a1 : Int32) (M : A_M) : Option (Int32 × A_M) :=
  (chk M a0 6).bind fun _ =>
  bnd2 (f_X6_isKept N a0 a1 M) fun v2 M2 =>
  if v2 = 0 then
  (some ((-1 : Int32), M2))
  else
  ((chk M2 a0 6).bind fun _ =>
  bnd2 (f_X6_hasCode N a0 M2) fun v11 M11 =>
  if v11 = 0 then
  (some ((-3 : Int32), M11))
  else
  ((gR M11 a0 6 9).bind fun v21 =>
  (ldA M11 v21 a1).bind fun v25 =>
  f_X6_differs_L29 N N a0 v25 (0 : Int32) M11))
set_option maxHeartbeats 4000000 in
set_option maxRecDepth 100000 in
theorem ok_X6_differs (N : Nat) {a0 : Nat} {a1 : Int32} {M : A_M} {r : Int32} {M' : A_M} (h : f_X6_differs N a0 a1 M = some (r, M')) : Runs yX6_differs cX6_differs 4 (some .int) 2 41 0 0 [.ref a0, .int a1] M (some (.int r)) M' := by
  refine Runs.intro (by decide) (Nat.le_of_ble_eq_true rfl) (fun X C hnm hMC hMS => ?_)
  have C : Cx X cX6_differs RX6 4 (some .int) 2 41 := C
  show J X 4 0 [(0, .ref a0), (1, .int a1)] [] M 0 0 (some (.int r)) M'
  unfold f_X6_differs at h
  refine J_aload_n (pc' := 1) C 0 dX6_differs_0 rfl rfl rfl ?_
  refine J_iload_n (pc' := 2) C 1 dX6_differs_1 rfl rfl rfl ?_
  obtain ⟨_, q2, h⟩ := bd h
  obtain ⟨v2, M2, e2, h⟩ := bd2 h
  refine J_cV (pc' := 5) (st := []) (st2 := [.int v2]) (cs2 := 0) (sl2 := 0) C 6 rfl rfl q2 (ok_X6_isKept N e2) mw_X6_isKept wq_839 rfl dX6_differs_2 rfl rfl (Nat.le_of_ble_eq_true rfl) (by decide) (by decide) rfl rfl rfl (Nat.zero_le _) (Nat.zero_le _) ?_
  refine J_if_ne (tgt := 10) (pc' := 8) C dX6_differs_5 (by decide) rfl (fun c5 => ?_) (fun c5 => ?_)
  · rw [if_neg c5] at h
    refine J_aload_n (pc' := 11) C 0 dX6_differs_10 rfl rfl rfl ?_
    obtain ⟨_, q11, h⟩ := bd h
    obtain ⟨v11, M11, e11, h⟩ := bd2 h
    refine J_cV (pc' := 14) (st := []) (st2 := [.int v11]) (cs2 := 0) (sl2 := 0) C 6 rfl rfl q11 (ok_X6_hasCode N e11) mw_X6_hasCode wq_562 rfl dX6_differs_11 rfl rfl (Nat.le_of_ble_eq_true rfl) (by decide) (by decide) rfl rfl rfl (Nat.zero_le _) (Nat.zero_le _) ?_
    refine J_if_ne (tgt := 20) (pc' := 17) C dX6_differs_14 (by decide) rfl (fun c14 => ?_) (fun c14 => ?_)
    · rw [if_neg c14] at h
      refine J_aload_n (pc' := 21) C 0 dX6_differs_20 rfl rfl rfl ?_
      obtain ⟨v21, e21, h⟩ := bd h
      refine jg_199 (pc' := 24) C dX6_differs_21 rfl (gR_some e21) ?_
      refine J_iload_n (pc' := 25) C 1 dX6_differs_24 rfl rfl rfl ?_
      obtain ⟨v25, e25, h⟩ := bd h
      refine J_aald (pc' := 26) C dX6_differs_25 rfl e25 ?_
      refine J_astore_n (pc' := 27) (lv' := [(2, .ref v25), (0, .ref a0), (1, .int a1)]) C dX6_differs_26 rfl rfl (by decide) rfl ?_
      refine J_iconst (pc' := 28) (v := (0 : Int32)) C dX6_differs_27 rfl (by decide) ?_
      refine J_istore_n (pc' := 29) (lv' := [(3, .int (0 : Int32)), (2, .ref v25), (0, .ref a0), (1, .int a1)]) C dX6_differs_28 rfl rfl (by decide) rfl ?_
      refine J_sub (lv' := [(0, .ref a0), (2, .ref v25), (3, .int (0 : Int32))]) [2, 1, 0] rfl ?_
      exact ok_X6_differs_L29 C N N _ _ _ _ _ _ h
    · rw [if_pos c14] at h
      refine J_bipush (pc' := 19) (v := (-3 : Int32)) C dX6_differs_17 rfl (by decide) ?_
      obtain ⟨rfl, rfl⟩ := rt2 h
      exact J_iret C dX6_differs_19 (Nat.zero_le _) (Nat.zero_le _)
  · rw [if_pos c5] at h
    refine J_iconst (pc' := 9) (v := (-1 : Int32)) C dX6_differs_8 rfl (by decide) ?_
    obtain ⟨rfl, rfl⟩ := rt2 h
    exact J_iret C dX6_differs_9 (Nat.zero_le _) (Nat.zero_le _)
def f_X6_keptCodes_K25 (N : Nat) (k4 : Nat → Int32 → Int32 → A_M → Option (Int32 × A_M)) (x0 : Nat) (x1 : Int32) (x2 : Int32) (M : A_M) : Option (Int32 × A_M) :=
  k4 x0 x1 (x2 + 1) M
set_option maxHeartbeats 4000000 in
set_option maxRecDepth 100000 in
theorem ok_X6_keptCodes_K25 {X : JX} (C : Cx X cX6_keptCodes RX6 3 (some .int) 0 0) (N : Nat) {k4 : Nat → Int32 → Int32 → A_M → Option (Int32 × A_M)} (hk4 : ∀ (x0 : Nat) (x1 : Int32) (x2 : Int32) (M : A_M) (r : Int32) (M' : A_M), k4 x0 x1 x2 M = some (r, M') → J X 3 4 [(0, .ref x0), (1, .int x1), (2, .int x2)] [] M 0 0 (some (.int r)) M') : ∀ (x0 : Nat) (x1 : Int32) (x2 : Int32) (M : A_M) (r : Int32) (M' : A_M), f_X6_keptCodes_K25 N k4 x0 x1 x2 M = some (r, M') → J X 3 25 [(0, .ref x0), (1, .int x1), (2, .int x2)] [] M 0 0 (some (.int r)) M' := by
  intro x0 x1 x2 M r M' h
  unfold f_X6_keptCodes_K25 at h
  refine J_iinc (pc' := 28) (lv' := [(2, .int (x2 + 1)), (0, .ref x0), (1, .int x1)]) C 2 dX6_keptCodes_25 rfl rfl rfl (by decide) rfl ?_
  refine J_goto (tgt := 4) C dX6_keptCodes_28 (by decide) ?_
  refine J_sub (lv' := [(0, .ref x0), (1, .int x1), (2, .int (x2 + 1))]) [1, 2, 0] rfl ?_
  exact hk4 _ _ _ _ _ _ h
def f_X6_keptCodes_L4 (N : Nat) : Nat → Nat → Int32 → Int32 → A_M → Option (Int32 × A_M)
  | 0, _, _, _, _ => none
  | n + 1, x0, x1, x2, M =>
    if (8 : Int32) ≤ x2 then
    (some (x1, M))
    else
    ((gR M x0 6 9).bind fun v11 =>
    (ldA M v11 x2).bind fun v15 =>
    (gI M v15 0 2).bind fun v16 =>
    if v16 ≤ 0 then
    (f_X6_keptCodes_K25 N (f_X6_keptCodes_L4 N n) x0 x1 x2 M)
    else
    (f_X6_keptCodes_K25 N (f_X6_keptCodes_L4 N n) x0 (x1 + 1) x2 M))
set_option maxHeartbeats 4000000 in
set_option maxRecDepth 100000 in
theorem ok_X6_keptCodes_L4 {X : JX} (C : Cx X cX6_keptCodes RX6 3 (some .int) 0 0) (N : Nat) : ∀ (n : Nat) (x0 : Nat) (x1 : Int32) (x2 : Int32) (M : A_M) (r : Int32) (M' : A_M), f_X6_keptCodes_L4 N n x0 x1 x2 M = some (r, M') → J X 3 4 [(0, .ref x0), (1, .int x1), (2, .int x2)] [] M 0 0 (some (.int r)) M' := by
  intro n
  induction n with
  | zero =>
    intro x0 x1 x2 M r M' h
    cases h
  | succ n ih =>
    intro x0 x1 x2 M r M' h
    rw [f_X6_keptCodes_L4] at h
    refine J_iload_n (pc' := 5) C 2 dX6_keptCodes_4 rfl rfl rfl ?_
    refine J_bipush (pc' := 7) (v := (8 : Int32)) C dX6_keptCodes_5 rfl (by decide) ?_
    refine J_icmp_ge (tgt := 31) (pc' := 10) C dX6_keptCodes_7 (by decide) rfl (fun c7 => ?_) (fun c7 => ?_)
    · rw [if_pos c7] at h
      refine J_iload_n (pc' := 32) C 1 dX6_keptCodes_31 rfl rfl rfl ?_
      obtain ⟨rfl, rfl⟩ := rt2 h
      exact J_iret C dX6_keptCodes_32 (Nat.zero_le _) (Nat.zero_le _)
    · rw [if_neg c7] at h
      refine J_aload_n (pc' := 11) C 0 dX6_keptCodes_10 rfl rfl rfl ?_
      obtain ⟨v11, e11, h⟩ := bd h
      refine jg_199 (pc' := 14) C dX6_keptCodes_11 rfl (gR_some e11) ?_
      refine J_iload_n (pc' := 15) C 2 dX6_keptCodes_14 rfl rfl rfl ?_
      obtain ⟨v15, e15, h⟩ := bd h
      refine J_aald (pc' := 16) C dX6_keptCodes_15 rfl e15 ?_
      obtain ⟨v16, e16, h⟩ := bd h
      refine jg_181 (pc' := 19) C dX6_keptCodes_16 rfl (gI_some e16) ?_
      refine J_if_le (tgt := 25) (pc' := 22) C dX6_keptCodes_19 (by decide) rfl (fun c19 => ?_) (fun c19 => ?_)
      · rw [if_pos c19] at h
        refine J_sub (lv' := [(0, .ref x0), (1, .int x1), (2, .int x2)]) [0, 1, 2] rfl ?_
        exact ok_X6_keptCodes_K25 C N ih _ _ _ _ _ _ h
      · rw [if_neg c19] at h
        refine J_iinc (pc' := 25) (lv' := [(1, .int (x1 + 1)), (0, .ref x0), (2, .int x2)]) C 1 dX6_keptCodes_22 rfl rfl rfl (by decide) rfl ?_
        refine J_sub (lv' := [(0, .ref x0), (1, .int (x1 + 1)), (2, .int x2)]) [1, 0, 2] rfl ?_
        exact ok_X6_keptCodes_K25 C N ih _ _ _ _ _ _ h
def f_X6_keptCodes (N : Nat) (a0 : Nat) (M : A_M) : Option (Int32 × A_M) :=
  f_X6_keptCodes_L4 N N a0 (0 : Int32) (0 : Int32) M
set_option maxHeartbeats 4000000 in
set_option maxRecDepth 100000 in
theorem ok_X6_keptCodes (N : Nat) {a0 : Nat} {M : A_M} {r : Int32} {M' : A_M} (h : f_X6_keptCodes N a0 M = some (r, M')) : Runs yX6_keptCodes cX6_keptCodes 3 (some .int) 0 0 0 0 [.ref a0] M (some (.int r)) M' := by
  refine Runs.intro (by decide) (Nat.le_of_ble_eq_true rfl) (fun X C hnm hMC hMS => ?_)
  have C : Cx X cX6_keptCodes RX6 3 (some .int) 0 0 := C
  show J X 3 0 [(0, .ref a0)] [] M 0 0 (some (.int r)) M'
  unfold f_X6_keptCodes at h
  refine J_iconst (pc' := 1) (v := (0 : Int32)) C dX6_keptCodes_0 rfl (by decide) ?_
  refine J_istore_n (pc' := 2) (lv' := [(1, .int (0 : Int32)), (0, .ref a0)]) C dX6_keptCodes_1 rfl rfl (by decide) rfl ?_
  refine J_iconst (pc' := 3) (v := (0 : Int32)) C dX6_keptCodes_2 rfl (by decide) ?_
  refine J_istore_n (pc' := 4) (lv' := [(2, .int (0 : Int32)), (1, .int (0 : Int32)), (0, .ref a0)]) C dX6_keptCodes_3 rfl rfl (by decide) rfl ?_
  refine J_sub (lv' := [(0, .ref a0), (1, .int (0 : Int32)), (2, .int (0 : Int32))]) [2, 1, 0] rfl ?_
  exact ok_X6_keptCodes_L4 C N N _ _ _ _ _ _ h
def f_X6_told (N : Nat) (a0 : Nat) (a1 : Int32) (M : A_M) : Option (Int32 × A_M) :=
  if a1 = 0 then
  ((gI M a0 6 10).bind fun v45 =>
  some (v45, M))
  else
  if a1 = 1 then
  ((gI M a0 6 11).bind fun v50 =>
  some (v50, M))
  else
  if a1 = 2 then
  ((gR M a0 6 5).bind fun v55 =>
  (gI M v55 2 2).bind fun v58 =>
  some (v58, M))
  else
  if a1 = 3 then
  ((chk M a0 6).bind fun _ =>
  bnd2 (f_X6_hasCode N a0 M) fun v63 M63 =>
  if v63 = 0 then
  (some ((0 : Int32), M63))
  else
  (some ((1 : Int32), M63)))
  else
  if a1 = 4 then
  ((chk M a0 6).bind fun _ =>
  bnd2 (f_X6_hasCode N a0 M) fun v76 M76 =>
  if v76 = 0 then
  (some ((0 : Int32), M76))
  else
  ((gR M76 a0 6 7).bind fun v83 =>
  (chk M76 v83 0).bind fun _ =>
  bnd2 (f_X0_isFree N v83 M76) fun v86 M86 =>
  if v86 = 0 then
  (some ((0 : Int32), M86))
  else
  ((gR M86 a0 6 7).bind fun v93 =>
  (chk M86 v93 0).bind fun _ =>
  bnd2 (f_X0_places N v93 M86) fun v96 M96 =>
  some (v96, M96))))
  else
  if a1 = 5 then
  ((gN M a0 6 17).bind fun v105 =>
  match v105 with
  | none =>
  (some ((0 : Int32), M))
  | some _ =>
  ((gR M a0 6 17).bind fun v116 =>
  (chk M v116 5).bind fun _ =>
  bnd2 (f_X5_setsHad N v116 M) fun v119 M119 =>
  some (v119, M119)))
  else
  if a1 = 6 then
  ((chk M a0 6).bind fun _ =>
  bnd2 (f_X6_keptCodes N a0 M) fun v124 M124 =>
  some (v124, M124))
  else
  (some ((-2 : Int32), M))
set_option maxHeartbeats 4000000 in
set_option maxRecDepth 100000 in
theorem ok_X6_told (N : Nat) {a0 : Nat} {a1 : Int32} {M : A_M} {r : Int32} {M' : A_M} (h : f_X6_told N a0 a1 M = some (r, M')) : Runs yX6_told cX6_told 2 (some .int) 5 110 0 0 [.ref a0, .int a1] M (some (.int r)) M' := by
  refine Runs.intro (by decide) (Nat.le_of_ble_eq_true rfl) (fun X C hnm hMC hMS => ?_)
  have C : Cx X cX6_told RX6 2 (some .int) 5 110 := C
  show J X 2 0 [(0, .ref a0), (1, .int a1)] [] M 0 0 (some (.int r)) M'
  unfold f_X6_told at h
  refine J_iload_n (pc' := 1) C 1 dX6_told_0 rfl rfl rfl ?_
  by_cases k0 : a1 = 0
  · rw [if_pos k0] at h
    refine J_tableIn (tgt := 44) (off := 43) C dX6_told_1 (by rw [k0]; decide) (by rw [k0]; decide) (by rw [k0]; rfl) (by decide) ?_
    refine J_aload_n (pc' := 45) C 0 dX6_told_44 rfl rfl rfl ?_
    obtain ⟨v45, e45, h⟩ := bd h
    refine jg_200 (pc' := 48) C dX6_told_45 rfl (gI_some e45) ?_
    obtain ⟨rfl, rfl⟩ := rt2 h
    exact J_iret C dX6_told_48 (Nat.zero_le _) (Nat.zero_le _)
  · rw [if_neg k0] at h
    by_cases k1 : a1 = 1
    · rw [if_pos k1] at h
      refine J_tableIn (tgt := 49) (off := 48) C dX6_told_1 (by rw [k1]; decide) (by rw [k1]; decide) (by rw [k1]; rfl) (by decide) ?_
      refine J_aload_n (pc' := 50) C 0 dX6_told_49 rfl rfl rfl ?_
      obtain ⟨v50, e50, h⟩ := bd h
      refine jg_201 (pc' := 53) C dX6_told_50 rfl (gI_some e50) ?_
      obtain ⟨rfl, rfl⟩ := rt2 h
      exact J_iret C dX6_told_53 (Nat.zero_le _) (Nat.zero_le _)
    · rw [if_neg k1] at h
      by_cases k2 : a1 = 2
      · rw [if_pos k2] at h
        refine J_tableIn (tgt := 54) (off := 53) C dX6_told_1 (by rw [k2]; decide) (by rw [k2]; decide) (by rw [k2]; rfl) (by decide) ?_
        refine J_aload_n (pc' := 55) C 0 dX6_told_54 rfl rfl rfl ?_
        obtain ⟨v55, e55, h⟩ := bd h
        refine jg_195 (pc' := 58) C dX6_told_55 rfl (gR_some e55) ?_
        obtain ⟨v58, e58, h⟩ := bd h
        refine jg_125 (pc' := 61) C dX6_told_58 rfl (gI_some e58) ?_
        obtain ⟨rfl, rfl⟩ := rt2 h
        exact J_iret C dX6_told_61 (Nat.zero_le _) (Nat.zero_le _)
      · rw [if_neg k2] at h
        by_cases k3 : a1 = 3
        · rw [if_pos k3] at h
          refine J_tableIn (tgt := 62) (off := 61) C dX6_told_1 (by rw [k3]; decide) (by rw [k3]; decide) (by rw [k3]; rfl) (by decide) ?_
          refine J_aload_n (pc' := 63) C 0 dX6_told_62 rfl rfl rfl ?_
          obtain ⟨_, q63, h⟩ := bd h
          obtain ⟨v63, M63, e63, h⟩ := bd2 h
          refine J_cV (pc' := 66) (st := []) (st2 := [.int v63]) (cs2 := 0) (sl2 := 0) C 6 rfl rfl q63 (ok_X6_hasCode N e63) mw_X6_hasCode wq_562 rfl dX6_told_63 rfl rfl (Nat.le_of_ble_eq_true rfl) (by decide) (by decide) rfl rfl rfl (Nat.zero_le _) (Nat.zero_le _) ?_
          refine J_if_eq (tgt := 73) (pc' := 69) C dX6_told_66 (by decide) rfl (fun c66 => ?_) (fun c66 => ?_)
          · rw [if_pos c66] at h
            refine J_iconst (pc' := 74) (v := (0 : Int32)) C dX6_told_73 rfl (by decide) ?_
            obtain ⟨rfl, rfl⟩ := rt2 h
            exact J_iret C dX6_told_74 (Nat.zero_le _) (Nat.zero_le _)
          · rw [if_neg c66] at h
            refine J_iconst (pc' := 70) (v := (1 : Int32)) C dX6_told_69 rfl (by decide) ?_
            refine J_goto (tgt := 74) C dX6_told_70 (by decide) ?_
            obtain ⟨rfl, rfl⟩ := rt2 h
            exact J_iret C dX6_told_74 (Nat.zero_le _) (Nat.zero_le _)
        · rw [if_neg k3] at h
          by_cases k4 : a1 = 4
          · rw [if_pos k4] at h
            refine J_tableIn (tgt := 75) (off := 74) C dX6_told_1 (by rw [k4]; decide) (by rw [k4]; decide) (by rw [k4]; rfl) (by decide) ?_
            refine J_aload_n (pc' := 76) C 0 dX6_told_75 rfl rfl rfl ?_
            obtain ⟨_, q76, h⟩ := bd h
            obtain ⟨v76, M76, e76, h⟩ := bd2 h
            refine J_cV (pc' := 79) (st := []) (st2 := [.int v76]) (cs2 := 0) (sl2 := 0) C 6 rfl rfl q76 (ok_X6_hasCode N e76) mw_X6_hasCode wq_562 rfl dX6_told_76 rfl rfl (Nat.le_of_ble_eq_true rfl) (by decide) (by decide) rfl rfl rfl (Nat.zero_le _) (Nat.zero_le _) ?_
            refine J_if_eq (tgt := 102) (pc' := 82) C dX6_told_79 (by decide) rfl (fun c79 => ?_) (fun c79 => ?_)
            · rw [if_pos c79] at h
              refine J_iconst (pc' := 103) (v := (0 : Int32)) C dX6_told_102 rfl (by decide) ?_
              obtain ⟨rfl, rfl⟩ := rt2 h
              exact J_iret C dX6_told_103 (Nat.zero_le _) (Nat.zero_le _)
            · rw [if_neg c79] at h
              refine J_aload_n (pc' := 83) C 0 dX6_told_82 rfl rfl rfl ?_
              obtain ⟨v83, e83, h⟩ := bd h
              refine jg_197 (pc' := 86) C dX6_told_83 rfl (gR_some e83) ?_
              obtain ⟨_, q86, h⟩ := bd h
              obtain ⟨v86, M86, e86, h⟩ := bd2 h
              refine J_cV (pc' := 89) (st := []) (st2 := [.int v86]) (cs2 := 0) (sl2 := 0) C 0 rfl rfl q86 (ok_X0_isFree N e86) mw_X0_isFree wq_627 rfl dX6_told_86 rfl rfl (Nat.le_of_ble_eq_true rfl) (by decide) (by decide) rfl rfl rfl (Nat.zero_le _) (Nat.zero_le _) ?_
              refine J_if_eq (tgt := 102) (pc' := 92) C dX6_told_89 (by decide) rfl (fun c89 => ?_) (fun c89 => ?_)
              · rw [if_pos c89] at h
                refine J_iconst (pc' := 103) (v := (0 : Int32)) C dX6_told_102 rfl (by decide) ?_
                obtain ⟨rfl, rfl⟩ := rt2 h
                exact J_iret C dX6_told_103 (Nat.zero_le _) (Nat.zero_le _)
              · rw [if_neg c89] at h
                refine J_aload_n (pc' := 93) C 0 dX6_told_92 rfl rfl rfl ?_
                obtain ⟨v93, e93, h⟩ := bd h
                refine jg_197 (pc' := 96) C dX6_told_93 rfl (gR_some e93) ?_
                obtain ⟨_, q96, h⟩ := bd h
                obtain ⟨v96, M96, e96, h⟩ := bd2 h
                refine J_cV (pc' := 99) (st := []) (st2 := [.int v96]) (cs2 := 0) (sl2 := 0) C 0 rfl rfl q96 (ok_X0_places N e96) mw_X0_places wq_851 rfl dX6_told_96 rfl rfl (Nat.le_of_ble_eq_true rfl) (by decide) (by decide) rfl rfl rfl (Nat.zero_le _) (Nat.zero_le _) ?_
                refine J_goto (tgt := 103) C dX6_told_99 (by decide) ?_
                obtain ⟨rfl, rfl⟩ := rt2 h
                exact J_iret C dX6_told_103 (Nat.zero_le _) (Nat.zero_le _)
          · rw [if_neg k4] at h
            by_cases k5 : a1 = 5
            · rw [if_pos k5] at h
              refine J_tableIn (tgt := 104) (off := 103) C dX6_told_1 (by rw [k5]; decide) (by rw [k5]; decide) (by rw [k5]; rfl) (by decide) ?_
              refine J_aload_n (pc' := 105) C 0 dX6_told_104 rfl rfl rfl ?_
              obtain ⟨v105, e105, h⟩ := bd h
              cases v105 with
              | none =>
                refine jg_207 (pc' := 108) C dX6_told_105 rfl (gN_null e105) ?_
                refine J_ifnonnullN (pc' := 111) C dX6_told_108 rfl ?_
                dsimp only at h
                refine J_iconst (pc' := 112) (v := (0 : Int32)) C dX6_told_111 rfl (by decide) ?_
                refine J_goto (tgt := 122) C dX6_told_112 (by decide) ?_
                obtain ⟨rfl, rfl⟩ := rt2 h
                exact J_iret C dX6_told_122 (Nat.zero_le _) (Nat.zero_le _)
              | some x108 =>
                refine jg_207 (pc' := 108) C dX6_told_105 rfl (gN_some e105) ?_
                refine J_ifnonnull (tgt := 115) C dX6_told_108 (by decide) ?_
                dsimp only at h
                refine J_aload_n (pc' := 116) C 0 dX6_told_115 rfl rfl rfl ?_
                obtain ⟨v116, e116, h⟩ := bd h
                refine jg_207 (pc' := 119) C dX6_told_116 rfl (gR_some e116) ?_
                obtain ⟨_, q119, h⟩ := bd h
                obtain ⟨v119, M119, e119, h⟩ := bd2 h
                refine J_cV (pc' := 122) (st := []) (st2 := [.int v119]) (cs2 := 0) (sl2 := 0) C 5 rfl rfl q119 (ok_X5_setsHad N e119) mw_X5_setsHad wq_856 rfl dX6_told_119 rfl rfl (Nat.le_of_ble_eq_true rfl) (by decide) (by decide) rfl rfl rfl (Nat.zero_le _) (Nat.zero_le _) ?_
                obtain ⟨rfl, rfl⟩ := rt2 h
                exact J_iret C dX6_told_122 (Nat.zero_le _) (Nat.zero_le _)
            · rw [if_neg k5] at h
              by_cases k6 : a1 = 6
              · rw [if_pos k6] at h
                refine J_tableIn (tgt := 123) (off := 122) C dX6_told_1 (by rw [k6]; decide) (by rw [k6]; decide) (by rw [k6]; rfl) (by decide) ?_
                refine J_aload_n (pc' := 124) C 0 dX6_told_123 rfl rfl rfl ?_
                obtain ⟨_, q124, h⟩ := bd h
                obtain ⟨v124, M124, e124, h⟩ := bd2 h
                refine J_cV (pc' := 127) (st := []) (st2 := [.int v124]) (cs2 := 0) (sl2 := 0) C 6 rfl rfl q124 (ok_X6_keptCodes N e124) mw_X6_keptCodes wq_860 rfl dX6_told_124 rfl rfl (Nat.le_of_ble_eq_true rfl) (by decide) (by decide) rfl rfl rfl (Nat.zero_le _) (Nat.zero_le _) ?_
                obtain ⟨rfl, rfl⟩ := rt2 h
                exact J_iret C dX6_told_127 (Nat.zero_le _) (Nat.zero_le _)
              · rw [if_neg k6] at h
                refine J_tableOut (tgt := 128) C dX6_told_1 (sw06 k0 k1 k2 k3 k4 k5 k6) (by decide) ?_
                refine J_bipush (pc' := 130) (v := (-2 : Int32)) C dX6_told_128 rfl (by decide) ?_
                obtain ⟨rfl, rfl⟩ := rt2 h
                exact J_iret C dX6_told_130 (Nat.zero_le _) (Nat.zero_le _)
def f_X6_price (N : Nat) (a0 : Nat) (a1 : Int32) (M : A_M) : Option (Int32 × A_M) :=
  (chk M a0 6).bind fun _ =>
  bnd2 (f_X6_isSign N a0 a1 M) fun v2 M2 =>
  if v2 = 0 then
  (some ((-1 : Int32), M2))
  else
  ((gR M2 a0 6 0).bind fun v9 =>
  (ldI M2 v9 a1).bind fun v13 =>
  some (v13, M2))
set_option maxHeartbeats 4000000 in
set_option maxRecDepth 100000 in
theorem ok_X6_price (N : Nat) {a0 : Nat} {a1 : Int32} {M : A_M} {r : Int32} {M' : A_M} (h : f_X6_price N a0 a1 M = some (r, M')) : Runs yX6_price cX6_price 2 (some .int) 1 21 0 0 [.ref a0, .int a1] M (some (.int r)) M' := by
  refine Runs.intro (by decide) (Nat.le_of_ble_eq_true rfl) (fun X C hnm hMC hMS => ?_)
  have C : Cx X cX6_price RX6 2 (some .int) 1 21 := C
  show J X 2 0 [(0, .ref a0), (1, .int a1)] [] M 0 0 (some (.int r)) M'
  unfold f_X6_price at h
  refine J_aload_n (pc' := 1) C 0 dX6_price_0 rfl rfl rfl ?_
  refine J_iload_n (pc' := 2) C 1 dX6_price_1 rfl rfl rfl ?_
  obtain ⟨_, q2, h⟩ := bd h
  obtain ⟨v2, M2, e2, h⟩ := bd2 h
  refine J_cV (pc' := 5) (st := []) (st2 := [.int v2]) (cs2 := 0) (sl2 := 0) C 6 rfl rfl q2 (ok_X6_isSign N e2) mw_X6_isSign wq_290 rfl dX6_price_2 rfl rfl (Nat.le_of_ble_eq_true rfl) (by decide) (by decide) rfl rfl rfl (Nat.zero_le _) (Nat.zero_le _) ?_
  refine J_if_eq (tgt := 17) (pc' := 8) C dX6_price_5 (by decide) rfl (fun c5 => ?_) (fun c5 => ?_)
  · rw [if_pos c5] at h
    refine J_iconst (pc' := 18) (v := (-1 : Int32)) C dX6_price_17 rfl (by decide) ?_
    obtain ⟨rfl, rfl⟩ := rt2 h
    exact J_iret C dX6_price_18 (Nat.zero_le _) (Nat.zero_le _)
  · rw [if_neg c5] at h
    refine J_aload_n (pc' := 9) C 0 dX6_price_8 rfl rfl rfl ?_
    obtain ⟨v9, e9, h⟩ := bd h
    refine jg_190 (pc' := 12) C dX6_price_9 rfl (gR_some e9) ?_
    refine J_iload_n (pc' := 13) C 1 dX6_price_12 rfl rfl rfl ?_
    obtain ⟨v13, e13, h⟩ := bd h
    refine J_iald (pc' := 14) C dX6_price_13 rfl e13 ?_
    refine J_goto (tgt := 18) C dX6_price_14 (by decide) ?_
    obtain ⟨rfl, rfl⟩ := rt2 h
    exact J_iret C dX6_price_18 (Nat.zero_le _) (Nat.zero_le _)
def f_X6_rank (N : Nat) (a0 : Nat) (a1 : Int32) (M : A_M) : Option (Int32 × A_M) :=
  (chk M a0 6).bind fun _ =>
  bnd2 (f_X6_isThing N a0 a1 M) fun v2 M2 =>
  if v2 = 0 then
  (some ((-1 : Int32), M2))
  else
  ((gR M2 a0 6 2).bind fun v11 =>
  (gR M2 a0 6 1).bind fun v15 =>
  (gI M2 a0 6 11).bind fun v19 =>
  (f_X6_rankThings N v11 v15 v19 M2).bind fun M22 =>
  (gR M22 a0 6 2).bind fun v26 =>
  (ldI M22 v26 a1).bind fun v30 =>
  some (v30, M22))
set_option maxHeartbeats 4000000 in
set_option maxRecDepth 100000 in
theorem ok_X6_rank (N : Nat) {a0 : Nat} {a1 : Int32} {M : A_M} {r : Int32} {M' : A_M} (h : f_X6_rank N a0 a1 M = some (r, M')) : Runs yX6_rank cX6_rank 2 (some .int) 1 24 0 0 [.ref a0, .int a1] M (some (.int r)) M' := by
  refine Runs.intro (by decide) (Nat.le_of_ble_eq_true rfl) (fun X C hnm hMC hMS => ?_)
  have C : Cx X cX6_rank RX6 2 (some .int) 1 24 := C
  show J X 2 0 [(0, .ref a0), (1, .int a1)] [] M 0 0 (some (.int r)) M'
  unfold f_X6_rank at h
  refine J_aload_n (pc' := 1) C 0 dX6_rank_0 rfl rfl rfl ?_
  refine J_iload_n (pc' := 2) C 1 dX6_rank_1 rfl rfl rfl ?_
  obtain ⟨_, q2, h⟩ := bd h
  obtain ⟨v2, M2, e2, h⟩ := bd2 h
  refine J_cV (pc' := 5) (st := []) (st2 := [.int v2]) (cs2 := 0) (sl2 := 0) C 6 rfl rfl q2 (ok_X6_isThing N e2) mw_X6_isThing wq_278 rfl dX6_rank_2 rfl rfl (Nat.le_of_ble_eq_true rfl) (by decide) (by decide) rfl rfl rfl (Nat.zero_le _) (Nat.zero_le _) ?_
  refine J_if_ne (tgt := 10) (pc' := 8) C dX6_rank_5 (by decide) rfl (fun c5 => ?_) (fun c5 => ?_)
  · rw [if_neg c5] at h
    refine J_aload_n (pc' := 11) C 0 dX6_rank_10 rfl rfl rfl ?_
    obtain ⟨v11, e11, h⟩ := bd h
    refine jg_192 (pc' := 14) C dX6_rank_11 rfl (gR_some e11) ?_
    refine J_aload_n (pc' := 15) C 0 dX6_rank_14 rfl rfl rfl ?_
    obtain ⟨v15, e15, h⟩ := bd h
    refine jg_191 (pc' := 18) C dX6_rank_15 rfl (gR_some e15) ?_
    refine J_aload_n (pc' := 19) C 0 dX6_rank_18 rfl rfl rfl ?_
    obtain ⟨v19, e19, h⟩ := bd h
    refine jg_201 (pc' := 22) C dX6_rank_19 rfl (gI_some e19) ?_
    obtain ⟨M22, e22, h⟩ := bd h
    refine J_cS (pc' := 25) (st := []) (st2 := []) (cs2 := 0) (sl2 := 0) C (ok_X6_rankThings N e22) mw_X6_rankThings wq_528 rfl dX6_rank_22 rfl rfl (Nat.le_of_ble_eq_true rfl) (by decide) (by decide) rfl rfl rfl (Nat.zero_le _) (Nat.zero_le _) ?_
    refine J_aload_n (pc' := 26) C 0 dX6_rank_25 rfl rfl rfl ?_
    obtain ⟨v26, e26, h⟩ := bd h
    refine jg_192 (pc' := 29) C dX6_rank_26 rfl (gR_some e26) ?_
    refine J_iload_n (pc' := 30) C 1 dX6_rank_29 rfl rfl rfl ?_
    obtain ⟨v30, e30, h⟩ := bd h
    refine J_iald (pc' := 31) C dX6_rank_30 rfl e30 ?_
    obtain ⟨rfl, rfl⟩ := rt2 h
    exact J_iret C dX6_rank_31 (Nat.zero_le _) (Nat.zero_le _)
  · rw [if_pos c5] at h
    refine J_iconst (pc' := 9) (v := (-1 : Int32)) C dX6_rank_8 rfl (by decide) ?_
    obtain ⟨rfl, rfl⟩ := rt2 h
    exact J_iret C dX6_rank_9 (Nat.zero_le _) (Nat.zero_le _)
