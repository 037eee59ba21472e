def f_X7_own_L12 (N : Nat) : Nat → Nat → Int32 → A_M → Option (Int32 × A_M)
  | 0, _, _, _ => none
  | n + 1, x0, x1, M =>
    (gI M x0 7 3).bind fun v14 =>
    if v14 ≤ x1 then
    ((chk M x0 7).bind fun _ =>
    (f_X7_comes N x0 M).bind fun M41 =>
    (pV M41 x0 7 5 (.int (1 : Int32))).bind fun M46 =>
    (gI M46 x0 7 3).bind fun v50 =>
    some (v50, M46))
    else
    ((gR M x0 7 7).bind fun v21 =>
    (stJ M v21 x1 (0 : Int64)).bind fun M26 =>
    (gR M26 x0 7 8).bind fun v28 =>
    (stI M26 v28 x1 (0 : Int32)).bind fun M33 =>
    f_X7_own_L12 N n x0 (x1 + 1) M33)
set_option maxHeartbeats 4000000 in
set_option maxRecDepth 100000 in
theorem ok_X7_own_L12 {X : JX} (C : Cx X cX7_own RX7 2 (some .int) 1 20) (N : Nat) : ∀ (n : Nat) (x0 : Nat) (x1 : Int32) (M : A_M) (r : Int32) (M' : A_M), f_X7_own_L12 N n x0 x1 M = some (r, M') → J X 2 12 [(0, .ref x0), (1, .int x1)] [] M 0 0 (some (.int r)) M' := by
  intro n
  induction n with
  | zero =>
    intro x0 x1 M r M' h
    cases h
  | succ n ih =>
    intro x0 x1 M r M' h
    rw [f_X7_own_L12] at h
    refine J_iload_n (pc' := 13) C 1 dX7_own_12 rfl rfl rfl ?_
    refine J_aload_n (pc' := 14) C 0 dX7_own_13 rfl rfl rfl ?_
    obtain ⟨v14, e14, h⟩ := bd h
    refine jg_882 (pc' := 17) C dX7_own_14 rfl (gI_some e14) ?_
    refine J_icmp_ge (tgt := 40) (pc' := 20) C dX7_own_17 (by decide) rfl (fun c17 => ?_) (fun c17 => ?_)
    · rw [if_pos c17] at h
      refine J_aload_n (pc' := 41) C 0 dX7_own_40 rfl rfl rfl ?_
      obtain ⟨_, q41, h⟩ := bd h
      obtain ⟨M41, e41, h⟩ := bd h
      refine J_cV (pc' := 44) (st := []) (st2 := []) (cs2 := 0) (sl2 := 0) C 7 rfl rfl q41 (ok_X7_comes N e41) mw_X7_comes wq_1210 rfl dX7_own_41 rfl rfl (Nat.le_of_ble_eq_true rfl) (by decide) (by decide) rfl rfl rfl (Nat.zero_le _) (Nat.zero_le _) ?_
      refine J_aload_n (pc' := 45) C 0 dX7_own_44 rfl rfl rfl ?_
      refine J_iconst (pc' := 46) (v := (1 : Int32)) C dX7_own_45 rfl (by decide) ?_
      obtain ⟨M46, e46, h⟩ := bd h
      refine jp_884 (pc' := 49) C (zb_ok (by decide)) dX7_own_46 rfl e46 ?_
      refine J_aload_n (pc' := 50) C 0 dX7_own_49 rfl rfl rfl ?_
      obtain ⟨v50, e50, h⟩ := bd h
      refine jg_882 (pc' := 53) C dX7_own_50 rfl (gI_some e50) ?_
      obtain ⟨rfl, rfl⟩ := rt2 h
      exact J_iret C dX7_own_53 (Nat.zero_le _) (Nat.zero_le _)
    · rw [if_neg c17] at h
      refine J_aload_n (pc' := 21) C 0 dX7_own_20 rfl rfl rfl ?_
      obtain ⟨v21, e21, h⟩ := bd h
      refine jg_886 (pc' := 24) C dX7_own_21 rfl (gR_some e21) ?_
      refine J_iload_n (pc' := 25) C 1 dX7_own_24 rfl rfl rfl ?_
      refine J_lconst (pc' := 26) (v := (0 : Int64)) C dX7_own_25 rfl (by decide) ?_
      obtain ⟨M26, e26, h⟩ := bd h
      refine J_last (pc' := 27) C dX7_own_26 rfl e26 ?_
      refine J_aload_n (pc' := 28) C 0 dX7_own_27 rfl rfl rfl ?_
      obtain ⟨v28, e28, h⟩ := bd h
      refine jg_887 (pc' := 31) C dX7_own_28 rfl (gR_some e28) ?_
      refine J_iload_n (pc' := 32) C 1 dX7_own_31 rfl rfl rfl ?_
      refine J_iconst (pc' := 33) (v := (0 : Int32)) C dX7_own_32 rfl (by decide) ?_
      obtain ⟨M33, e33, h⟩ := bd h
      refine J_iast (pc' := 34) C dX7_own_33 rfl e33 ?_
      refine J_iinc (pc' := 37) (lv' := [(1, .int (x1 + 1)), (0, .ref x0)]) C 1 dX7_own_34 rfl rfl rfl (by decide) rfl ?_
      refine J_goto (tgt := 12) C dX7_own_37 (by decide) ?_
      refine J_sub (lv' := [(0, .ref x0), (1, .int (x1 + 1))]) [1, 0] rfl ?_
      exact ih _ _ _ _ _ h
def f_X7_own (N : Nat) (a0 : Nat) (M : A_M) : Option (Int32 × A_M) :=
  (chk M a0 7).bind fun _ =>
  bnd2 (f_X7_canBegin N a0 M) fun v1 M1 =>
  if v1 = 0 then
  (some ((-3 : Int32), M1))
  else
  (f_X7_own_L12 N N a0 (0 : Int32) M1)
set_option maxHeartbeats 4000000 in
set_option maxRecDepth 100000 in
theorem ok_X7_own (N : Nat) {a0 : Nat} {M : A_M} {r : Int32} {M' : A_M} (h : f_X7_own N a0 M = some (r, M')) : Runs yX7_own cX7_own 2 (some .int) 1 20 0 0 [.ref a0] M (some (.int r)) M' := by
  refine Runs.intro (by decide) (Nat.le_of_ble_eq_true rfl) (fun X C hnm hMC hMS => ?_)
  have C : Cx X cX7_own RX7 2 (some .int) 1 20 := C
  show J X 2 0 [(0, .ref a0)] [] M 0 0 (some (.int r)) M'
  unfold f_X7_own at h
  refine J_aload_n (pc' := 1) C 0 dX7_own_0 rfl rfl rfl ?_
  obtain ⟨_, q1, h⟩ := bd h
  obtain ⟨v1, M1, e1, h⟩ := bd2 h
  refine J_cV (pc' := 4) (st := []) (st2 := [.int v1]) (cs2 := 0) (sl2 := 0) C 7 rfl rfl q1 (ok_X7_canBegin N e1) mw_X7_canBegin wq_1120 rfl dX7_own_1 rfl rfl (Nat.le_of_ble_eq_true rfl) (by decide) (by decide) rfl rfl rfl (Nat.zero_le _) (Nat.zero_le _) ?_
  refine J_if_ne (tgt := 10) (pc' := 7) C dX7_own_4 (by decide) rfl (fun c4 => ?_) (fun c4 => ?_)
  · rw [if_neg c4] at h
    refine J_iconst (pc' := 11) (v := (0 : Int32)) C dX7_own_10 rfl (by decide) ?_
    refine J_istore_n (pc' := 12) (lv' := [(1, .int (0 : Int32)), (0, .ref a0)]) C dX7_own_11 rfl rfl (by decide) rfl ?_
    refine J_sub (lv' := [(0, .ref a0), (1, .int (0 : Int32))]) [1, 0] rfl ?_
    exact ok_X7_own_L12 C N N _ _ _ _ _ h
  · rw [if_pos c4] at h
    refine J_bipush (pc' := 9) (v := (-3 : Int32)) C dX7_own_7 rfl (by decide) ?_
    obtain ⟨rfl, rfl⟩ := rt2 h
    exact J_iret C dX7_own_9 (Nat.zero_le _) (Nat.zero_le _)
def f_X7_add (N : Nat) (a0 : Nat) (a1 : Int32) (a2 : Int32) (M : A_M) : Option (Int32 × A_M) :=
  (chk M a0 7).bind fun _ =>
  bnd2 (f_X7_isThing N a0 a1 M) fun v2 M2 =>
  if v2 = 0 then
  (some ((-1 : Int32), M2))
  else
  ((chk M2 a0 7).bind fun _ =>
  bnd2 (f_X7_isSign N a0 a2 M2) fun v10 M10 =>
  if v10 = 0 then
  (some ((-1 : Int32), M10))
  else
  ((gI M10 a0 7 4).bind fun v19 =>
  if v19 = 0 then
  (some ((-3 : Int32), M10))
  else
  ((gI M10 a0 7 5).bind fun v26 =>
  if v26 = 0 then
  (some ((-3 : Int32), M10))
  else
  ((gR M10 a0 7 8).bind fun v36 =>
  (ldI M10 v36 a1).bind fun v40 =>
  if v40 = (24 : Int32) then
  (some ((-4 : Int32), M10))
  else
  ((gR M10 a0 7 7).bind fun v50 =>
  (gR M10 a0 7 7).bind fun v55 =>
  (ldJ M10 v55 a1).bind fun v59 =>
  (gR M10 a0 7 8).bind fun v61 =>
  (ldI M10 v61 a1).bind fun v65 =>
  bnd2 (f_X7_with N v59 v65 a2 M10) fun v67 M67 =>
  (stJ M67 v50 a1 v67).bind fun M70 =>
  (gR M70 a0 7 8).bind fun v72 =>
  (ldI M70 v72 a1).bind fun v77 =>
  (stI M70 v72 a1 (v77 + (1 : Int32))).bind fun M80 =>
  (gR M80 a0 7 8).bind fun v82 =>
  (ldI M80 v82 a1).bind fun v86 =>
  some (v86, M80))))))
set_option maxHeartbeats 4000000 in
set_option maxRecDepth 100000 in
theorem ok_X7_add (N : Nat) {a0 : Nat} {a1 : Int32} {a2 : Int32} {M : A_M} {r : Int32} {M' : A_M} (h : f_X7_add N a0 a1 a2 M = some (r, M')) : Runs yX7_add cX7_add 3 (some .int) 2 46 0 0 [.ref a0, .int a1, .int a2] M (some (.int r)) M' := by
  refine Runs.intro (by decide) (Nat.le_of_ble_eq_true rfl) (fun X C hnm hMC hMS => ?_)
  have C : Cx X cX7_add RX7 3 (some .int) 2 46 := C
  show J X 3 0 [(0, .ref a0), (1, .int a1), (2, .int a2)] [] M 0 0 (some (.int r)) M'
  unfold f_X7_add at h
  refine J_aload_n (pc' := 1) C 0 dX7_add_0 rfl rfl rfl ?_
  refine J_iload_n (pc' := 2) C 1 dX7_add_1 rfl rfl rfl ?_
  obtain ⟨_, q2, h⟩ := bd h
  obtain ⟨v2, M2, e2, h⟩ := bd2 h
  refine J_cV (pc' := 5) (st := []) (st2 := [.int v2]) (cs2 := 0) (sl2 := 0) C 7 rfl rfl q2 (ok_X7_isThing N e2) mw_X7_isThing wq_1074 rfl dX7_add_2 rfl rfl (Nat.le_of_ble_eq_true rfl) (by decide) (by decide) rfl rfl rfl (Nat.zero_le _) (Nat.zero_le _) ?_
  refine J_if_eq (tgt := 16) (pc' := 8) C dX7_add_5 (by decide) rfl (fun c5 => ?_) (fun c5 => ?_)
  · rw [if_pos c5] at h
    refine J_iconst (pc' := 17) (v := (-1 : Int32)) C dX7_add_16 rfl (by decide) ?_
    obtain ⟨rfl, rfl⟩ := rt2 h
    exact J_iret C dX7_add_17 (Nat.zero_le _) (Nat.zero_le _)
  · rw [if_neg c5] at h
    refine J_aload_n (pc' := 9) C 0 dX7_add_8 rfl rfl rfl ?_
    refine J_iload_n (pc' := 10) C 2 dX7_add_9 rfl rfl rfl ?_
    obtain ⟨_, q10, h⟩ := bd h
    obtain ⟨v10, M10, e10, h⟩ := bd2 h
    refine J_cV (pc' := 13) (st := []) (st2 := [.int v10]) (cs2 := 0) (sl2 := 0) C 7 rfl rfl q10 (ok_X7_isSign N e10) mw_X7_isSign wq_1111 rfl dX7_add_10 rfl rfl (Nat.le_of_ble_eq_true rfl) (by decide) (by decide) rfl rfl rfl (Nat.zero_le _) (Nat.zero_le _) ?_
    refine J_if_ne (tgt := 18) (pc' := 16) C dX7_add_13 (by decide) rfl (fun c13 => ?_) (fun c13 => ?_)
    · rw [if_neg c13] at h
      refine J_aload_n (pc' := 19) C 0 dX7_add_18 rfl rfl rfl ?_
      obtain ⟨v19, e19, h⟩ := bd h
      refine jg_883 (pc' := 22) C dX7_add_19 rfl (gI_some e19) ?_
      refine J_if_eq (tgt := 32) (pc' := 25) C dX7_add_22 (by decide) rfl (fun c22 => ?_) (fun c22 => ?_)
      · rw [if_pos c22] at h
        refine J_bipush (pc' := 34) (v := (-3 : Int32)) C dX7_add_32 rfl (by decide) ?_
        obtain ⟨rfl, rfl⟩ := rt2 h
        exact J_iret C dX7_add_34 (Nat.zero_le _) (Nat.zero_le _)
      · rw [if_neg c22] at h
        refine J_aload_n (pc' := 26) C 0 dX7_add_25 rfl rfl rfl ?_
        obtain ⟨v26, e26, h⟩ := bd h
        refine jg_884 (pc' := 29) C dX7_add_26 rfl (gI_some e26) ?_
        refine J_if_ne (tgt := 35) (pc' := 32) C dX7_add_29 (by decide) rfl (fun c29 => ?_) (fun c29 => ?_)
        · rw [if_neg c29] at h
          refine J_aload_n (pc' := 36) C 0 dX7_add_35 rfl rfl rfl ?_
          obtain ⟨v36, e36, h⟩ := bd h
          refine jg_887 (pc' := 39) C dX7_add_36 rfl (gR_some e36) ?_
          refine J_iload_n (pc' := 40) C 1 dX7_add_39 rfl rfl rfl ?_
          obtain ⟨v40, e40, h⟩ := bd h
          refine J_iald (pc' := 41) C dX7_add_40 rfl e40 ?_
          refine J_bipush (pc' := 43) (v := (24 : Int32)) C dX7_add_41 rfl (by decide) ?_
          refine J_icmp_ne (tgt := 49) (pc' := 46) C dX7_add_43 (by decide) rfl (fun c43 => ?_) (fun c43 => ?_)
          · rw [if_neg c43] at h
            refine J_aload_n (pc' := 50) C 0 dX7_add_49 rfl rfl rfl ?_
            obtain ⟨v50, e50, h⟩ := bd h
            refine jg_886 (pc' := 53) C dX7_add_50 rfl (gR_some e50) ?_
            refine J_iload_n (pc' := 54) C 1 dX7_add_53 rfl rfl rfl ?_
            refine J_aload_n (pc' := 55) C 0 dX7_add_54 rfl rfl rfl ?_
            obtain ⟨v55, e55, h⟩ := bd h
            refine jg_886 (pc' := 58) C dX7_add_55 rfl (gR_some e55) ?_
            refine J_iload_n (pc' := 59) C 1 dX7_add_58 rfl rfl rfl ?_
            obtain ⟨v59, e59, h⟩ := bd h
            refine J_lald (pc' := 60) C dX7_add_59 rfl e59 ?_
            refine J_aload_n (pc' := 61) C 0 dX7_add_60 rfl rfl rfl ?_
            obtain ⟨v61, e61, h⟩ := bd h
            refine jg_887 (pc' := 64) C dX7_add_61 rfl (gR_some e61) ?_
            refine J_iload_n (pc' := 65) C 1 dX7_add_64 rfl rfl rfl ?_
            obtain ⟨v65, e65, h⟩ := bd h
            refine J_iald (pc' := 66) C dX7_add_65 rfl e65 ?_
            refine J_iload_n (pc' := 67) C 2 dX7_add_66 rfl rfl rfl ?_
            obtain ⟨v67, M67, e67, h⟩ := bd2 h
            refine J_cS (pc' := 70) (st := [.int a1, .ref v50]) (st2 := [.long v67, .int a1, .ref v50]) (cs2 := 0) (sl2 := 0) C (ok_X7_with N e67) mw_X7_with wq_1186 rfl dX7_add_67 rfl rfl (Nat.le_of_ble_eq_true rfl) (by decide) (by decide) rfl rfl rfl (Nat.zero_le _) (Nat.zero_le _) ?_
            obtain ⟨M70, e70, h⟩ := bd h
            refine J_last (pc' := 71) C dX7_add_70 rfl e70 ?_
            refine J_aload_n (pc' := 72) C 0 dX7_add_71 rfl rfl rfl ?_
            obtain ⟨v72, e72, h⟩ := bd h
            refine jg_887 (pc' := 75) C dX7_add_72 rfl (gR_some e72) ?_
            refine J_iload_n (pc' := 76) C 1 dX7_add_75 rfl rfl rfl ?_
            refine J_dup2 (pc' := 77) C dX7_add_76 rfl rfl rfl ?_
            obtain ⟨v77, e77, h⟩ := bd h
            refine J_iald (pc' := 78) C dX7_add_77 rfl e77 ?_
            refine J_iconst (pc' := 79) (v := (1 : Int32)) C dX7_add_78 rfl (by decide) ?_
            refine J_iadd (pc' := 80) C dX7_add_79 rfl ?_
            obtain ⟨M80, e80, h⟩ := bd h
            refine J_iast (pc' := 81) C dX7_add_80 rfl e80 ?_
            refine J_aload_n (pc' := 82) C 0 dX7_add_81 rfl rfl rfl ?_
            obtain ⟨v82, e82, h⟩ := bd h
            refine jg_887 (pc' := 85) C dX7_add_82 rfl (gR_some e82) ?_
            refine J_iload_n (pc' := 86) C 1 dX7_add_85 rfl rfl rfl ?_
            obtain ⟨v86, e86, h⟩ := bd h
            refine J_iald (pc' := 87) C dX7_add_86 rfl e86 ?_
            obtain ⟨rfl, rfl⟩ := rt2 h
            exact J_iret C dX7_add_87 (Nat.zero_le _) (Nat.zero_le _)
          · rw [if_pos c43] at h
            refine J_bipush (pc' := 48) (v := (-4 : Int32)) C dX7_add_46 rfl (by decide) ?_
            obtain ⟨rfl, rfl⟩ := rt2 h
            exact J_iret C dX7_add_48 (Nat.zero_le _) (Nat.zero_le _)
        · rw [if_pos c29] at h
          refine J_bipush (pc' := 34) (v := (-3 : Int32)) C dX7_add_32 rfl (by decide) ?_
          obtain ⟨rfl, rfl⟩ := rt2 h
          exact J_iret C dX7_add_34 (Nat.zero_le _) (Nat.zero_le _)
    · rw [if_pos c13] at h
      refine J_iconst (pc' := 17) (v := (-1 : Int32)) C dX7_add_16 rfl (by decide) ?_
      obtain ⟨rfl, rfl⟩ := rt2 h
      exact J_iret C dX7_add_17 (Nat.zero_le _) (Nat.zero_le _)
def f_X7_breaksAlone_K101 (N : Nat) (k34 : Nat → Int32 → Int32 → Int32 → Int32 → Int32 → A_M → Option (Int32 × A_M)) (x0 : Nat) (x1 : Int32) (x2 : Int32) (x3 : Int32) (x5 : Int32) (s0 : Int32) (M : A_M) : Option (Int32 × A_M) :=
  k34 x0 x1 x2 x3 s0 (x5 + 1) M
set_option maxHeartbeats 4000000 in
set_option maxRecDepth 100000 in
theorem ok_X7_breaksAlone_K101 {X : JX} (C : Cx X cX7_breaksAlone RX7 6 (some .boolean) 1 22) (N : Nat) {k34 : Nat → Int32 → Int32 → Int32 → Int32 → Int32 → A_M → Option (Int32 × A_M)} (hk34 : ∀ (x0 : Nat) (x1 : Int32) (x2 : Int32) (x3 : Int32) (x4 : Int32) (x5 : Int32) (M : A_M) (r : Int32) (M' : A_M), k34 x0 x1 x2 x3 x4 x5 M = some (r, M') → J X 6 34 [(0, .ref x0), (1, .int x1), (2, .int x2), (3, .int x3), (4, .int x4), (5, .int x5)] [] M 0 0 (some (.int r)) M') : ∀ (x0 : Nat) (x1 : Int32) (x2 : Int32) (x3 : Int32) (x5 : Int32) (s0 : Int32) (M : A_M) (r : Int32) (M' : A_M), f_X7_breaksAlone_K101 N k34 x0 x1 x2 x3 x5 s0 M = some (r, M') → J X 6 101 [(0, .ref x0), (1, .int x1), (2, .int x2), (3, .int x3), (5, .int x5)] [.int s0] M 0 0 (some (.int r)) M' := by
  intro x0 x1 x2 x3 x5 s0 M r M' h
  unfold f_X7_breaksAlone_K101 at h
  refine J_istore (pc' := 103) (lv' := [(4, .int s0), (0, .ref x0), (1, .int x1), (2, .int x2), (3, .int x3), (5, .int x5)]) C dX7_breaksAlone_101 rfl (by decide) rfl ?_
  refine J_iinc (pc' := 106) (lv' := [(5, .int (x5 + 1)), (4, .int s0), (0, .ref x0), (1, .int x1), (2, .int x2), (3, .int x3)]) C 5 dX7_breaksAlone_103 rfl rfl rfl (by decide) rfl ?_
  refine J_goto (tgt := 34) C dX7_breaksAlone_106 (by decide) ?_
  refine J_sub (lv' := [(0, .ref x0), (1, .int x1), (2, .int x2), (3, .int x3), (4, .int s0), (5, .int (x5 + 1))]) [2, 3, 4, 5, 1, 0] rfl ?_
  exact hk34 _ _ _ _ _ _ _ _ _ h
def f_X7_breaksAlone_K96 (N : Nat) (k34 : Nat → Int32 → Int32 → Int32 → Int32 → Int32 → A_M → Option (Int32 × A_M)) (x0 : Nat) (x1 : Int32) (x2 : Int32) (x3 : Int32) (x5 : Int32) (M : A_M) : Option (Int32 × A_M) :=
  f_X7_breaksAlone_K101 N k34 x0 x1 x2 x3 x5 (1 : Int32) M
set_option maxHeartbeats 4000000 in
set_option maxRecDepth 100000 in
theorem ok_X7_breaksAlone_K96 {X : JX} (C : Cx X cX7_breaksAlone RX7 6 (some .boolean) 1 22) (N : Nat) {k34 : Nat → Int32 → Int32 → Int32 → Int32 → Int32 → A_M → Option (Int32 × A_M)} (hk34 : ∀ (x0 : Nat) (x1 : Int32) (x2 : Int32) (x3 : Int32) (x4 : Int32) (x5 : Int32) (M : A_M) (r : Int32) (M' : A_M), k34 x0 x1 x2 x3 x4 x5 M = some (r, M') → J X 6 34 [(0, .ref x0), (1, .int x1), (2, .int x2), (3, .int x3), (4, .int x4), (5, .int x5)] [] M 0 0 (some (.int r)) M') : ∀ (x0 : Nat) (x1 : Int32) (x2 : Int32) (x3 : Int32) (x5 : Int32) (M : A_M) (r : Int32) (M' : A_M), f_X7_breaksAlone_K96 N k34 x0 x1 x2 x3 x5 M = some (r, M') → J X 6 96 [(0, .ref x0), (1, .int x1), (2, .int x2), (3, .int x3), (5, .int x5)] [] M 0 0 (some (.int r)) M' := by
  intro x0 x1 x2 x3 x5 M r M' h
  unfold f_X7_breaksAlone_K96 at h
  refine J_iconst (pc' := 97) (v := (1 : Int32)) C dX7_breaksAlone_96 rfl (by decide) ?_
  refine J_goto (tgt := 101) C dX7_breaksAlone_97 (by decide) ?_
  refine J_sub (lv' := [(0, .ref x0), (1, .int x1), (2, .int x2), (3, .int x3), (5, .int x5)]) [0, 1, 2, 3, 4] rfl ?_
  exact ok_X7_breaksAlone_K101 C N hk34 _ _ _ _ _ _ _ _ _ h
def f_X7_breaksAlone_K93 (N : Nat) (k34 : Nat → Int32 → Int32 → Int32 → Int32 → Int32 → A_M → Option (Int32 × A_M)) (x0 : Nat) (x1 : Int32) (x2 : Int32) (x3 : Int32) (x5 : Int32) (s0 : Int32) (s1 : Int32) (M : A_M) : Option (Int32 × A_M) :=
  if s1 = s0 then
  (f_X7_breaksAlone_K101 N k34 x0 x1 x2 x3 x5 (0 : Int32) M)
  else
  (f_X7_breaksAlone_K96 N k34 x0 x1 x2 x3 x5 M)
set_option maxHeartbeats 4000000 in
set_option maxRecDepth 100000 in
theorem ok_X7_breaksAlone_K93 {X : JX} (C : Cx X cX7_breaksAlone RX7 6 (some .boolean) 1 22) (N : Nat) {k34 : Nat → Int32 → Int32 → Int32 → Int32 → Int32 → A_M → Option (Int32 × A_M)} (hk34 : ∀ (x0 : Nat) (x1 : Int32) (x2 : Int32) (x3 : Int32) (x4 : Int32) (x5 : Int32) (M : A_M) (r : Int32) (M' : A_M), k34 x0 x1 x2 x3 x4 x5 M = some (r, M') → J X 6 34 [(0, .ref x0), (1, .int x1), (2, .int x2), (3, .int x3), (4, .int x4), (5, .int x5)] [] M 0 0 (some (.int r)) M') : ∀ (x0 : Nat) (x1 : Int32) (x2 : Int32) (x3 : Int32) (x5 : Int32) (s0 : Int32) (s1 : Int32) (M : A_M) (r : Int32) (M' : A_M), f_X7_breaksAlone_K93 N k34 x0 x1 x2 x3 x5 s0 s1 M = some (r, M') → J X 6 93 [(0, .ref x0), (1, .int x1), (2, .int x2), (3, .int x3), (5, .int x5)] [.int s0, .int s1] M 0 0 (some (.int r)) M' := by
  intro x0 x1 x2 x3 x5 s0 s1 M r M' h
  unfold f_X7_breaksAlone_K93 at h
  refine J_icmp_eq (tgt := 100) (pc' := 96) C dX7_breaksAlone_93 (by decide) rfl (fun c93 => ?_) (fun c93 => ?_)
  · rw [if_pos c93] at h
    refine J_iconst (pc' := 101) (v := (0 : Int32)) C dX7_breaksAlone_100 rfl (by decide) ?_
    refine J_sub (lv' := [(0, .ref x0), (1, .int x1), (2, .int x2), (3, .int x3), (5, .int x5)]) [0, 1, 2, 3, 4] rfl ?_
    exact ok_X7_breaksAlone_K101 C N hk34 _ _ _ _ _ _ _ _ _ h
  · rw [if_neg c93] at h
    refine J_sub (lv' := [(0, .ref x0), (1, .int x1), (2, .int x2), (3, .int x3), (5, .int x5)]) [0, 1, 2, 3, 4] rfl ?_
    exact ok_X7_breaksAlone_K96 C N hk34 _ _ _ _ _ _ _ _ h
def f_X7_breaksAlone_K75 (N : Nat) (k34 : Nat → Int32 → Int32 → Int32 → Int32 → Int32 → A_M → Option (Int32 × A_M)) (x0 : Nat) (x1 : Int32) (x2 : Int32) (x3 : Int32) (x5 : Int32) (s0 : Int32) (M : A_M) : Option (Int32 × A_M) :=
  (gR M x0 7 8).bind fun v78 =>
  (ldI M v78 x1).bind fun v82 =>
  if x5 = (v82 - (1 : Int32)) then
  (f_X7_breaksAlone_K93 N k34 x0 x1 x2 x3 x5 (1 : Int32) s0 M)
  else
  (f_X7_breaksAlone_K93 N k34 x0 x1 x2 x3 x5 (0 : Int32) s0 M)
set_option maxHeartbeats 4000000 in
set_option maxRecDepth 100000 in
theorem ok_X7_breaksAlone_K75 {X : JX} (C : Cx X cX7_breaksAlone RX7 6 (some .boolean) 1 22) (N : Nat) {k34 : Nat → Int32 → Int32 → Int32 → Int32 → Int32 → A_M → Option (Int32 × A_M)} (hk34 : ∀ (x0 : Nat) (x1 : Int32) (x2 : Int32) (x3 : Int32) (x4 : Int32) (x5 : Int32) (M : A_M) (r : Int32) (M' : A_M), k34 x0 x1 x2 x3 x4 x5 M = some (r, M') → J X 6 34 [(0, .ref x0), (1, .int x1), (2, .int x2), (3, .int x3), (4, .int x4), (5, .int x5)] [] M 0 0 (some (.int r)) M') : ∀ (x0 : Nat) (x1 : Int32) (x2 : Int32) (x3 : Int32) (x5 : Int32) (s0 : Int32) (M : A_M) (r : Int32) (M' : A_M), f_X7_breaksAlone_K75 N k34 x0 x1 x2 x3 x5 s0 M = some (r, M') → J X 6 75 [(0, .ref x0), (1, .int x1), (2, .int x2), (3, .int x3), (5, .int x5)] [.int s0] M 0 0 (some (.int r)) M' := by
  intro x0 x1 x2 x3 x5 s0 M r M' h
  unfold f_X7_breaksAlone_K75 at h
  refine J_iload (pc' := 77) C 4 dX7_breaksAlone_75 rfl rfl ?_
  refine J_aload_n (pc' := 78) C 0 dX7_breaksAlone_77 rfl rfl rfl ?_
  obtain ⟨v78, e78, h⟩ := bd h
  refine jg_887 (pc' := 81) C dX7_breaksAlone_78 rfl (gR_some e78) ?_
  refine J_iload_n (pc' := 82) C 1 dX7_breaksAlone_81 rfl rfl rfl ?_
  obtain ⟨v82, e82, h⟩ := bd h
  refine J_iald (pc' := 83) C dX7_breaksAlone_82 rfl e82 ?_
  refine J_iconst (pc' := 84) (v := (1 : Int32)) C dX7_breaksAlone_83 rfl (by decide) ?_
  refine J_isub (pc' := 85) C dX7_breaksAlone_84 rfl ?_
  refine J_icmp_ne (tgt := 92) (pc' := 88) C dX7_breaksAlone_85 (by decide) rfl (fun c85 => ?_) (fun c85 => ?_)
  · rw [if_neg c85] at h
    refine J_iconst (pc' := 93) (v := (0 : Int32)) C dX7_breaksAlone_92 rfl (by decide) ?_
    refine J_sub (lv' := [(0, .ref x0), (1, .int x1), (2, .int x2), (3, .int x3), (5, .int x5)]) [0, 1, 2, 3, 4] rfl ?_
    exact ok_X7_breaksAlone_K93 C N hk34 _ _ _ _ _ _ _ _ _ _ h
  · rw [if_pos c85] at h
    refine J_iconst (pc' := 89) (v := (1 : Int32)) C dX7_breaksAlone_88 rfl (by decide) ?_
    refine J_goto (tgt := 93) C dX7_breaksAlone_89 (by decide) ?_
    refine J_sub (lv' := [(0, .ref x0), (1, .int x1), (2, .int x2), (3, .int x3), (5, .int x5)]) [0, 1, 2, 3, 4] rfl ?_
    exact ok_X7_breaksAlone_K93 C N hk34 _ _ _ _ _ _ _ _ _ _ h
def f_X7_breaksAlone_L34 (N : Nat) : Nat → Nat → Int32 → Int32 → Int32 → Int32 → Int32 → A_M → Option (Int32 × A_M)
  | 0, _, _, _, _, _, _, _ => none
  | n + 1, x0, x1, x2, x3, x4, x5, M =>
    (gR M x0 7 8).bind fun v37 =>
    (ldI M v37 x1).bind fun v41 =>
    if v41 ≤ x5 then
    ((zb x4).bind fun _ =>
    some (x4, M))
    else
    (if x2 = (3 : Int32) then
    (if x4 = 0 then
    ((gR M x0 7 7).bind fun v56 =>
    (ldJ M v56 x1).bind fun v60 =>
    bnd2 (f_X7_signAt N v60 x5 M) fun v63 M63 =>
    if v63 = x3 then
    (f_X7_breaksAlone_K75 N (f_X7_breaksAlone_L34 N n) x0 x1 x2 x3 x5 (1 : Int32) M63)
    else
    (f_X7_breaksAlone_K75 N (f_X7_breaksAlone_L34 N n) x0 x1 x2 x3 x5 (0 : Int32) M63))
    else
    (f_X7_breaksAlone_K96 N (f_X7_breaksAlone_L34 N n) x0 x1 x2 x3 x5 M))
    else
    ((zb x4).bind fun _ =>
    some (x4, M)))
set_option maxHeartbeats 4000000 in
set_option maxRecDepth 100000 in
theorem ok_X7_breaksAlone_L34 {X : JX} (C : Cx X cX7_breaksAlone RX7 6 (some .boolean) 1 22) (N : Nat) : ∀ (n : Nat) (x0 : Nat) (x1 : Int32) (x2 : Int32) (x3 : Int32) (x4 : Int32) (x5 : Int32) (M : A_M) (r : Int32) (M' : A_M), f_X7_breaksAlone_L34 N n x0 x1 x2 x3 x4 x5 M = some (r, M') → J X 6 34 [(0, .ref x0), (1, .int x1), (2, .int x2), (3, .int x3), (4, .int x4), (5, .int x5)] [] M 0 0 (some (.int r)) M' := by
  intro n
  induction n with
  | zero =>
    intro x0 x1 x2 x3 x4 x5 M r M' h
    cases h
  | succ n ih =>
    intro x0 x1 x2 x3 x4 x5 M r M' h
    rw [f_X7_breaksAlone_L34] at h
    refine J_iload (pc' := 36) C 5 dX7_breaksAlone_34 rfl rfl ?_
    refine J_aload_n (pc' := 37) C 0 dX7_breaksAlone_36 rfl rfl rfl ?_
    obtain ⟨v37, e37, h⟩ := bd h
    refine jg_887 (pc' := 40) C dX7_breaksAlone_37 rfl (gR_some e37) ?_
    refine J_iload_n (pc' := 41) C 1 dX7_breaksAlone_40 rfl rfl rfl ?_
    obtain ⟨v41, e41, h⟩ := bd h
    refine J_iald (pc' := 42) C dX7_breaksAlone_41 rfl e41 ?_
    refine J_icmp_ge (tgt := 109) (pc' := 45) C dX7_breaksAlone_42 (by decide) rfl (fun c42 => ?_) (fun c42 => ?_)
    · rw [if_pos c42] at h
      refine J_iload (pc' := 111) C 4 dX7_breaksAlone_109 rfl rfl ?_
      obtain ⟨_, z111, h⟩ := bd h
      obtain ⟨rfl, rfl⟩ := rt2 h
      exact J_zret C (zb_n (zb_some z111)) dX7_breaksAlone_111 (Nat.zero_le _) (Nat.zero_le _)
    · rw [if_neg c42] at h
      refine J_iload_n (pc' := 46) C 2 dX7_breaksAlone_45 rfl rfl rfl ?_
      refine J_iconst (pc' := 47) (v := (3 : Int32)) C dX7_breaksAlone_46 rfl (by decide) ?_
      refine J_icmp_ne (tgt := 109) (pc' := 50) C dX7_breaksAlone_47 (by decide) rfl (fun c47 => ?_) (fun c47 => ?_)
      · rw [if_neg c47] at h
        refine J_iload (pc' := 111) C 4 dX7_breaksAlone_109 rfl rfl ?_
        obtain ⟨_, z111, h⟩ := bd h
        obtain ⟨rfl, rfl⟩ := rt2 h
        exact J_zret C (zb_n (zb_some z111)) dX7_breaksAlone_111 (Nat.zero_le _) (Nat.zero_le _)
      · rw [if_pos c47] at h
        refine J_iload (pc' := 52) C 4 dX7_breaksAlone_50 rfl rfl ?_
        refine J_if_ne (tgt := 96) (pc' := 55) C dX7_breaksAlone_52 (by decide) rfl (fun c52 => ?_) (fun c52 => ?_)
        · rw [if_neg c52] at h
          refine J_sub (lv' := [(0, .ref x0), (1, .int x1), (2, .int x2), (3, .int x3), (5, .int x5)]) [0, 1, 2, 3, 5] rfl ?_
          exact ok_X7_breaksAlone_K96 C N ih _ _ _ _ _ _ _ _ h
        · rw [if_pos c52] at h
          refine J_aload_n (pc' := 56) C 0 dX7_breaksAlone_55 rfl rfl rfl ?_
          obtain ⟨v56, e56, h⟩ := bd h
          refine jg_886 (pc' := 59) C dX7_breaksAlone_56 rfl (gR_some e56) ?_
          refine J_iload_n (pc' := 60) C 1 dX7_breaksAlone_59 rfl rfl rfl ?_
          obtain ⟨v60, e60, h⟩ := bd h
          refine J_lald (pc' := 61) C dX7_breaksAlone_60 rfl e60 ?_
          refine J_iload (pc' := 63) C 5 dX7_breaksAlone_61 rfl rfl ?_
          obtain ⟨v63, M63, e63, h⟩ := bd2 h
          refine J_cS (pc' := 66) (st := []) (st2 := [.int v63]) (cs2 := 0) (sl2 := 0) C (ok_X7_signAt N e63) mw_X7_signAt wq_1222 rfl dX7_breaksAlone_63 rfl rfl (Nat.le_of_ble_eq_true rfl) (by decide) (by decide) rfl rfl rfl (Nat.zero_le _) (Nat.zero_le _) ?_
          refine J_iload_n (pc' := 67) C 3 dX7_breaksAlone_66 rfl rfl rfl ?_
          refine J_icmp_ne (tgt := 74) (pc' := 70) C dX7_breaksAlone_67 (by decide) rfl (fun c67 => ?_) (fun c67 => ?_)
          · rw [if_neg c67] at h
            refine J_iconst (pc' := 75) (v := (0 : Int32)) C dX7_breaksAlone_74 rfl (by decide) ?_
            refine J_sub (lv' := [(0, .ref x0), (1, .int x1), (2, .int x2), (3, .int x3), (5, .int x5)]) [0, 1, 2, 3, 5] rfl ?_
            exact ok_X7_breaksAlone_K75 C N ih _ _ _ _ _ _ _ _ _ h
          · rw [if_pos c67] at h
            refine J_iconst (pc' := 71) (v := (1 : Int32)) C dX7_breaksAlone_70 rfl (by decide) ?_
            refine J_goto (tgt := 75) C dX7_breaksAlone_71 (by decide) ?_
            refine J_sub (lv' := [(0, .ref x0), (1, .int x1), (2, .int x2), (3, .int x3), (5, .int x5)]) [0, 1, 2, 3, 5] rfl ?_
            exact ok_X7_breaksAlone_K75 C N ih _ _ _ _ _ _ _ _ _ h
def f_X7_breaksAlone_K29 (N : Nat) (x0 : Nat) (x1 : Int32) (x2 : Int32) (x3 : Int32) (s0 : Int32) (M : A_M) : Option (Int32 × A_M) :=
  f_X7_breaksAlone_L34 N N x0 x1 x2 x3 s0 (0 : Int32) M
set_option maxHeartbeats 4000000 in
set_option maxRecDepth 100000 in
theorem ok_X7_breaksAlone_K29 {X : JX} (C : Cx X cX7_breaksAlone RX7 6 (some .boolean) 1 22) (N : Nat) : ∀ (x0 : Nat) (x1 : Int32) (x2 : Int32) (x3 : Int32) (s0 : Int32) (M : A_M) (r : Int32) (M' : A_M), f_X7_breaksAlone_K29 N x0 x1 x2 x3 s0 M = some (r, M') → J X 6 29 [(0, .ref x0), (1, .int x1), (2, .int x2), (3, .int x3)] [.int s0] M 0 0 (some (.int r)) M' := by
  intro x0 x1 x2 x3 s0 M r M' h
  unfold f_X7_breaksAlone_K29 at h
  refine J_istore (pc' := 31) (lv' := [(4, .int s0), (0, .ref x0), (1, .int x1), (2, .int x2), (3, .int x3)]) C dX7_breaksAlone_29 rfl (by decide) rfl ?_
  refine J_iconst (pc' := 32) (v := (0 : Int32)) C dX7_breaksAlone_31 rfl (by decide) ?_
  refine J_istore (pc' := 34) (lv' := [(5, .int (0 : Int32)), (4, .int s0), (0, .ref x0), (1, .int x1), (2, .int x2), (3, .int x3)]) C dX7_breaksAlone_32 rfl (by decide) rfl ?_
  refine J_sub (lv' := [(0, .ref x0), (1, .int x1), (2, .int x2), (3, .int x3), (4, .int s0), (5, .int (0 : Int32))]) [2, 3, 4, 5, 1, 0] rfl ?_
  exact ok_X7_breaksAlone_L34 C N N _ _ _ _ _ _ _ _ _ h
def f_X7_breaksAlone_K24 (N : Nat) (x0 : Nat) (x1 : Int32) (x2 : Int32) (x3 : Int32) (M : A_M) : Option (Int32 × A_M) :=
  f_X7_breaksAlone_K29 N x0 x1 x2 x3 (1 : Int32) M
set_option maxHeartbeats 4000000 in
set_option maxRecDepth 100000 in
theorem ok_X7_breaksAlone_K24 {X : JX} (C : Cx X cX7_breaksAlone RX7 6 (some .boolean) 1 22) (N : Nat) : ∀ (x0 : Nat) (x1 : Int32) (x2 : Int32) (x3 : Int32) (M : A_M) (r : Int32) (M' : A_M), f_X7_breaksAlone_K24 N x0 x1 x2 x3 M = some (r, M') → J X 6 24 [(0, .ref x0), (1, .int x1), (2, .int x2), (3, .int x3)] [] M 0 0 (some (.int r)) M' := by
  intro x0 x1 x2 x3 M r M' h
  unfold f_X7_breaksAlone_K24 at h
  refine J_iconst (pc' := 25) (v := (1 : Int32)) C dX7_breaksAlone_24 rfl (by decide) ?_
  refine J_goto (tgt := 29) C dX7_breaksAlone_25 (by decide) ?_
  refine J_sub (lv' := [(0, .ref x0), (1, .int x1), (2, .int x2), (3, .int x3)]) [0, 1, 2, 3] rfl ?_
  exact ok_X7_breaksAlone_K29 C N _ _ _ _ _ _ _ _ h
def f_X7_breaksAlone_K28 (N : Nat) (x0 : Nat) (x1 : Int32) (x2 : Int32) (x3 : Int32) (M : A_M) : Option (Int32 × A_M) :=
  f_X7_breaksAlone_K29 N x0 x1 x2 x3 (0 : Int32) M
set_option maxHeartbeats 4000000 in
set_option maxRecDepth 100000 in
theorem ok_X7_breaksAlone_K28 {X : JX} (C : Cx X cX7_breaksAlone RX7 6 (some .boolean) 1 22) (N : Nat) : ∀ (x0 : Nat) (x1 : Int32) (x2 : Int32) (x3 : Int32) (M : A_M) (r : Int32) (M' : A_M), f_X7_breaksAlone_K28 N x0 x1 x2 x3 M = some (r, M') → J X 6 28 [(0, .ref x0), (1, .int x1), (2, .int x2), (3, .int x3)] [] M 0 0 (some (.int r)) M' := by
  intro x0 x1 x2 x3 M r M' h
  unfold f_X7_breaksAlone_K28 at h
  refine J_iconst (pc' := 29) (v := (0 : Int32)) C dX7_breaksAlone_28 rfl (by decide) ?_
  refine J_sub (lv' := [(0, .ref x0), (1, .int x1), (2, .int x2), (3, .int x3)]) [0, 1, 2, 3] rfl ?_
  exact ok_X7_breaksAlone_K29 C N _ _ _ _ _ _ _ _ h
def f_X7_breaksAlone (N : Nat) (a0 : Nat) (a1 : Int32) (a2 : Int32) (a3 : Int32) (M : A_M) : Option (Int32 × A_M) :=
  (gR M a0 7 8).bind fun v1 =>
  (ldI M v1 a1).bind fun v5 =>
  if v5 = 0 then
  (f_X7_breaksAlone_K24 N a0 a1 a2 a3 M)
  else
  (if a2 = (1 : Int32) then
  ((gR M a0 7 8).bind fun v15 =>
  (ldI M v15 a1).bind fun v19 =>
  if v19 ≤ a3 then
  (f_X7_breaksAlone_K28 N a0 a1 a2 a3 M)
  else
  (f_X7_breaksAlone_K24 N a0 a1 a2 a3 M))
  else
  (f_X7_breaksAlone_K28 N a0 a1 a2 a3 M))
set_option maxHeartbeats 4000000 in
set_option maxRecDepth 100000 in
theorem ok_X7_breaksAlone (N : Nat) {a0 : Nat} {a1 : Int32} {a2 : Int32} {a3 : Int32} {M : A_M} {r : Int32} {M' : A_M} (h : f_X7_breaksAlone N a0 a1 a2 a3 M = some (r, M')) : Runs yX7_breaksAlone cX7_breaksAlone 6 (some .boolean) 1 22 0 0 [.ref a0, .int a1, .int a2, .int a3] M (some (.int r)) M' := by
  refine Runs.intro (by decide) (Nat.le_of_ble_eq_true rfl) (fun X C hnm hMC hMS => ?_)
  have C : Cx X cX7_breaksAlone RX7 6 (some .boolean) 1 22 := C
  show J X 6 0 [(0, .ref a0), (1, .int a1), (2, .int a2), (3, .int a3)] [] M 0 0 (some (.int r)) M'
  unfold f_X7_breaksAlone at h
  refine J_aload_n (pc' := 1) C 0 dX7_breaksAlone_0 rfl rfl rfl ?_
  obtain ⟨v1, e1, h⟩ := bd h
  refine jg_887 (pc' := 4) C dX7_breaksAlone_1 rfl (gR_some e1) ?_
  refine J_iload_n (pc' := 5) C 1 dX7_breaksAlone_4 rfl rfl rfl ?_
  obtain ⟨v5, e5, h⟩ := bd h
  refine J_iald (pc' := 6) C dX7_breaksAlone_5 rfl e5 ?_
  refine J_if_eq (tgt := 24) (pc' := 9) C dX7_breaksAlone_6 (by decide) rfl (fun c6 => ?_) (fun c6 => ?_)
  · rw [if_pos c6] at h
    refine J_sub (lv' := [(0, .ref a0), (1, .int a1), (2, .int a2), (3, .int a3)]) [0, 1, 2, 3] rfl ?_
    exact ok_X7_breaksAlone_K24 C N _ _ _ _ _ _ _ h
  · rw [if_neg c6] at h
    refine J_iload_n (pc' := 10) C 2 dX7_breaksAlone_9 rfl rfl rfl ?_
    refine J_iconst (pc' := 11) (v := (1 : Int32)) C dX7_breaksAlone_10 rfl (by decide) ?_
    refine J_icmp_ne (tgt := 28) (pc' := 14) C dX7_breaksAlone_11 (by decide) rfl (fun c11 => ?_) (fun c11 => ?_)
    · rw [if_neg c11] at h
      refine J_sub (lv' := [(0, .ref a0), (1, .int a1), (2, .int a2), (3, .int a3)]) [0, 1, 2, 3] rfl ?_
      exact ok_X7_breaksAlone_K28 C N _ _ _ _ _ _ _ h
    · rw [if_pos c11] at h
      refine J_aload_n (pc' := 15) C 0 dX7_breaksAlone_14 rfl rfl rfl ?_
      obtain ⟨v15, e15, h⟩ := bd h
      refine jg_887 (pc' := 18) C dX7_breaksAlone_15 rfl (gR_some e15) ?_
      refine J_iload_n (pc' := 19) C 1 dX7_breaksAlone_18 rfl rfl rfl ?_
      obtain ⟨v19, e19, h⟩ := bd h
      refine J_iald (pc' := 20) C dX7_breaksAlone_19 rfl e19 ?_
      refine J_iload_n (pc' := 21) C 3 dX7_breaksAlone_20 rfl rfl rfl ?_
      refine J_icmp_le (tgt := 28) (pc' := 24) C dX7_breaksAlone_21 (by decide) rfl (fun c21 => ?_) (fun c21 => ?_)
      · rw [if_pos c21] at h
        refine J_sub (lv' := [(0, .ref a0), (1, .int a1), (2, .int a2), (3, .int a3)]) [0, 1, 2, 3] rfl ?_
        exact ok_X7_breaksAlone_K28 C N _ _ _ _ _ _ _ h
      · rw [if_neg c21] at h
        refine J_sub (lv' := [(0, .ref a0), (1, .int a1), (2, .int a2), (3, .int a3)]) [0, 1, 2, 3] rfl ?_
        exact ok_X7_breaksAlone_K24 C N _ _ _ _ _ _ _ h
def f_X7_breakBoth_K65 (N : Nat) (x0 : Nat) (x1 : Int32) (x2 : Int32) (x3 : Int32) (s0 : Int32) (M : A_M) : Option (Int32 × A_M) :=
  if s0 = 0 then
  (if x3 = (2 : Int32) then
  ((gR M x0 7 7).bind fun v78 =>
  (ldJ M v78 x1).bind fun v82 =>
  (gR M x0 7 8).bind fun v84 =>
  (ldI M v84 x1).bind fun v88 =>
  (gR M x0 7 7).bind fun v90 =>
  (ldJ M v90 x2).bind fun v94 =>
  (gR M x0 7 8).bind fun v96 =>
  (ldI M v96 x2).bind fun v100 =>
  bnd2 (f_X7_isAhead N v82 v88 v94 v100 M) fun v101 M101 =>
  if v101 = 0 then
  (some ((1 : Int32), M101))
  else
  (some ((0 : Int32), M101)))
  else
  (some ((0 : Int32), M)))
  else
  (some ((1 : Int32), M))
set_option maxHeartbeats 4000000 in
set_option maxRecDepth 100000 in
theorem ok_X7_breakBoth_K65 {X : JX} (C : Cx X cX7_breakBoth RX7 5 (some .boolean) 1 25) (N : Nat) : ∀ (x0 : Nat) (x1 : Int32) (x2 : Int32) (x3 : Int32) (s0 : Int32) (M : A_M) (r : Int32) (M' : A_M), f_X7_breakBoth_K65 N x0 x1 x2 x3 s0 M = some (r, M') → J X 5 65 [(0, .ref x0), (1, .int x1), (2, .int x2), (3, .int x3)] [.int s0] M 0 0 (some (.int r)) M' := by
  intro x0 x1 x2 x3 s0 M r M' h
  unfold f_X7_breakBoth_K65 at h
  refine J_istore (pc' := 67) (lv' := [(4, .int s0), (0, .ref x0), (1, .int x1), (2, .int x2), (3, .int x3)]) C dX7_breakBoth_65 rfl (by decide) rfl ?_
  refine J_iload (pc' := 69) C 0 dX7_breakBoth_67 rfl rfl ?_
  refine J_if_ne (tgt := 107) (pc' := 72) C dX7_breakBoth_69 (by decide) rfl (fun c69 => ?_) (fun c69 => ?_)
  · rw [if_neg c69] at h
    refine J_iconst (pc' := 108) (v := (1 : Int32)) C dX7_breakBoth_107 rfl (by decide) ?_
    refine J_goto (tgt := 112) C dX7_breakBoth_108 (by decide) ?_
    obtain ⟨rfl, rfl⟩ := rt2 h
    exact J_zret C rfl dX7_breakBoth_112 (Nat.zero_le _) (Nat.zero_le _)
  · rw [if_pos c69] at h
    refine J_iload_n (pc' := 73) C 4 dX7_breakBoth_72 rfl rfl rfl ?_
    refine J_iconst (pc' := 74) (v := (2 : Int32)) C dX7_breakBoth_73 rfl (by decide) ?_
    refine J_icmp_ne (tgt := 111) (pc' := 77) C dX7_breakBoth_74 (by decide) rfl (fun c74 => ?_) (fun c74 => ?_)
    · rw [if_neg c74] at h
      refine J_iconst (pc' := 112) (v := (0 : Int32)) C dX7_breakBoth_111 rfl (by decide) ?_
      obtain ⟨rfl, rfl⟩ := rt2 h
      exact J_zret C rfl dX7_breakBoth_112 (Nat.zero_le _) (Nat.zero_le _)
    · rw [if_pos c74] at h
      refine J_aload_n (pc' := 78) C 1 dX7_breakBoth_77 rfl rfl rfl ?_
      obtain ⟨v78, e78, h⟩ := bd h
      refine jg_886 (pc' := 81) C dX7_breakBoth_78 rfl (gR_some e78) ?_
      refine J_iload_n (pc' := 82) C 2 dX7_breakBoth_81 rfl rfl rfl ?_
      obtain ⟨v82, e82, h⟩ := bd h
      refine J_lald (pc' := 83) C dX7_breakBoth_82 rfl e82 ?_
      refine J_aload_n (pc' := 84) C 1 dX7_breakBoth_83 rfl rfl rfl ?_
      obtain ⟨v84, e84, h⟩ := bd h
      refine jg_887 (pc' := 87) C dX7_breakBoth_84 rfl (gR_some e84) ?_
      refine J_iload_n (pc' := 88) C 2 dX7_breakBoth_87 rfl rfl rfl ?_
      obtain ⟨v88, e88, h⟩ := bd h
      refine J_iald (pc' := 89) C dX7_breakBoth_88 rfl e88 ?_
      refine J_aload_n (pc' := 90) C 1 dX7_breakBoth_89 rfl rfl rfl ?_
      obtain ⟨v90, e90, h⟩ := bd h
      refine jg_886 (pc' := 93) C dX7_breakBoth_90 rfl (gR_some e90) ?_
      refine J_iload_n (pc' := 94) C 3 dX7_breakBoth_93 rfl rfl rfl ?_
      obtain ⟨v94, e94, h⟩ := bd h
      refine J_lald (pc' := 95) C dX7_breakBoth_94 rfl e94 ?_
      refine J_aload_n (pc' := 96) C 1 dX7_breakBoth_95 rfl rfl rfl ?_
      obtain ⟨v96, e96, h⟩ := bd h
      refine jg_887 (pc' := 99) C dX7_breakBoth_96 rfl (gR_some e96) ?_
      refine J_iload_n (pc' := 100) C 3 dX7_breakBoth_99 rfl rfl rfl ?_
      obtain ⟨v100, e100, h⟩ := bd h
      refine J_iald (pc' := 101) C dX7_breakBoth_100 rfl e100 ?_
      obtain ⟨v101, M101, e101, h⟩ := bd2 h
      refine J_cS (pc' := 104) (st := []) (st2 := [.int v101]) (cs2 := 0) (sl2 := 0) C (ok_X7_isAhead N e101) mw_X7_isAhead wq_1175 rfl dX7_breakBoth_101 rfl rfl (Nat.le_of_ble_eq_true rfl) (by decide) (by decide) rfl rfl rfl (Nat.zero_le _) (Nat.zero_le _) ?_
      refine J_if_ne (tgt := 111) (pc' := 107) C dX7_breakBoth_104 (by decide) rfl (fun c104 => ?_) (fun c104 => ?_)
      · rw [if_neg c104] at h
        refine J_iconst (pc' := 112) (v := (0 : Int32)) C dX7_breakBoth_111 rfl (by decide) ?_
        obtain ⟨rfl, rfl⟩ := rt2 h
        exact J_zret C rfl dX7_breakBoth_112 (Nat.zero_le _) (Nat.zero_le _)
      · rw [if_pos c104] at h
        refine J_iconst (pc' := 108) (v := (1 : Int32)) C dX7_breakBoth_107 rfl (by decide) ?_
        refine J_goto (tgt := 112) C dX7_breakBoth_108 (by decide) ?_
        obtain ⟨rfl, rfl⟩ := rt2 h
        exact J_zret C rfl dX7_breakBoth_112 (Nat.zero_le _) (Nat.zero_le _)
def f_X7_breakBoth_K60 (N : Nat) (x0 : Nat) (x1 : Int32) (x2 : Int32) (x3 : Int32) (M : A_M) : Option (Int32 × A_M) :=
  f_X7_breakBoth_K65 N x0 x1 x2 x3 (1 : Int32) M
set_option maxHeartbeats 4000000 in
set_option maxRecDepth 100000 in
theorem ok_X7_breakBoth_K60 {X : JX} (C : Cx X cX7_breakBoth RX7 5 (some .boolean) 1 25) (N : Nat) : ∀ (x0 : Nat) (x1 : Int32) (x2 : Int32) (x3 : Int32) (M : A_M) (r : Int32) (M' : A_M), f_X7_breakBoth_K60 N x0 x1 x2 x3 M = some (r, M') → J X 5 60 [(0, .ref x0), (1, .int x1), (2, .int x2), (3, .int x3)] [] M 0 0 (some (.int r)) M' := by
  intro x0 x1 x2 x3 M r M' h
  unfold f_X7_breakBoth_K60 at h
  refine J_iconst (pc' := 61) (v := (1 : Int32)) C dX7_breakBoth_60 rfl (by decide) ?_
  refine J_goto (tgt := 65) C dX7_breakBoth_61 (by decide) ?_
  refine J_sub (lv' := [(0, .ref x0), (1, .int x1), (2, .int x2), (3, .int x3)]) [0, 1, 2, 3] rfl ?_
  exact ok_X7_breakBoth_K65 C N _ _ _ _ _ _ _ _ h
def f_X7_breakBoth (N : Nat) (a0 : Nat) (a1 : Int32) (a2 : Int32) (a3 : Int32) (M : A_M) : Option (Int32 × A_M) :=
  (gR M a0 7 7).bind fun v1 =>
  (ldJ M v1 a1).bind fun v5 =>
  (gR M a0 7 8).bind fun v7 =>
  (ldI M v7 a1).bind fun v11 =>
  (gR M a0 7 7).bind fun v13 =>
  (ldJ M v13 a2).bind fun v17 =>
  (gR M a0 7 8).bind fun v19 =>
  (ldI M v19 a2).bind fun v23 =>
  bnd2 (f_X7_begins N v5 v11 v17 v23 M) fun v24 M24 =>
  if v24 = 0 then
  ((gR M24 a0 7 7).bind fun v31 =>
  (ldJ M24 v31 a2).bind fun v35 =>
  (gR M24 a0 7 8).bind fun v37 =>
  (ldI M24 v37 a2).bind fun v41 =>
  (gR M24 a0 7 7).bind fun v43 =>
  (ldJ M24 v43 a1).bind fun v47 =>
  (gR M24 a0 7 8).bind fun v49 =>
  (ldI M24 v49 a1).bind fun v53 =>
  bnd2 (f_X7_begins N v35 v41 v47 v53 M24) fun v54 M54 =>
  if v54 = 0 then
  (f_X7_breakBoth_K65 N a0 a1 a2 a3 (0 : Int32) M54)
  else
  (f_X7_breakBoth_K60 N a0 a1 a2 a3 M54))
  else
  (f_X7_breakBoth_K60 N a0 a1 a2 a3 M24)
set_option maxHeartbeats 4000000 in
set_option maxRecDepth 100000 in
theorem ok_X7_breakBoth (N : Nat) {a0 : Nat} {a1 : Int32} {a2 : Int32} {a3 : Int32} {M : A_M} {r : Int32} {M' : A_M} (h : f_X7_breakBoth N a0 a1 a2 a3 M = some (r, M')) : Runs yX7_breakBoth cX7_breakBoth 5 (some .boolean) 1 25 0 0 [.ref a0, .int a1, .int a2, .int a3] M (some (.int r)) M' := by
  refine Runs.intro (by decide) (Nat.le_of_ble_eq_true rfl) (fun X C hnm hMC hMS => ?_)
  have C : Cx X cX7_breakBoth RX7 5 (some .boolean) 1 25 := C
  show J X 5 0 [(0, .ref a0), (1, .int a1), (2, .int a2), (3, .int a3)] [] M 0 0 (some (.int r)) M'
  unfold f_X7_breakBoth at h
  refine J_aload_n (pc' := 1) C 0 dX7_breakBoth_0 rfl rfl rfl ?_
  obtain ⟨v1, e1, h⟩ := bd h
  refine jg_886 (pc' := 4) C dX7_breakBoth_1 rfl (gR_some e1) ?_
  refine J_iload_n (pc' := 5) C 1 dX7_breakBoth_4 rfl rfl rfl ?_
  obtain ⟨v5, e5, h⟩ := bd h
  refine J_lald (pc' := 6) C dX7_breakBoth_5 rfl e5 ?_
  refine J_aload_n (pc' := 7) C 0 dX7_breakBoth_6 rfl rfl rfl ?_
  obtain ⟨v7, e7, h⟩ := bd h
  refine jg_887 (pc' := 10) C dX7_breakBoth_7 rfl (gR_some e7) ?_
  refine J_iload_n (pc' := 11) C 1 dX7_breakBoth_10 rfl rfl rfl ?_
  obtain ⟨v11, e11, h⟩ := bd h
  refine J_iald (pc' := 12) C dX7_breakBoth_11 rfl e11 ?_
  refine J_aload_n (pc' := 13) C 0 dX7_breakBoth_12 rfl rfl rfl ?_
  obtain ⟨v13, e13, h⟩ := bd h
  refine jg_886 (pc' := 16) C dX7_breakBoth_13 rfl (gR_some e13) ?_
  refine J_iload_n (pc' := 17) C 2 dX7_breakBoth_16 rfl rfl rfl ?_
  obtain ⟨v17, e17, h⟩ := bd h
  refine J_lald (pc' := 18) C dX7_breakBoth_17 rfl e17 ?_
  refine J_aload_n (pc' := 19) C 0 dX7_breakBoth_18 rfl rfl rfl ?_
  obtain ⟨v19, e19, h⟩ := bd h
  refine jg_887 (pc' := 22) C dX7_breakBoth_19 rfl (gR_some e19) ?_
  refine J_iload_n (pc' := 23) C 2 dX7_breakBoth_22 rfl rfl rfl ?_
  obtain ⟨v23, e23, h⟩ := bd h
  refine J_iald (pc' := 24) C dX7_breakBoth_23 rfl e23 ?_
  obtain ⟨v24, M24, e24, h⟩ := bd2 h
  refine J_cS (pc' := 27) (st := []) (st2 := [.int v24]) (cs2 := 0) (sl2 := 0) C (ok_X7_begins N e24) mw_X7_begins wq_1249 rfl dX7_breakBoth_24 rfl rfl (Nat.le_of_ble_eq_true rfl) (by decide) (by decide) rfl rfl rfl (Nat.zero_le _) (Nat.zero_le _) ?_
  refine J_if_ne (tgt := 60) (pc' := 30) C dX7_breakBoth_27 (by decide) rfl (fun c27 => ?_) (fun c27 => ?_)
  · rw [if_neg c27] at h
    refine J_sub (lv' := [(0, .ref a0), (1, .int a1), (2, .int a2), (3, .int a3)]) [0, 1, 2, 3] rfl ?_
    exact ok_X7_breakBoth_K60 C N _ _ _ _ _ _ _ h
  · rw [if_pos c27] at h
    refine J_aload_n (pc' := 31) C 0 dX7_breakBoth_30 rfl rfl rfl ?_
    obtain ⟨v31, e31, h⟩ := bd h
    refine jg_886 (pc' := 34) C dX7_breakBoth_31 rfl (gR_some e31) ?_
    refine J_iload_n (pc' := 35) C 2 dX7_breakBoth_34 rfl rfl rfl ?_
    obtain ⟨v35, e35, h⟩ := bd h
    refine J_lald (pc' := 36) C dX7_breakBoth_35 rfl e35 ?_
    refine J_aload_n (pc' := 37) C 0 dX7_breakBoth_36 rfl rfl rfl ?_
    obtain ⟨v37, e37, h⟩ := bd h
    refine jg_887 (pc' := 40) C dX7_breakBoth_37 rfl (gR_some e37) ?_
    refine J_iload_n (pc' := 41) C 2 dX7_breakBoth_40 rfl rfl rfl ?_
    obtain ⟨v41, e41, h⟩ := bd h
    refine J_iald (pc' := 42) C dX7_breakBoth_41 rfl e41 ?_
    refine J_aload_n (pc' := 43) C 0 dX7_breakBoth_42 rfl rfl rfl ?_
    obtain ⟨v43, e43, h⟩ := bd h
    refine jg_886 (pc' := 46) C dX7_breakBoth_43 rfl (gR_some e43) ?_
    refine J_iload_n (pc' := 47) C 1 dX7_breakBoth_46 rfl rfl rfl ?_
    obtain ⟨v47, e47, h⟩ := bd h
    refine J_lald (pc' := 48) C dX7_breakBoth_47 rfl e47 ?_
    refine J_aload_n (pc' := 49) C 0 dX7_breakBoth_48 rfl rfl rfl ?_
    obtain ⟨v49, e49, h⟩ := bd h
    refine jg_887 (pc' := 52) C dX7_breakBoth_49 rfl (gR_some e49) ?_
    refine J_iload_n (pc' := 53) C 1 dX7_breakBoth_52 rfl rfl rfl ?_
    obtain ⟨v53, e53, h⟩ := bd h
    refine J_iald (pc' := 54) C dX7_breakBoth_53 rfl e53 ?_
    obtain ⟨v54, M54, e54, h⟩ := bd2 h
    refine J_cS (pc' := 57) (st := []) (st2 := [.int v54]) (cs2 := 0) (sl2 := 0) C (ok_X7_begins N e54) mw_X7_begins wq_1249 rfl dX7_breakBoth_54 rfl rfl (Nat.le_of_ble_eq_true rfl) (by decide) (by decide) rfl rfl rfl (Nat.zero_le _) (Nat.zero_le _) ?_
    refine J_if_eq (tgt := 64) (pc' := 60) C dX7_breakBoth_57 (by decide) rfl (fun c57 => ?_) (fun c57 => ?_)
    · rw [if_pos c57] at h
      refine J_iconst (pc' := 65) (v := (0 : Int32)) C dX7_breakBoth_64 rfl (by decide) ?_
      refine J_sub (lv' := [(0, .ref a0), (1, .int a1), (2, .int a2), (3, .int a3)]) [0, 1, 2, 3] rfl ?_
      exact ok_X7_breakBoth_K65 C N _ _ _ _ _ _ _ _ h
    · rw [if_neg c57] at h
      refine J_sub (lv' := [(0, .ref a0), (1, .int a1), (2, .int a2), (3, .int a3)]) [0, 1, 2, 3] rfl ?_
      exact ok_X7_breakBoth_K60 C N _ _ _ _ _ _ _ h
def f_X7_isOfKind_K97 (N : Nat) (x0 : Nat) (x3 : Int32) (x5 : Int32) (x6 : Int32) (s0 : Int32) (s1 : Nat) (M : A_M) : Option (Int32 × A_M) :=
  (pV M s1 7 36 (.int s0)).bind fun M97 =>
  if x3 = 0 then
  ((gI M97 x0 7 37).bind fun v121 =>
  (pV M97 x0 7 37 (.int v121)).bind fun M124 =>
  some ((0 : Int32), M124))
  else
  (if x5 = 0 then
  ((pV M97 x0 7 37 (.int x6)).bind fun M124 =>
  some ((0 : Int32), M124))
  else
  ((pV M97 x0 7 37 (.int (-6 : Int32))).bind fun M124 =>
  some ((0 : Int32), M124)))
set_option maxHeartbeats 4000000 in
set_option maxRecDepth 100000 in
theorem ok_X7_isOfKind_K97 {X : JX} (C : Cx X cX7_isOfKind RX7 8 (some .boolean) 2 49) (N : Nat) : ∀ (x0 : Nat) (x3 : Int32) (x5 : Int32) (x6 : Int32) (s0 : Int32) (s1 : Nat) (M : A_M) (r : Int32) (M' : A_M), f_X7_isOfKind_K97 N x0 x3 x5 x6 s0 s1 M = some (r, M') → J X 8 97 [(0, .ref x0), (3, .int x3), (5, .int x5), (6, .int x6)] [.int s0, .ref s1] M 0 0 (some (.int r)) M' := by
  intro x0 x3 x5 x6 s0 s1 M r M' h
  unfold f_X7_isOfKind_K97 at h
  obtain ⟨M97, e97, h⟩ := bd h
  refine jp_915 (pc' := 100) C (fun _ => ⟨rfl, rfl⟩) dX7_isOfKind_97 rfl e97 ?_
  refine J_aload_n (pc' := 101) C 0 dX7_isOfKind_100 rfl rfl rfl ?_
  refine J_iload_n (pc' := 102) C 1 dX7_isOfKind_101 rfl rfl rfl ?_
  refine J_if_eq (tgt := 120) (pc' := 105) C dX7_isOfKind_102 (by decide) rfl (fun c102 => ?_) (fun c102 => ?_)
  · rw [if_pos c102] at h
    refine J_aload_n (pc' := 121) C 0 dX7_isOfKind_120 rfl rfl rfl ?_
    obtain ⟨v121, e121, h⟩ := bd h
    refine jg_916 (pc' := 124) C dX7_isOfKind_121 rfl (gI_some e121) ?_
    obtain ⟨M124, e124, h⟩ := bd h
    refine jp_916 (pc' := 127) C (fun _ => ⟨rfl, rfl⟩) dX7_isOfKind_124 rfl e124 ?_
    refine J_iconst (pc' := 128) (v := (0 : Int32)) C dX7_isOfKind_127 rfl (by decide) ?_
    obtain ⟨rfl, rfl⟩ := rt2 h
    exact J_zret C rfl dX7_isOfKind_128 (Nat.zero_le _) (Nat.zero_le _)
  · rw [if_neg c102] at h
    refine J_iload (pc' := 107) C 2 dX7_isOfKind_105 rfl rfl ?_
    refine J_if_eq (tgt := 115) (pc' := 110) C dX7_isOfKind_107 (by decide) rfl (fun c107 => ?_) (fun c107 => ?_)
    · rw [if_pos c107] at h
      refine J_iload (pc' := 117) C 3 dX7_isOfKind_115 rfl rfl ?_
      refine J_goto (tgt := 124) C dX7_isOfKind_117 (by decide) ?_
      obtain ⟨M124, e124, h⟩ := bd h
      refine jp_916 (pc' := 127) C (fun _ => ⟨rfl, rfl⟩) dX7_isOfKind_124 rfl e124 ?_
      refine J_iconst (pc' := 128) (v := (0 : Int32)) C dX7_isOfKind_127 rfl (by decide) ?_
      obtain ⟨rfl, rfl⟩ := rt2 h
      exact J_zret C rfl dX7_isOfKind_128 (Nat.zero_le _) (Nat.zero_le _)
    · rw [if_neg c107] at h
      refine J_bipush (pc' := 112) (v := (-6 : Int32)) C dX7_isOfKind_110 rfl (by decide) ?_
      refine J_goto (tgt := 124) C dX7_isOfKind_112 (by decide) ?_
      obtain ⟨M124, e124, h⟩ := bd h
      refine jp_916 (pc' := 127) C (fun _ => ⟨rfl, rfl⟩) dX7_isOfKind_124 rfl e124 ?_
      refine J_iconst (pc' := 128) (v := (0 : Int32)) C dX7_isOfKind_127 rfl (by decide) ?_
      obtain ⟨rfl, rfl⟩ := rt2 h
      exact J_zret C rfl dX7_isOfKind_128 (Nat.zero_le _) (Nat.zero_le _)
def f_X7_isOfKind_K83 (N : Nat) (x0 : Nat) (x3 : Int32) (x4 : Int32) (x5 : Int32) (x6 : Int32) (M : A_M) : Option (Int32 × A_M) :=
  if x3 = 0 then
  ((gI M x0 7 36).bind fun v94 =>
  f_X7_isOfKind_K97 N x0 x3 x5 x6 v94 x0 M)
  else
  (f_X7_isOfKind_K97 N x0 x3 x5 x6 x4 x0 M)
set_option maxHeartbeats 4000000 in
set_option maxRecDepth 100000 in
theorem ok_X7_isOfKind_K83 {X : JX} (C : Cx X cX7_isOfKind RX7 8 (some .boolean) 2 49) (N : Nat) : ∀ (x0 : Nat) (x3 : Int32) (x4 : Int32) (x5 : Int32) (x6 : Int32) (M : A_M) (r : Int32) (M' : A_M), f_X7_isOfKind_K83 N x0 x3 x4 x5 x6 M = some (r, M') → J X 8 83 [(0, .ref x0), (3, .int x3), (4, .int x4), (5, .int x5), (6, .int x6)] [] M 0 0 (some (.int r)) M' := by
  intro x0 x3 x4 x5 x6 M r M' h
  unfold f_X7_isOfKind_K83 at h
  refine J_aload_n (pc' := 84) C 0 dX7_isOfKind_83 rfl rfl rfl ?_
  refine J_iload_n (pc' := 85) C 1 dX7_isOfKind_84 rfl rfl rfl ?_
  refine J_if_eq (tgt := 93) (pc' := 88) C dX7_isOfKind_85 (by decide) rfl (fun c85 => ?_) (fun c85 => ?_)
  · rw [if_pos c85] at h
    refine J_aload_n (pc' := 94) C 0 dX7_isOfKind_93 rfl rfl rfl ?_
    obtain ⟨v94, e94, h⟩ := bd h
    refine jg_915 (pc' := 97) C dX7_isOfKind_94 rfl (gI_some e94) ?_
    refine J_sub (lv' := [(0, .ref x0), (3, .int x3), (5, .int x5), (6, .int x6)]) [0, 1, 3, 4] rfl ?_
    exact ok_X7_isOfKind_K97 C N _ _ _ _ _ _ _ _ _ h
  · rw [if_neg c85] at h
    refine J_iload (pc' := 90) C 2 dX7_isOfKind_88 rfl rfl ?_
    refine J_goto (tgt := 97) C dX7_isOfKind_90 (by decide) ?_
    refine J_sub (lv' := [(0, .ref x0), (3, .int x3), (5, .int x5), (6, .int x6)]) [0, 1, 3, 4] rfl ?_
    exact ok_X7_isOfKind_K97 C N _ _ _ _ _ _ _ _ _ h
def f_X7_isOfKind_K73 (N : Nat) (k3 : Nat → Int32 → Int32 → Int32 → Int32 → A_M → Option (Int32 × A_M)) (x0 : Nat) (x1 : Int32) (x2 : Int32) (x3 : Int32) (x4 : Int32) (x5 : Int32) (x6 : Int32) (M : A_M) : Option (Int32 × A_M) :=
  if x5 = 0 then
  (if x6 < 0 then
  (k3 x0 x1 x2 x3 (x4 + 1) M)
  else
  (f_X7_isOfKind_K83 N x0 x3 x4 x5 x6 M))
  else
  (f_X7_isOfKind_K83 N x0 x3 x4 x5 x6 M)
set_option maxHeartbeats 4000000 in
set_option maxRecDepth 100000 in
theorem ok_X7_isOfKind_K73 {X : JX} (C : Cx X cX7_isOfKind RX7 8 (some .boolean) 2 49) (N : Nat) {k3 : Nat → Int32 → Int32 → Int32 → Int32 → A_M → Option (Int32 × A_M)} (hk3 : ∀ (x0 : Nat) (x1 : Int32) (x2 : Int32) (x3 : Int32) (x4 : Int32) (M : A_M) (r : Int32) (M' : A_M), k3 x0 x1 x2 x3 x4 M = some (r, M') → J X 8 3 [(0, .ref x0), (1, .int x1), (2, .int x2), (3, .int x3), (4, .int x4)] [] M 0 0 (some (.int r)) M') : ∀ (x0 : Nat) (x1 : Int32) (x2 : Int32) (x3 : Int32) (x4 : Int32) (x5 : Int32) (x6 : Int32) (M : A_M) (r : Int32) (M' : A_M), f_X7_isOfKind_K73 N k3 x0 x1 x2 x3 x4 x5 x6 M = some (r, M') → J X 8 73 [(0, .ref x0), (1, .int x1), (2, .int x2), (3, .int x3), (4, .int x4), (5, .int x5), (6, .int x6)] [] M 0 0 (some (.int r)) M' := by
  intro x0 x1 x2 x3 x4 x5 x6 M r M' h
  unfold f_X7_isOfKind_K73 at h
  refine J_iload (pc' := 75) C 5 dX7_isOfKind_73 rfl rfl ?_
  refine J_if_ne (tgt := 83) (pc' := 78) C dX7_isOfKind_75 (by decide) rfl (fun c75 => ?_) (fun c75 => ?_)
  · rw [if_neg c75] at h
    refine J_sub (lv' := [(0, .ref x0), (3, .int x3), (4, .int x4), (5, .int x5), (6, .int x6)]) [0, 3, 4, 5, 6] rfl ?_
    exact ok_X7_isOfKind_K83 C N _ _ _ _ _ _ _ _ h
  · rw [if_pos c75] at h
    refine J_iload (pc' := 80) C 6 dX7_isOfKind_78 rfl rfl ?_
    refine J_if_lt (tgt := 129) (pc' := 83) C dX7_isOfKind_80 (by decide) rfl (fun c80 => ?_) (fun c80 => ?_)
    · rw [if_pos c80] at h
      refine J_iinc (pc' := 132) (lv' := [(4, .int (x4 + 1)), (0, .ref x0), (1, .int x1), (2, .int x2), (3, .int x3), (5, .int x5), (6, .int x6)]) C 4 dX7_isOfKind_129 rfl rfl rfl (by decide) rfl ?_
      refine J_goto (tgt := 3) C dX7_isOfKind_132 (by decide) ?_
      refine J_sub (lv' := [(0, .ref x0), (1, .int x1), (2, .int x2), (3, .int x3), (4, .int (x4 + 1))]) [1, 2, 3, 4, 0] rfl ?_
      exact hk3 _ _ _ _ _ _ _ _ h
    · rw [if_neg c80] at h
      refine J_sub (lv' := [(0, .ref x0), (3, .int x3), (4, .int x4), (5, .int x5), (6, .int x6)]) [0, 3, 4, 5, 6] rfl ?_
      exact ok_X7_isOfKind_K83 C N _ _ _ _ _ _ _ _ h
def f_X7_isOfKind_K65 (N : Nat) (k3 : Nat → Int32 → Int32 → Int32 → Int32 → A_M → Option (Int32 × A_M)) (k32 : Nat → Int32 → Int32 → Int32 → Int32 → Int32 → Int32 → Int32 → A_M → Option (Int32 × A_M)) (x0 : Nat) (x1 : Int32) (x2 : Int32) (x3 : Int32) (x4 : Int32) (x5 : Int32) (x7 : Int32) (s0 : Int32) (M : A_M) : Option (Int32 × A_M) :=
  k32 x0 x1 x2 x3 x4 x5 s0 (x7 + 1) M
set_option maxHeartbeats 4000000 in
set_option maxRecDepth 100000 in
theorem ok_X7_isOfKind_K65 {X : JX} (C : Cx X cX7_isOfKind RX7 8 (some .boolean) 2 49) (N : Nat) {k3 : Nat → Int32 → Int32 → Int32 → Int32 → A_M → Option (Int32 × A_M)} (hk3 : ∀ (x0 : Nat) (x1 : Int32) (x2 : Int32) (x3 : Int32) (x4 : Int32) (M : A_M) (r : Int32) (M' : A_M), k3 x0 x1 x2 x3 x4 M = some (r, M') → J X 8 3 [(0, .ref x0), (1, .int x1), (2, .int x2), (3, .int x3), (4, .int x4)] [] M 0 0 (some (.int r)) M') {k32 : Nat → Int32 → Int32 → Int32 → Int32 → Int32 → Int32 → Int32 → A_M → Option (Int32 × A_M)} (hk32 : ∀ (x0 : Nat) (x1 : Int32) (x2 : Int32) (x3 : Int32) (x4 : Int32) (x5 : Int32) (x6 : Int32) (x7 : Int32) (M : A_M) (r : Int32) (M' : A_M), k32 x0 x1 x2 x3 x4 x5 x6 x7 M = some (r, M') → J X 8 32 [(0, .ref x0), (1, .int x1), (2, .int x2), (3, .int x3), (4, .int x4), (5, .int x5), (6, .int x6), (7, .int x7)] [] M 0 0 (some (.int r)) M') : ∀ (x0 : Nat) (x1 : Int32) (x2 : Int32) (x3 : Int32) (x4 : Int32) (x5 : Int32) (x7 : Int32) (s0 : Int32) (M : A_M) (r : Int32) (M' : A_M), f_X7_isOfKind_K65 N k3 k32 x0 x1 x2 x3 x4 x5 x7 s0 M = some (r, M') → J X 8 65 [(0, .ref x0), (1, .int x1), (2, .int x2), (3, .int x3), (4, .int x4), (5, .int x5), (7, .int x7)] [.int s0] M 0 0 (some (.int r)) M' := by
  intro x0 x1 x2 x3 x4 x5 x7 s0 M r M' h
  unfold f_X7_isOfKind_K65 at h
  refine J_istore (pc' := 67) (lv' := [(6, .int s0), (0, .ref x0), (1, .int x1), (2, .int x2), (3, .int x3), (4, .int x4), (5, .int x5), (7, .int x7)]) C dX7_isOfKind_65 rfl (by decide) rfl ?_
  refine J_iinc (pc' := 70) (lv' := [(7, .int (x7 + 1)), (6, .int s0), (0, .ref x0), (1, .int x1), (2, .int x2), (3, .int x3), (4, .int x4), (5, .int x5)]) C 7 dX7_isOfKind_67 rfl rfl rfl (by decide) rfl ?_
  refine J_goto (tgt := 32) C dX7_isOfKind_70 (by decide) ?_
  refine J_sub (lv' := [(0, .ref x0), (1, .int x1), (2, .int x2), (3, .int x3), (4, .int x4), (5, .int x5), (6, .int s0), (7, .int (x7 + 1))]) [2, 3, 4, 5, 6, 7, 1, 0] rfl ?_
  exact hk32 _ _ _ _ _ _ _ _ _ _ _ h
def f_X7_isOfKind_L32 (N : Nat) (k3 : Nat → Int32 → Int32 → Int32 → Int32 → A_M → Option (Int32 × A_M)) : Nat → Nat → Int32 → Int32 → Int32 → Int32 → Int32 → Int32 → Int32 → A_M → Option (Int32 × A_M)
  | 0, _, _, _, _, _, _, _, _, _ => none
  | n + 1, x0, x1, x2, x3, x4, x5, x6, x7, M =>
    (gI M x0 7 3).bind fun v35 =>
    if v35 ≤ x7 then
    (f_X7_isOfKind_K73 N k3 x0 x1 x2 x3 x4 x5 x6 M)
    else
    (if 0 ≤ x6 then
    (f_X7_isOfKind_K73 N k3 x0 x1 x2 x3 x4 x5 x6 M)
    else
    ((chk M x0 7).bind fun _ =>
    bnd2 (f_X7_breakBoth N x0 x4 x7 x1 M) fun v52 M52 =>
    if v52 = 0 then
    (f_X7_isOfKind_K65 N k3 (f_X7_isOfKind_L32 N k3 n) x0 x1 x2 x3 x4 x5 x7 (-6 : Int32) M52)
    else
    (f_X7_isOfKind_K65 N k3 (f_X7_isOfKind_L32 N k3 n) x0 x1 x2 x3 x4 x5 x7 x7 M52)))
set_option maxHeartbeats 4000000 in
set_option maxRecDepth 100000 in
theorem ok_X7_isOfKind_L32 {X : JX} (C : Cx X cX7_isOfKind RX7 8 (some .boolean) 2 49) (N : Nat) {k3 : Nat → Int32 → Int32 → Int32 → Int32 → A_M → Option (Int32 × A_M)} (hk3 : ∀ (x0 : Nat) (x1 : Int32) (x2 : Int32) (x3 : Int32) (x4 : Int32) (M : A_M) (r : Int32) (M' : A_M), k3 x0 x1 x2 x3 x4 M = some (r, M') → J X 8 3 [(0, .ref x0), (1, .int x1), (2, .int x2), (3, .int x3), (4, .int x4)] [] M 0 0 (some (.int r)) M') : ∀ (n : Nat) (x0 : Nat) (x1 : Int32) (x2 : Int32) (x3 : Int32) (x4 : Int32) (x5 : Int32) (x6 : Int32) (x7 : Int32) (M : A_M) (r : Int32) (M' : A_M), f_X7_isOfKind_L32 N k3 n x0 x1 x2 x3 x4 x5 x6 x7 M = some (r, M') → J X 8 32 [(0, .ref x0), (1, .int x1), (2, .int x2), (3, .int x3), (4, .int x4), (5, .int x5), (6, .int x6), (7, .int x7)] [] M 0 0 (some (.int r)) M' := by
  intro n
  induction n with
  | zero =>
    intro x0 x1 x2 x3 x4 x5 x6 x7 M r M' h
    cases h
  | succ n ih =>
    intro x0 x1 x2 x3 x4 x5 x6 x7 M r M' h
    rw [f_X7_isOfKind_L32] at h
    refine J_iload (pc' := 34) C 7 dX7_isOfKind_32 rfl rfl ?_
    refine J_aload_n (pc' := 35) C 0 dX7_isOfKind_34 rfl rfl rfl ?_
    obtain ⟨v35, e35, h⟩ := bd h
    refine jg_882 (pc' := 38) C dX7_isOfKind_35 rfl (gI_some e35) ?_
    refine J_icmp_ge (tgt := 73) (pc' := 41) C dX7_isOfKind_38 (by decide) rfl (fun c38 => ?_) (fun c38 => ?_)
    · rw [if_pos c38] at h
      refine J_sub (lv' := [(0, .ref x0), (1, .int x1), (2, .int x2), (3, .int x3), (4, .int x4), (5, .int x5), (6, .int x6)]) [0, 1, 2, 3, 4, 5, 6] rfl ?_
      exact ok_X7_isOfKind_K73 C N hk3 _ _ _ _ _ _ _ _ _ _ h
    · rw [if_neg c38] at h
      refine J_iload (pc' := 43) C 6 dX7_isOfKind_41 rfl rfl ?_
      refine J_if_ge (tgt := 73) (pc' := 46) C dX7_isOfKind_43 (by decide) rfl (fun c43 => ?_) (fun c43 => ?_)
      · rw [if_pos c43] at h
        refine J_sub (lv' := [(0, .ref x0), (1, .int x1), (2, .int x2), (3, .int x3), (4, .int x4), (5, .int x5), (6, .int x6)]) [0, 1, 2, 3, 4, 5, 6] rfl ?_
        exact ok_X7_isOfKind_K73 C N hk3 _ _ _ _ _ _ _ _ _ _ h
      · rw [if_neg c43] at h
        refine J_aload_n (pc' := 47) C 0 dX7_isOfKind_46 rfl rfl rfl ?_
        refine J_iload (pc' := 49) C 4 dX7_isOfKind_47 rfl rfl ?_
        refine J_iload (pc' := 51) C 7 dX7_isOfKind_49 rfl rfl ?_
        refine J_iload_n (pc' := 52) C 1 dX7_isOfKind_51 rfl rfl rfl ?_
        obtain ⟨_, q52, h⟩ := bd h
        obtain ⟨v52, M52, e52, h⟩ := bd2 h
        refine J_cV (pc' := 55) (st := []) (st2 := [.int v52]) (cs2 := 0) (sl2 := 0) C 7 rfl rfl q52 (ok_X7_breakBoth N e52) mw_X7_breakBoth wq_1245 rfl dX7_isOfKind_52 rfl rfl (Nat.le_of_ble_eq_true rfl) (by decide) (by decide) rfl rfl rfl (Nat.zero_le _) (Nat.zero_le _) ?_
        refine J_if_eq (tgt := 63) (pc' := 58) C dX7_isOfKind_55 (by decide) rfl (fun c55 => ?_) (fun c55 => ?_)
        · rw [if_pos c55] at h
          refine J_bipush (pc' := 65) (v := (-6 : Int32)) C dX7_isOfKind_63 rfl (by decide) ?_
          refine J_sub (lv' := [(0, .ref x0), (1, .int x1), (2, .int x2), (3, .int x3), (4, .int x4), (5, .int x5), (7, .int x7)]) [0, 1, 2, 3, 4, 5, 7] rfl ?_
          exact ok_X7_isOfKind_K65 C N hk3 ih _ _ _ _ _ _ _ _ _ _ _ h
        · rw [if_neg c55] at h
          refine J_iload (pc' := 60) C 7 dX7_isOfKind_58 rfl rfl ?_
          refine J_goto (tgt := 65) C dX7_isOfKind_60 (by decide) ?_
          refine J_sub (lv' := [(0, .ref x0), (1, .int x1), (2, .int x2), (3, .int x3), (4, .int x4), (5, .int x5), (7, .int x7)]) [0, 1, 2, 3, 4, 5, 7] rfl ?_
          exact ok_X7_isOfKind_K65 C N hk3 ih _ _ _ _ _ _ _ _ _ _ _ h
def f_X7_isOfKind_L3 (N : Nat) : Nat → Nat → Int32 → Int32 → Int32 → Int32 → A_M → Option (Int32 × A_M)
  | 0, _, _, _, _, _, _ => none
  | n + 1, x0, x1, x2, x3, x4, M =>
    (gI M x0 7 3).bind fun v6 =>
    if v6 ≤ x4 then
    (some ((1 : Int32), M))
    else
    ((chk M x0 7).bind fun _ =>
    bnd2 (f_X7_breaksAlone N x0 x4 x1 x2 M) fun v17 M17 =>
    f_X7_isOfKind_L32 N (f_X7_isOfKind_L3 N n) N x0 x1 x2 x3 x4 v17 (-6 : Int32) (x4 + (1 : Int32)) M17)
set_option maxHeartbeats 4000000 in
set_option maxRecDepth 100000 in
theorem ok_X7_isOfKind_L3 {X : JX} (C : Cx X cX7_isOfKind RX7 8 (some .boolean) 2 49) (N : Nat) : ∀ (n : Nat) (x0 : Nat) (x1 : Int32) (x2 : Int32) (x3 : Int32) (x4 : Int32) (M : A_M) (r : Int32) (M' : A_M), f_X7_isOfKind_L3 N n x0 x1 x2 x3 x4 M = some (r, M') → J X 8 3 [(0, .ref x0), (1, .int x1), (2, .int x2), (3, .int x3), (4, .int x4)] [] M 0 0 (some (.int r)) M' := by
  intro n
  induction n with
  | zero =>
    intro x0 x1 x2 x3 x4 M r M' h
    cases h
  | succ n ih =>
    intro x0 x1 x2 x3 x4 M r M' h
    rw [f_X7_isOfKind_L3] at h
    refine J_iload (pc' := 5) C 4 dX7_isOfKind_3 rfl rfl ?_
    refine J_aload_n (pc' := 6) C 0 dX7_isOfKind_5 rfl rfl rfl ?_
    obtain ⟨v6, e6, h⟩ := bd h
    refine jg_882 (pc' := 9) C dX7_isOfKind_6 rfl (gI_some e6) ?_
    refine J_icmp_ge (tgt := 135) (pc' := 12) C dX7_isOfKind_9 (by decide) rfl (fun c9 => ?_) (fun c9 => ?_)
    · rw [if_pos c9] at h
      refine J_iconst (pc' := 136) (v := (1 : Int32)) C dX7_isOfKind_135 rfl (by decide) ?_
      obtain ⟨rfl, rfl⟩ := rt2 h
      exact J_zret C rfl dX7_isOfKind_136 (Nat.zero_le _) (Nat.zero_le _)
    · rw [if_neg c9] at h
      refine J_aload_n (pc' := 13) C 0 dX7_isOfKind_12 rfl rfl rfl ?_
      refine J_iload (pc' := 15) C 4 dX7_isOfKind_13 rfl rfl ?_
      refine J_iload_n (pc' := 16) C 1 dX7_isOfKind_15 rfl rfl rfl ?_
      refine J_iload_n (pc' := 17) C 2 dX7_isOfKind_16 rfl rfl rfl ?_
      obtain ⟨_, q17, h⟩ := bd h
      obtain ⟨v17, M17, e17, h⟩ := bd2 h
      refine J_cV (pc' := 20) (st := []) (st2 := [.int v17]) (cs2 := 0) (sl2 := 0) C 7 rfl rfl q17 (ok_X7_breaksAlone N e17) mw_X7_breaksAlone wq_1241 rfl dX7_isOfKind_17 rfl rfl (Nat.le_of_ble_eq_true rfl) (by decide) (by decide) rfl rfl rfl (Nat.zero_le _) (Nat.zero_le _) ?_
      refine J_istore (pc' := 22) (lv' := [(5, .int v17), (0, .ref x0), (1, .int x1), (2, .int x2), (3, .int x3), (4, .int x4)]) C dX7_isOfKind_20 rfl (by decide) rfl ?_
      refine J_bipush (pc' := 24) (v := (-6 : Int32)) C dX7_isOfKind_22 rfl (by decide) ?_
      refine J_istore (pc' := 26) (lv' := [(6, .int (-6 : Int32)), (5, .int v17), (0, .ref x0), (1, .int x1), (2, .int x2), (3, .int x3), (4, .int x4)]) C dX7_isOfKind_24 rfl (by decide) rfl ?_
      refine J_iload (pc' := 28) C 6 dX7_isOfKind_26 rfl rfl ?_
      refine J_iconst (pc' := 29) (v := (1 : Int32)) C dX7_isOfKind_28 rfl (by decide) ?_
      refine J_iadd (pc' := 30) C dX7_isOfKind_29 rfl ?_
      refine J_istore (pc' := 32) (lv' := [(7, .int (x4 + (1 : Int32))), (6, .int (-6 : Int32)), (5, .int v17), (0, .ref x0), (1, .int x1), (2, .int x2), (3, .int x3), (4, .int x4)]) C dX7_isOfKind_30 rfl (by decide) rfl ?_
      refine J_sub (lv' := [(0, .ref x0), (1, .int x1), (2, .int x2), (3, .int x3), (4, .int x4), (5, .int v17), (6, .int (-6 : Int32)), (7, .int (x4 + (1 : Int32)))]) [3, 4, 5, 6, 7, 2, 1, 0] rfl ?_
      exact ok_X7_isOfKind_L32 C N ih N _ _ _ _ _ _ _ _ _ _ _ h
def f_X7_isOfKind (N : Nat) (a0 : Nat) (a1 : Int32) (a2 : Int32) (a3 : Int32) (M : A_M) : Option (Int32 × A_M) :=
  f_X7_isOfKind_L3 N N a0 a1 a2 a3 (0 : Int32) M
set_option maxHeartbeats 4000000 in
set_option maxRecDepth 100000 in
theorem ok_X7_isOfKind (N : Nat) {a0 : Nat} {a1 : Int32} {a2 : Int32} {a3 : Int32} {M : A_M} {r : Int32} {M' : A_M} (h : f_X7_isOfKind N a0 a1 a2 a3 M = some (r, M')) : Runs yX7_isOfKind cX7_isOfKind 8 (some .boolean) 2 49 0 0 [.ref a0, .int a1, .int a2, .int a3] M (some (.int r)) M' := by
  refine Runs.intro (by decide) (Nat.le_of_ble_eq_true rfl) (fun X C hnm hMC hMS => ?_)
  have C : Cx X cX7_isOfKind RX7 8 (some .boolean) 2 49 := C
  show J X 8 0 [(0, .ref a0), (1, .int a1), (2, .int a2), (3, .int a3)] [] M 0 0 (some (.int r)) M'
  unfold f_X7_isOfKind at h
  refine J_iconst (pc' := 1) (v := (0 : Int32)) C dX7_isOfKind_0 rfl (by decide) ?_
  refine J_istore (pc' := 3) (lv' := [(4, .int (0 : Int32)), (0, .ref a0), (1, .int a1), (2, .int a2), (3, .int a3)]) C dX7_isOfKind_1 rfl (by decide) rfl ?_
  refine J_sub (lv' := [(0, .ref a0), (1, .int a1), (2, .int a2), (3, .int a3), (4, .int (0 : Int32))]) [1, 2, 3, 4, 0] rfl ?_
  exact ok_X7_isOfKind_L3 C N N _ _ _ _ _ _ _ _ h
def f_X7_isFree (N : Nat) (a0 : Nat) (M : A_M) : Option (Int32 × A_M) :=
  (chk M a0 7).bind fun _ =>
  bnd2 (f_X7_isOfKind N a0 (0 : Int32) (0 : Int32) (0 : Int32) M) fun v4 M4 =>
  (zb v4).bind fun _ =>
  some (v4, M4)
set_option maxHeartbeats 4000000 in
set_option maxRecDepth 100000 in
theorem ok_X7_isFree (N : Nat) {a0 : Nat} {M : A_M} {r : Int32} {M' : A_M} (h : f_X7_isFree N a0 M = some (r, M')) : Runs yX7_isFree cX7_isFree 1 (some .boolean) 3 76 0 0 [.ref a0] M (some (.int r)) M' := by
  refine Runs.intro (by decide) (Nat.le_of_ble_eq_true rfl) (fun X C hnm hMC hMS => ?_)
  have C : Cx X cX7_isFree RX7 1 (some .boolean) 3 76 := C
  show J X 1 0 [(0, .ref a0)] [] M 0 0 (some (.int r)) M'
  unfold f_X7_isFree at h
  refine J_aload_n (pc' := 1) C 0 dX7_isFree_0 rfl rfl rfl ?_
  refine J_iconst (pc' := 2) (v := (0 : Int32)) C dX7_isFree_1 rfl (by decide) ?_
  refine J_iconst (pc' := 3) (v := (0 : Int32)) C dX7_isFree_2 rfl (by decide) ?_
  refine J_iconst (pc' := 4) (v := (0 : Int32)) C dX7_isFree_3 rfl (by decide) ?_
  obtain ⟨_, q4, h⟩ := bd h
  obtain ⟨v4, M4, e4, h⟩ := bd2 h
  refine J_cV (pc' := 7) (st := []) (st2 := [.int v4]) (cs2 := 0) (sl2 := 0) C 7 rfl rfl q4 (ok_X7_isOfKind N e4) mw_X7_isOfKind wq_1237 rfl dX7_isFree_4 rfl rfl (Nat.le_of_ble_eq_true rfl) (by decide) (by decide) rfl rfl rfl (Nat.zero_le _) (Nat.zero_le _) ?_
  obtain ⟨_, z7, h⟩ := bd h
  obtain ⟨rfl, rfl⟩ := rt2 h
  exact J_zret C (zb_n (zb_some z7)) dX7_isFree_7 (Nat.zero_le _) (Nat.zero_le _)
def f_X7_holds_K45 (N : Nat) (x0 : Nat) (x1 : Int32) (x2 : Int32) (M : A_M) : Option (Int32 × A_M) :=
  (gI M x0 7 4).bind fun v46 =>
  if v46 = 0 then
  (some ((-3 : Int32), M))
  else
  ((chk M x0 7).bind fun _ =>
  bnd2 (f_X7_isOfKind N x0 x1 x2 (1 : Int32) M) fun v59 M59 =>
  if v59 = 0 then
  (some ((0 : Int32), M59))
  else
  (some ((1 : Int32), M59)))
set_option maxHeartbeats 4000000 in
set_option maxRecDepth 100000 in
theorem ok_X7_holds_K45 {X : JX} (C : Cx X cX7_holds RX7 3 (some .int) 3 76) (N : Nat) : ∀ (x0 : Nat) (x1 : Int32) (x2 : Int32) (M : A_M) (r : Int32) (M' : A_M), f_X7_holds_K45 N x0 x1 x2 M = some (r, M') → J X 3 45 [(0, .ref x0), (1, .int x1), (2, .int x2)] [] M 0 0 (some (.int r)) M' := by
  intro x0 x1 x2 M r M' h
  unfold f_X7_holds_K45 at h
  refine J_aload_n (pc' := 46) C 0 dX7_holds_45 rfl rfl rfl ?_
  obtain ⟨v46, e46, h⟩ := bd h
  refine jg_883 (pc' := 49) C dX7_holds_46 rfl (gI_some e46) ?_
  refine J_if_ne (tgt := 55) (pc' := 52) C dX7_holds_49 (by decide) rfl (fun c49 => ?_) (fun c49 => ?_)
  · rw [if_neg c49] at h
    refine J_aload_n (pc' := 56) C 0 dX7_holds_55 rfl rfl rfl ?_
    refine J_iload_n (pc' := 57) C 1 dX7_holds_56 rfl rfl rfl ?_
    refine J_iload_n (pc' := 58) C 2 dX7_holds_57 rfl rfl rfl ?_
    refine J_iconst (pc' := 59) (v := (1 : Int32)) C dX7_holds_58 rfl (by decide) ?_
    obtain ⟨_, q59, h⟩ := bd h
    obtain ⟨v59, M59, e59, h⟩ := bd2 h
    refine J_cV (pc' := 62) (st := []) (st2 := [.int v59]) (cs2 := 0) (sl2 := 0) C 7 rfl rfl q59 (ok_X7_isOfKind N e59) mw_X7_isOfKind wq_1237 rfl dX7_holds_59 rfl rfl (Nat.le_of_ble_eq_true rfl) (by decide) (by decide) rfl rfl rfl (Nat.zero_le _) (Nat.zero_le _) ?_
    refine J_if_eq (tgt := 69) (pc' := 65) C dX7_holds_62 (by decide) rfl (fun c62 => ?_) (fun c62 => ?_)
    · rw [if_pos c62] at h
      refine J_iconst (pc' := 70) (v := (0 : Int32)) C dX7_holds_69 rfl (by decide) ?_
      obtain ⟨rfl, rfl⟩ := rt2 h
      exact J_iret C dX7_holds_70 (Nat.zero_le _) (Nat.zero_le _)
    · rw [if_neg c62] at h
      refine J_iconst (pc' := 66) (v := (1 : Int32)) C dX7_holds_65 rfl (by decide) ?_
      refine J_goto (tgt := 70) C dX7_holds_66 (by decide) ?_
      obtain ⟨rfl, rfl⟩ := rt2 h
      exact J_iret C dX7_holds_70 (Nat.zero_le _) (Nat.zero_le _)
  · rw [if_pos c49] at h
    refine J_bipush (pc' := 54) (v := (-3 : Int32)) C dX7_holds_52 rfl (by decide) ?_
    obtain ⟨rfl, rfl⟩ := rt2 h
    exact J_iret C dX7_holds_54 (Nat.zero_le _) (Nat.zero_le _)
def f_X7_holds_K29 (N : Nat) (x0 : Nat) (x1 : Int32) (x2 : Int32) (M : A_M) : Option (Int32 × A_M) :=
  if x1 = (3 : Int32) then
  ((chk M x0 7).bind fun _ =>
  bnd2 (f_X7_isSign N x0 x2 M) fun v36 M36 =>
  if v36 = 0 then
  (some ((-2 : Int32), M36))
  else
  (f_X7_holds_K45 N x0 x1 x2 M36))
  else
  (f_X7_holds_K45 N x0 x1 x2 M)
set_option maxHeartbeats 4000000 in
set_option maxRecDepth 100000 in
theorem ok_X7_holds_K29 {X : JX} (C : Cx X cX7_holds RX7 3 (some .int) 3 76) (N : Nat) : ∀ (x0 : Nat) (x1 : Int32) (x2 : Int32) (M : A_M) (r : Int32) (M' : A_M), f_X7_holds_K29 N x0 x1 x2 M = some (r, M') → J X 3 29 [(0, .ref x0), (1, .int x1), (2, .int x2)] [] M 0 0 (some (.int r)) M' := by
  intro x0 x1 x2 M r M' h
  unfold f_X7_holds_K29 at h
  refine J_iload_n (pc' := 30) C 1 dX7_holds_29 rfl rfl rfl ?_
  refine J_iconst (pc' := 31) (v := (3 : Int32)) C dX7_holds_30 rfl (by decide) ?_
  refine J_icmp_ne (tgt := 45) (pc' := 34) C dX7_holds_31 (by decide) rfl (fun c31 => ?_) (fun c31 => ?_)
  · rw [if_neg c31] at h
    refine J_sub (lv' := [(0, .ref x0), (1, .int x1), (2, .int x2)]) [0, 1, 2] rfl ?_
    exact ok_X7_holds_K45 C N _ _ _ _ _ _ h
  · rw [if_pos c31] at h
    refine J_aload_n (pc' := 35) C 0 dX7_holds_34 rfl rfl rfl ?_
    refine J_iload_n (pc' := 36) C 2 dX7_holds_35 rfl rfl rfl ?_
    obtain ⟨_, q36, h⟩ := bd h
    obtain ⟨v36, M36, e36, h⟩ := bd2 h
    refine J_cV (pc' := 39) (st := []) (st2 := [.int v36]) (cs2 := 0) (sl2 := 0) C 7 rfl rfl q36 (ok_X7_isSign N e36) mw_X7_isSign wq_1111 rfl dX7_holds_36 rfl rfl (Nat.le_of_ble_eq_true rfl) (by decide) (by decide) rfl rfl rfl (Nat.zero_le _) (Nat.zero_le _) ?_
    refine J_if_ne (tgt := 45) (pc' := 42) C dX7_holds_39 (by decide) rfl (fun c39 => ?_) (fun c39 => ?_)
    · rw [if_neg c39] at h
      refine J_sub (lv' := [(0, .ref x0), (1, .int x1), (2, .int x2)]) [0, 1, 2] rfl ?_
      exact ok_X7_holds_K45 C N _ _ _ _ _ _ h
    · rw [if_pos c39] at h
      refine J_bipush (pc' := 44) (v := (-2 : Int32)) C dX7_holds_42 rfl (by decide) ?_
      obtain ⟨rfl, rfl⟩ := rt2 h
      exact J_iret C dX7_holds_44 (Nat.zero_le _) (Nat.zero_le _)
def f_X7_holds (N : Nat) (a0 : Nat) (a1 : Int32) (a2 : Int32) (M : A_M) : Option (Int32 × A_M) :=
  bnd2 (f_X7_in N (a1.toInt64) (0 : Int64) (3 : Int64) M) fun v6 M6 =>
  if v6 = 0 then
  (some ((-2 : Int32), M6))
  else
  (if a1 = (1 : Int32) then
  (bnd2 (f_X7_in N (a2.toInt64) (1 : Int64) (24 : Int64) M6) fun v23 M23 =>
  if v23 = 0 then
  (some ((-2 : Int32), M23))
  else
  (f_X7_holds_K29 N a0 a1 a2 M23))
  else
  (f_X7_holds_K29 N a0 a1 a2 M6))
set_option maxHeartbeats 4000000 in
set_option maxRecDepth 100000 in
theorem ok_X7_holds (N : Nat) {a0 : Nat} {a1 : Int32} {a2 : Int32} {M : A_M} {r : Int32} {M' : A_M} (h : f_X7_holds N a0 a1 a2 M = some (r, M')) : Runs yX7_holds cX7_holds 3 (some .int) 3 76 0 0 [.ref a0, .int a1, .int a2] M (some (.int r)) M' := by
  refine Runs.intro (by decide) (Nat.le_of_ble_eq_true rfl) (fun X C hnm hMC hMS => ?_)
  have C : Cx X cX7_holds RX7 3 (some .int) 3 76 := C
  show J X 3 0 [(0, .ref a0), (1, .int a1), (2, .int a2)] [] M 0 0 (some (.int r)) M'
  unfold f_X7_holds at h
  refine J_iload_n (pc' := 1) C 1 dX7_holds_0 rfl rfl rfl ?_
  refine J_i2l (pc' := 2) C dX7_holds_1 rfl ?_
  refine J_lconst (pc' := 3) (v := (0 : Int64)) C dX7_holds_2 rfl (by decide) ?_
  refine J_ldc2 (pc' := 6) C dX7_holds_3 rfl wq_1109 ?_
  obtain ⟨v6, M6, e6, h⟩ := bd2 h
  refine J_cS (pc' := 9) (st := []) (st2 := [.int v6]) (cs2 := 0) (sl2 := 0) C (ok_X7_in N e6) mw_X7_in wq_1057 rfl dX7_holds_6 rfl rfl (Nat.le_of_ble_eq_true rfl) (by decide) (by decide) rfl rfl rfl (Nat.zero_le _) (Nat.zero_le _) ?_
  refine J_if_eq (tgt := 42) (pc' := 12) C dX7_holds_9 (by decide) rfl (fun c9 => ?_) (fun c9 => ?_)
  · rw [if_pos c9] at h
    refine J_bipush (pc' := 44) (v := (-2 : Int32)) C dX7_holds_42 rfl (by decide) ?_
    obtain ⟨rfl, rfl⟩ := rt2 h
    exact J_iret C dX7_holds_44 (Nat.zero_le _) (Nat.zero_le _)
  · rw [if_neg c9] at h
    refine J_iload_n (pc' := 13) C 1 dX7_holds_12 rfl rfl rfl ?_
    refine J_iconst (pc' := 14) (v := (1 : Int32)) C dX7_holds_13 rfl (by decide) ?_
    refine J_icmp_ne (tgt := 29) (pc' := 17) C dX7_holds_14 (by decide) rfl (fun c14 => ?_) (fun c14 => ?_)
    · rw [if_neg c14] at h
      refine J_sub (lv' := [(0, .ref a0), (1, .int a1), (2, .int a2)]) [0, 1, 2] rfl ?_
      exact ok_X7_holds_K29 C N _ _ _ _ _ _ h
    · rw [if_pos c14] at h
      refine J_iload_n (pc' := 18) C 2 dX7_holds_17 rfl rfl rfl ?_
      refine J_i2l (pc' := 19) C dX7_holds_18 rfl ?_
      refine J_lconst (pc' := 20) (v := (1 : Int64)) C dX7_holds_19 rfl (by decide) ?_
      refine J_ldc2 (pc' := 23) C dX7_holds_20 rfl wq_1110 ?_
      obtain ⟨v23, M23, e23, h⟩ := bd2 h
      refine J_cS (pc' := 26) (st := []) (st2 := [.int v23]) (cs2 := 0) (sl2 := 0) C (ok_X7_in N e23) mw_X7_in wq_1057 rfl dX7_holds_23 rfl rfl (Nat.le_of_ble_eq_true rfl) (by decide) (by decide) rfl rfl rfl (Nat.zero_le _) (Nat.zero_le _) ?_
      refine J_if_eq (tgt := 42) (pc' := 29) C dX7_holds_26 (by decide) rfl (fun c26 => ?_) (fun c26 => ?_)
      · rw [if_pos c26] at h
        refine J_bipush (pc' := 44) (v := (-2 : Int32)) C dX7_holds_42 rfl (by decide) ?_
        obtain ⟨rfl, rfl⟩ := rt2 h
        exact J_iret C dX7_holds_44 (Nat.zero_le _) (Nat.zero_le _)
      · rw [if_neg c26] at h
        refine J_sub (lv' := [(0, .ref a0), (1, .int a1), (2, .int a2)]) [0, 1, 2] rfl ?_
        exact ok_X7_holds_K29 C N _ _ _ _ _ _ h
def f_X7_broken (N : Nat) (a0 : Nat) (a1 : Int32) (M : A_M) : Option (Int32 × A_M) :=
  if a1 = 0 then
  ((gI M a0 7 36).bind fun v5 =>
  some (v5, M))
  else
  (if a1 = (1 : Int32) then
  ((gI M a0 7 37).bind fun v17 =>
  some (v17, M))
  else
  (some ((-2 : Int32), M)))
set_option maxHeartbeats 4000000 in
set_option maxRecDepth 100000 in
theorem ok_X7_broken (N : Nat) {a0 : Nat} {a1 : Int32} {M : A_M} {r : Int32} {M' : A_M} (h : f_X7_broken N a0 a1 M = some (r, M')) : Runs yX7_broken cX7_broken 2 (some .int) 0 0 0 0 [.ref a0, .int a1] M (some (.int r)) M' := by
  refine Runs.intro (by decide) (Nat.le_of_ble_eq_true rfl) (fun X C hnm hMC hMS => ?_)
  have C : Cx X cX7_broken RX7 2 (some .int) 0 0 := C
  show J X 2 0 [(0, .ref a0), (1, .int a1)] [] M 0 0 (some (.int r)) M'
  unfold f_X7_broken at h
  refine J_iload_n (pc' := 1) C 1 dX7_broken_0 rfl rfl rfl ?_
  refine J_if_ne (tgt := 11) (pc' := 4) C dX7_broken_1 (by decide) rfl (fun c1 => ?_) (fun c1 => ?_)
  · rw [if_neg c1] at h
    refine J_iload_n (pc' := 12) C 1 dX7_broken_11 rfl rfl rfl ?_
    refine J_iconst (pc' := 13) (v := (1 : Int32)) C dX7_broken_12 rfl (by decide) ?_
    refine J_icmp_ne (tgt := 23) (pc' := 16) C dX7_broken_13 (by decide) rfl (fun c13 => ?_) (fun c13 => ?_)
    · rw [if_neg c13] at h
      refine J_bipush (pc' := 25) (v := (-2 : Int32)) C dX7_broken_23 rfl (by decide) ?_
      obtain ⟨rfl, rfl⟩ := rt2 h
      exact J_iret C dX7_broken_25 (Nat.zero_le _) (Nat.zero_le _)
    · rw [if_pos c13] at h
      refine J_aload_n (pc' := 17) C 0 dX7_broken_16 rfl rfl rfl ?_
      obtain ⟨v17, e17, h⟩ := bd h
      refine jg_916 (pc' := 20) C dX7_broken_17 rfl (gI_some e17) ?_
      refine J_goto (tgt := 25) C dX7_broken_20 (by decide) ?_
      obtain ⟨rfl, rfl⟩ := rt2 h
      exact J_iret C dX7_broken_25 (Nat.zero_le _) (Nat.zero_le _)
  · rw [if_pos c1] at h
    refine J_aload_n (pc' := 5) C 0 dX7_broken_4 rfl rfl rfl ?_
    obtain ⟨v5, e5, h⟩ := bd h
    refine jg_915 (pc' := 8) C dX7_broken_5 rfl (gI_some e5) ?_
    refine J_goto (tgt := 25) C dX7_broken_8 (by decide) ?_
    obtain ⟨rfl, rfl⟩ := rt2 h
    exact J_iret C dX7_broken_25 (Nat.zero_le _) (Nat.zero_le _)
def f_X7_cost (N : Nat) (a0 : Nat) (M : A_M) : Option (Int64 × A_M) :=
  (gI M a0 7 4).bind fun v1 =>
  if v1 = 0 then
  (some ((-3 : Int64), M))
  else
  ((chk M a0 7).bind fun _ =>
  bnd2 (f_X7_costNow N a0 M) fun v8 M8 =>
  some (v8, M8))
set_option maxHeartbeats 4000000 in
set_option maxRecDepth 100000 in
theorem ok_X7_cost (N : Nat) {a0 : Nat} {M : A_M} {r : Int64} {M' : A_M} (h : f_X7_cost N a0 M = some (r, M')) : Runs yX7_cost cX7_cost 1 (some .long) 3 68 0 0 [.ref a0] M (some (.long r)) M' := by
  refine Runs.intro (by decide) (Nat.le_of_ble_eq_true rfl) (fun X C hnm hMC hMS => ?_)
  have C : Cx X cX7_cost RX7 1 (some .long) 3 68 := C
  show J X 1 0 [(0, .ref a0)] [] M 0 0 (some (.long r)) M'
  unfold f_X7_cost at h
  refine J_aload_n (pc' := 1) C 0 dX7_cost_0 rfl rfl rfl ?_
  obtain ⟨v1, e1, h⟩ := bd h
  refine jg_883 (pc' := 4) C dX7_cost_1 rfl (gI_some e1) ?_
  refine J_if_eq (tgt := 14) (pc' := 7) C dX7_cost_4 (by decide) rfl (fun c4 => ?_) (fun c4 => ?_)
  · rw [if_pos c4] at h
    refine J_ldc2 (pc' := 17) C dX7_cost_14 rfl wq_1083 ?_
    obtain ⟨rfl, rfl⟩ := rt2 h
    exact J_lret C dX7_cost_17 (Nat.zero_le _) (Nat.zero_le _)
  · rw [if_neg c4] at h
    refine J_aload_n (pc' := 8) C 0 dX7_cost_7 rfl rfl rfl ?_
    obtain ⟨_, q8, h⟩ := bd h
    obtain ⟨v8, M8, e8, h⟩ := bd2 h
    refine J_cV (pc' := 11) (st := []) (st2 := [.long v8]) (cs2 := 0) (sl2 := 0) C 7 rfl rfl q8 (ok_X7_costNow N e8) mw_X7_costNow wq_1214 rfl dX7_cost_8 rfl rfl (Nat.le_of_ble_eq_true rfl) (by decide) (by decide) rfl rfl rfl (Nat.zero_le _) (Nat.zero_le _) ?_
    refine J_goto (tgt := 17) C dX7_cost_11 (by decide) ?_
    obtain ⟨rfl, rfl⟩ := rt2 h
    exact J_lret C dX7_cost_17 (Nat.zero_le _) (Nat.zero_le _)
def f_Jxe99ae_isNaN_b9ae7 (N : Nat) (a0 : UInt64) (M : A_M) : Option (Int32 × A_M) :=
  if (Op.cmpValue (FP.dcmp a0 a0) .l) = 0 then
  (some ((0 : Int32), M))
  else
  (some ((1 : Int32), M))
set_option maxHeartbeats 4000000 in
set_option maxRecDepth 100000 in
theorem ok_Jxe99ae_isNaN_b9ae7 (N : Nat) {a0 : UInt64} {M : A_M} {r : Int32} {M' : A_M} (h : f_Jxe99ae_isNaN_b9ae7 N a0 M = some (r, M')) : Runs yJxe99ae_isNaN_b9ae7 cJxe99ae_isNaN_b9ae7 2 (some .boolean) 0 0 0 0 [.double a0] M (some (.int r)) M' := by
  refine Runs.intro (by decide) (Nat.le_of_ble_eq_true rfl) (fun X C hnm hMC hMS => ?_)
  have C : Cx X cJxe99ae_isNaN_b9ae7 RJxe99ae 2 (some .boolean) 0 0 := C
  show J X 2 0 [(0, .double a0)] [] M 0 0 (some (.int r)) M'
  unfold f_Jxe99ae_isNaN_b9ae7 at h
  refine J_dload_n (pc' := 1) C 0 dJxe99ae_isNaN_b9ae7_0 rfl rfl rfl ?_
  refine J_dload_n (pc' := 2) C 0 dJxe99ae_isNaN_b9ae7_1 rfl rfl rfl ?_
  refine J_dcmp (pc' := 3) C dJxe99ae_isNaN_b9ae7_2 rfl ?_
  refine J_if_eq (tgt := 10) (pc' := 6) C dJxe99ae_isNaN_b9ae7_3 (by decide) rfl (fun c3 => ?_) (fun c3 => ?_)
  · rw [if_pos c3] at h
    refine J_iconst (pc' := 11) (v := (0 : Int32)) C dJxe99ae_isNaN_b9ae7_10 rfl (by decide) ?_
    obtain ⟨rfl, rfl⟩ := rt2 h
    exact J_zret C rfl dJxe99ae_isNaN_b9ae7_11 (Nat.zero_le _) (Nat.zero_le _)
  · rw [if_neg c3] at h
    refine J_iconst (pc' := 7) (v := (1 : Int32)) C dJxe99ae_isNaN_b9ae7_6 rfl (by decide) ?_
    refine J_goto (tgt := 11) C dJxe99ae_isNaN_b9ae7_7 (by decide) ?_
    obtain ⟨rfl, rfl⟩ := rt2 h
    exact J_zret C rfl dJxe99ae_isNaN_b9ae7_11 (Nat.zero_le _) (Nat.zero_le _)
def f_Jxe99ae_doubleToLongBits_ccdee (N : Nat) (a0 : UInt64) (M : A_M) : Option (Int64 × A_M) :=
  bnd2 (f_Jxe99ae_isNaN_b9ae7 N a0 M) fun v1 M1 =>
  if v1 = 0 then
  (some ((a0.toInt64), M1))
  else
  (some ((9221120237041090560 : Int64), M1))
set_option maxHeartbeats 4000000 in
set_option maxRecDepth 100000 in
theorem ok_Jxe99ae_doubleToLongBits_ccdee (N : Nat) {a0 : UInt64} {M : A_M} {r : Int64} {M' : A_M} (h : f_Jxe99ae_doubleToLongBits_ccdee N a0 M = some (r, M')) : Runs yJxe99ae_doubleToLongBits_ccdee cJxe99ae_doubleToLongBits_ccdee 2 (some .long) 1 30 0 0 [.double a0] M (some (.long r)) M' := by
  refine Runs.intro (by decide) (Nat.le_of_ble_eq_true rfl) (fun X C hnm hMC hMS => ?_)
  have C : Cx X cJxe99ae_doubleToLongBits_ccdee RJxe99ae 2 (some .long) 1 30 := C
  show J X 2 0 [(0, .double a0)] [] M 0 0 (some (.long r)) M'
  unfold f_Jxe99ae_doubleToLongBits_ccdee at h
  refine J_dload_n (pc' := 1) C 0 dJxe99ae_doubleToLongBits_ccdee_0 rfl rfl rfl ?_
  obtain ⟨v1, M1, e1, h⟩ := bd2 h
  refine J_cS (pc' := 4) (st := []) (st2 := [.int v1]) (cs2 := 0) (sl2 := 0) C (ok_Jxe99ae_isNaN_b9ae7 N e1) mw_Jxe99ae_isNaN_b9ae7 wq_1267 rfl dJxe99ae_doubleToLongBits_ccdee_1 rfl rfl (Nat.le_of_ble_eq_true rfl) (by decide) (by decide) rfl rfl rfl (Nat.zero_le _) (Nat.zero_le _) ?_
  refine J_if_ne (tgt := 12) (pc' := 7) C dJxe99ae_doubleToLongBits_ccdee_4 (by decide) rfl (fun c4 => ?_) (fun c4 => ?_)
  · rw [if_neg c4] at h
    refine J_ldc2 (pc' := 15) C dJxe99ae_doubleToLongBits_ccdee_12 rfl wq_1273 ?_
    obtain ⟨rfl, rfl⟩ := rt2 h
    exact J_lret C dJxe99ae_doubleToLongBits_ccdee_15 (Nat.zero_le _) (Nat.zero_le _)
  · rw [if_pos c4] at h
    refine J_dload_n (pc' := 8) C 0 dJxe99ae_doubleToLongBits_ccdee_7 rfl rfl rfl ?_
    refine J_d2raw (pc' := 11) C wq_1270 wq_1272 wq_1271 wq_104 dJxe99ae_doubleToLongBits_ccdee_8 rfl (Nat.le_of_ble_eq_true rfl) (by decide) (by decide) ?_
    obtain ⟨rfl, rfl⟩ := rt2 h
    exact J_lret C dJxe99ae_doubleToLongBits_ccdee_11 (Nat.zero_le _) (Nat.zero_le _)
def f_X7_mean (N : Nat) (a0 : Nat) (M : A_M) : Option (Int64 × A_M) :=
  (gI M a0 7 4).bind fun v1 =>
  if v1 = 0 then
  (some ((-3 : Int64), M))
  else
  ((chk M a0 7).bind fun _ =>
  bnd2 (f_X7_costNow N a0 M) fun v8 M8 =>
  (gI M8 a0 7 3).bind fun v15 =>
  (chk M8 a0 7).bind fun _ =>
  bnd2 (f_X7_countsOf N a0 (0 : Int32) v15 M8) fun v18 M18 =>
  (nz (FP.ddiv (FP.l2d v8) (FP.l2d v18))).bind fun _ =>
  bnd2 (f_Jxe99ae_doubleToLongBits_ccdee N (FP.ddiv (FP.l2d v8) (FP.l2d v18)) M18) fun v23 M23 =>
  some (v23, M23))
set_option maxHeartbeats 4000000 in
set_option maxRecDepth 100000 in
theorem ok_X7_mean (N : Nat) {a0 : Nat} {M : A_M} {r : Int64} {M' : A_M} (h : f_X7_mean N a0 M = some (r, M')) : Runs yX7_mean cX7_mean 1 (some .long) 3 68 0 0 [.ref a0] M (some (.long r)) M' := by
  refine Runs.intro (by decide) (Nat.le_of_ble_eq_true rfl) (fun X C hnm hMC hMS => ?_)
  have C : Cx X cX7_mean RX7 1 (some .long) 3 68 := C
  show J X 1 0 [(0, .ref a0)] [] M 0 0 (some (.long r)) M'
  unfold f_X7_mean at h
  refine J_aload_n (pc' := 1) C 0 dX7_mean_0 rfl rfl rfl ?_
  obtain ⟨v1, e1, h⟩ := bd h
  refine jg_883 (pc' := 4) C dX7_mean_1 rfl (gI_some e1) ?_
  refine J_if_eq (tgt := 29) (pc' := 7) C dX7_mean_4 (by decide) rfl (fun c4 => ?_) (fun c4 => ?_)
  · rw [if_pos c4] at h
    refine J_ldc2 (pc' := 32) C dX7_mean_29 rfl wq_1083 ?_
    obtain ⟨rfl, rfl⟩ := rt2 h
    exact J_lret C dX7_mean_32 (Nat.zero_le _) (Nat.zero_le _)
  · rw [if_neg c4] at h
    refine J_aload_n (pc' := 8) C 0 dX7_mean_7 rfl rfl rfl ?_
    obtain ⟨_, q8, h⟩ := bd h
    obtain ⟨v8, M8, e8, h⟩ := bd2 h
    refine J_cV (pc' := 11) (st := []) (st2 := [.long v8]) (cs2 := 0) (sl2 := 0) C 7 rfl rfl q8 (ok_X7_costNow N e8) mw_X7_costNow wq_1214 rfl dX7_mean_8 rfl rfl (Nat.le_of_ble_eq_true rfl) (by decide) (by decide) rfl rfl rfl (Nat.zero_le _) (Nat.zero_le _) ?_
    refine J_l2d (pc' := 12) C dX7_mean_11 rfl ?_
    refine J_aload_n (pc' := 13) C 0 dX7_mean_12 rfl rfl rfl ?_
    refine J_iconst (pc' := 14) (v := (0 : Int32)) C dX7_mean_13 rfl (by decide) ?_
    refine J_aload_n (pc' := 15) C 0 dX7_mean_14 rfl rfl rfl ?_
    obtain ⟨v15, e15, h⟩ := bd h
    refine jg_882 (pc' := 18) C dX7_mean_15 rfl (gI_some e15) ?_
    obtain ⟨_, q18, h⟩ := bd h
    obtain ⟨v18, M18, e18, h⟩ := bd2 h
    refine J_cV (pc' := 21) (st := [.double (FP.l2d v8)]) (st2 := [.long v18, .double (FP.l2d v8)]) (cs2 := 0) (sl2 := 0) C 7 rfl rfl q18 (ok_X7_countsOf N e18) mw_X7_countsOf wq_1097 rfl dX7_mean_18 rfl rfl (Nat.le_of_ble_eq_true rfl) (by decide) (by decide) rfl rfl rfl (Nat.zero_le _) (Nat.zero_le _) ?_
    refine J_l2d (pc' := 22) C dX7_mean_21 rfl ?_
    obtain ⟨v22, e22, h⟩ := bd h
    obtain ⟨c22, rfl⟩ := nz_some e22
    refine J_ddiv (pc' := 23) C c22 dX7_mean_22 rfl ?_
    obtain ⟨v23, M23, e23, h⟩ := bd2 h
    refine J_cS (pc' := 26) (st := []) (st2 := [.long v23]) (cs2 := 0) (sl2 := 0) C (ok_Jxe99ae_doubleToLongBits_ccdee N e23) mw_Jxe99ae_doubleToLongBits_ccdee wq_1264 rfl dX7_mean_23 rfl rfl (Nat.le_of_ble_eq_true rfl) (by decide) (by decide) rfl rfl rfl (Nat.zero_le _) (Nat.zero_le _) ?_
    refine J_goto (tgt := 32) C dX7_mean_26 (by decide) ?_
    obtain ⟨rfl, rfl⟩ := rt2 h
    exact J_lret C dX7_mean_32 (Nat.zero_le _) (Nat.zero_le _)
def f_X7_length (N : Nat) (a0 : Nat) (a1 : Int32) (M : A_M) : Option (Int32 × A_M) :=
  (chk M a0 7).bind fun _ =>
  bnd2 (f_X7_isThing N a0 a1 M) fun v2 M2 =>
  if v2 = 0 then
  (some ((-1 : Int32), M2))
  else
  ((gI M2 a0 7 4).bind fun v11 =>
  if v11 = 0 then
  (some ((-3 : Int32), M2))
  else
  ((gR M2 a0 7 8).bind fun v18 =>
  (ldI M2 v18 a1).bind fun v22 =>
  some (v22, M2)))
set_option maxHeartbeats 4000000 in
set_option maxRecDepth 100000 in
theorem ok_X7_length (N : Nat) {a0 : Nat} {a1 : Int32} {M : A_M} {r : Int32} {M' : A_M} (h : f_X7_length N a0 a1 M = some (r, M')) : Runs yX7_length cX7_length 2 (some .int) 2 46 0 0 [.ref a0, .int a1] M (some (.int r)) M' := by
  refine Runs.intro (by decide) (Nat.le_of_ble_eq_true rfl) (fun X C hnm hMC hMS => ?_)
  have C : Cx X cX7_length RX7 2 (some .int) 2 46 := C
  show J X 2 0 [(0, .ref a0), (1, .int a1)] [] M 0 0 (some (.int r)) M'
  unfold f_X7_length at h
  refine J_aload_n (pc' := 1) C 0 dX7_length_0 rfl rfl rfl ?_
  refine J_iload_n (pc' := 2) C 1 dX7_length_1 rfl rfl rfl ?_
  obtain ⟨_, q2, h⟩ := bd h
  obtain ⟨v2, M2, e2, h⟩ := bd2 h
  refine J_cV (pc' := 5) (st := []) (st2 := [.int v2]) (cs2 := 0) (sl2 := 0) C 7 rfl rfl q2 (ok_X7_isThing N e2) mw_X7_isThing wq_1074 rfl dX7_length_2 rfl rfl (Nat.le_of_ble_eq_true rfl) (by decide) (by decide) rfl rfl rfl (Nat.zero_le _) (Nat.zero_le _) ?_
  refine J_if_ne (tgt := 10) (pc' := 8) C dX7_length_5 (by decide) rfl (fun c5 => ?_) (fun c5 => ?_)
  · rw [if_neg c5] at h
    refine J_aload_n (pc' := 11) C 0 dX7_length_10 rfl rfl rfl ?_
    obtain ⟨v11, e11, h⟩ := bd h
    refine jg_883 (pc' := 14) C dX7_length_11 rfl (gI_some e11) ?_
    refine J_if_eq (tgt := 26) (pc' := 17) C dX7_length_14 (by decide) rfl (fun c14 => ?_) (fun c14 => ?_)
    · rw [if_pos c14] at h
      refine J_bipush (pc' := 28) (v := (-3 : Int32)) C dX7_length_26 rfl (by decide) ?_
      obtain ⟨rfl, rfl⟩ := rt2 h
      exact J_iret C dX7_length_28 (Nat.zero_le _) (Nat.zero_le _)
    · rw [if_neg c14] at h
      refine J_aload_n (pc' := 18) C 0 dX7_length_17 rfl rfl rfl ?_
      obtain ⟨v18, e18, h⟩ := bd h
      refine jg_887 (pc' := 21) C dX7_length_18 rfl (gR_some e18) ?_
      refine J_iload_n (pc' := 22) C 1 dX7_length_21 rfl rfl rfl ?_
      obtain ⟨v22, e22, h⟩ := bd h
      refine J_iald (pc' := 23) C dX7_length_22 rfl e22 ?_
      refine J_goto (tgt := 28) C dX7_length_23 (by decide) ?_
      obtain ⟨rfl, rfl⟩ := rt2 h
      exact J_iret C dX7_length_28 (Nat.zero_le _) (Nat.zero_le _)
  · rw [if_pos c5] at h
    refine J_iconst (pc' := 9) (v := (-1 : Int32)) C dX7_length_8 rfl (by decide) ?_
    obtain ⟨rfl, rfl⟩ := rt2 h
    exact J_iret C dX7_length_9 (Nat.zero_le _) (Nat.zero_le _)
def f_X7_word (N : Nat) (a0 : Nat) (a1 : Int32) (a2 : Int32) (M : A_M) : Option (Int32 × A_M) :=
  (chk M a0 7).bind fun _ =>
  bnd2 (f_X7_isThing N a0 a1 M) fun v2 M2 =>
  if v2 = 0 then
  (some ((-1 : Int32), M2))
  else
  ((gI M2 a0 7 4).bind fun v11 =>
  if v11 = 0 then
  (some ((-3 : Int32), M2))
  else
  ((gR M2 a0 7 8).bind fun v24 =>
  (ldI M2 v24 a1).bind fun v28 =>
  bnd2 (f_X7_in N (a2.toInt64) (0 : Int64) ((v28 - (1 : Int32)).toInt64) M2) fun v32 M32 =>
  if v32 = 0 then
  (some ((-6 : Int32), M32))
  else
  ((gR M32 a0 7 7).bind fun v39 =>
  (ldJ M32 v39 a1).bind fun v43 =>
  bnd2 (f_X7_signAt N v43 a2 M32) fun v45 M45 =>
  some (v45, M45))))
set_option maxHeartbeats 4000000 in
set_option maxRecDepth 100000 in
theorem ok_X7_word (N : Nat) {a0 : Nat} {a1 : Int32} {a2 : Int32} {M : A_M} {r : Int32} {M' : A_M} (h : f_X7_word N a0 a1 a2 M = some (r, M')) : Runs yX7_word cX7_word 3 (some .int) 2 46 0 0 [.ref a0, .int a1, .int a2] M (some (.int r)) M' := by
  refine Runs.intro (by decide) (Nat.le_of_ble_eq_true rfl) (fun X C hnm hMC hMS => ?_)
  have C : Cx X cX7_word RX7 3 (some .int) 2 46 := C
  show J X 3 0 [(0, .ref a0), (1, .int a1), (2, .int a2)] [] M 0 0 (some (.int r)) M'
  unfold f_X7_word at h
  refine J_aload_n (pc' := 1) C 0 dX7_word_0 rfl rfl rfl ?_
  refine J_iload_n (pc' := 2) C 1 dX7_word_1 rfl rfl rfl ?_
  obtain ⟨_, q2, h⟩ := bd h
  obtain ⟨v2, M2, e2, h⟩ := bd2 h
  refine J_cV (pc' := 5) (st := []) (st2 := [.int v2]) (cs2 := 0) (sl2 := 0) C 7 rfl rfl q2 (ok_X7_isThing N e2) mw_X7_isThing wq_1074 rfl dX7_word_2 rfl rfl (Nat.le_of_ble_eq_true rfl) (by decide) (by decide) rfl rfl rfl (Nat.zero_le _) (Nat.zero_le _) ?_
  refine J_if_ne (tgt := 10) (pc' := 8) C dX7_word_5 (by decide) rfl (fun c5 => ?_) (fun c5 => ?_)
  · rw [if_neg c5] at h
    refine J_aload_n (pc' := 11) C 0 dX7_word_10 rfl rfl rfl ?_
    obtain ⟨v11, e11, h⟩ := bd h
    refine jg_883 (pc' := 14) C dX7_word_11 rfl (gI_some e11) ?_
    refine J_if_ne (tgt := 20) (pc' := 17) C dX7_word_14 (by decide) rfl (fun c14 => ?_) (fun c14 => ?_)
    · rw [if_neg c14] at h
      refine J_iload_n (pc' := 21) C 2 dX7_word_20 rfl rfl rfl ?_
      refine J_i2l (pc' := 22) C dX7_word_21 rfl ?_
      refine J_lconst (pc' := 23) (v := (0 : Int64)) C dX7_word_22 rfl (by decide) ?_
      refine J_aload_n (pc' := 24) C 0 dX7_word_23 rfl rfl rfl ?_
      obtain ⟨v24, e24, h⟩ := bd h
      refine jg_887 (pc' := 27) C dX7_word_24 rfl (gR_some e24) ?_
      refine J_iload_n (pc' := 28) C 1 dX7_word_27 rfl rfl rfl ?_
      obtain ⟨v28, e28, h⟩ := bd h
      refine J_iald (pc' := 29) C dX7_word_28 rfl e28 ?_
      refine J_iconst (pc' := 30) (v := (1 : Int32)) C dX7_word_29 rfl (by decide) ?_
      refine J_isub (pc' := 31) C dX7_word_30 rfl ?_
      refine J_i2l (pc' := 32) C dX7_word_31 rfl ?_
      obtain ⟨v32, M32, e32, h⟩ := bd2 h
      refine J_cS (pc' := 35) (st := []) (st2 := [.int v32]) (cs2 := 0) (sl2 := 0) C (ok_X7_in N e32) mw_X7_in wq_1057 rfl dX7_word_32 rfl rfl (Nat.le_of_ble_eq_true rfl) (by decide) (by decide) rfl rfl rfl (Nat.zero_le _) (Nat.zero_le _) ?_
      refine J_if_eq (tgt := 51) (pc' := 38) C dX7_word_35 (by decide) rfl (fun c35 => ?_) (fun c35 => ?_)
      · rw [if_pos c35] at h
        refine J_bipush (pc' := 53) (v := (-6 : Int32)) C dX7_word_51 rfl (by decide) ?_
        obtain ⟨rfl, rfl⟩ := rt2 h
        exact J_iret C dX7_word_53 (Nat.zero_le _) (Nat.zero_le _)
      · rw [if_neg c35] at h
        refine J_aload_n (pc' := 39) C 0 dX7_word_38 rfl rfl rfl ?_
        obtain ⟨v39, e39, h⟩ := bd h
        refine jg_886 (pc' := 42) C dX7_word_39 rfl (gR_some e39) ?_
        refine J_iload_n (pc' := 43) C 1 dX7_word_42 rfl rfl rfl ?_
        obtain ⟨v43, e43, h⟩ := bd h
        refine J_lald (pc' := 44) C dX7_word_43 rfl e43 ?_
        refine J_iload_n (pc' := 45) C 2 dX7_word_44 rfl rfl rfl ?_
        obtain ⟨v45, M45, e45, h⟩ := bd2 h
        refine J_cS (pc' := 48) (st := []) (st2 := [.int v45]) (cs2 := 0) (sl2 := 0) C (ok_X7_signAt N e45) mw_X7_signAt wq_1222 rfl dX7_word_45 rfl rfl (Nat.le_of_ble_eq_true rfl) (by decide) (by decide) rfl rfl rfl (Nat.zero_le _) (Nat.zero_le _) ?_
        refine J_goto (tgt := 53) C dX7_word_48 (by decide) ?_
        obtain ⟨rfl, rfl⟩ := rt2 h
        exact J_iret C dX7_word_53 (Nat.zero_le _) (Nat.zero_le _)
    · rw [if_pos c14] at h
      refine J_bipush (pc' := 19) (v := (-3 : Int32)) C dX7_word_17 rfl (by decide) ?_
      obtain ⟨rfl, rfl⟩ := rt2 h
      exact J_iret C dX7_word_19 (Nat.zero_le _) (Nat.zero_le _)
  · rw [if_pos c5] at h
    refine J_iconst (pc' := 9) (v := (-1 : Int32)) C dX7_word_8 rfl (by decide) ?_
    obtain ⟨rfl, rfl⟩ := rt2 h
    exact J_iret C dX7_word_9 (Nat.zero_le _) (Nat.zero_le _)
def f_X7_room_K56 (N : Nat) (k15 : Nat → UInt64 → Int32 → A_M → Option (Int64 × A_M)) (x0 : Nat) (x1 : UInt64) (x3 : Int32) (x4 : UInt64) (M : A_M) : Option (Int64 × A_M) :=
  (nz (FP.dadd x1 x4)).bind fun _ =>
  k15 x0 (FP.dadd x1 x4) (x3 + 1) M
set_option maxHeartbeats 4000000 in
set_option maxRecDepth 100000 in
theorem ok_X7_room_K56 {X : JX} (C : Cx X cX7_room RX7 7 (some .long) 2 51) (N : Nat) {k15 : Nat → UInt64 → Int32 → A_M → Option (Int64 × A_M)} (hk15 : ∀ (x0 : Nat) (x1 : UInt64) (x3 : Int32) (M : A_M) (r : Int64) (M' : A_M), k15 x0 x1 x3 M = some (r, M') → J X 7 15 [(0, .ref x0), (1, .double x1), (3, .int x3)] [] M 0 0 (some (.long r)) M') : ∀ (x0 : Nat) (x1 : UInt64) (x3 : Int32) (x4 : UInt64) (M : A_M) (r : Int64) (M' : A_M), f_X7_room_K56 N k15 x0 x1 x3 x4 M = some (r, M') → J X 7 56 [(0, .ref x0), (1, .double x1), (3, .int x3), (4, .double x4)] [] M 0 0 (some (.long r)) M' := by
  intro x0 x1 x3 x4 M r M' h
  unfold f_X7_room_K56 at h
  refine J_dload_n (pc' := 57) C 1 dX7_room_56 rfl rfl rfl ?_
  refine J_dload (pc' := 59) C 3 dX7_room_57 rfl rfl ?_
  obtain ⟨v59, e59, h⟩ := bd h
  obtain ⟨c59, rfl⟩ := nz_some e59
  refine J_dadd (pc' := 60) C c59 dX7_room_59 rfl ?_
  refine J_dstore_n (pc' := 61) (lv' := [(1, .double (FP.dadd x1 x4)), (0, .ref x0), (3, .int x3), (4, .double x4)]) C dX7_room_60 rfl rfl (by decide) rfl ?_
  refine J_iinc (pc' := 64) (lv' := [(3, .int (x3 + 1)), (1, .double (FP.dadd x1 x4)), (0, .ref x0), (4, .double x4)]) C 2 dX7_room_61 rfl rfl rfl (by decide) rfl ?_
  refine J_goto (tgt := 15) C dX7_room_64 (by decide) ?_
  refine J_sub (lv' := [(0, .ref x0), (1, .double (FP.dadd x1 x4)), (3, .int (x3 + 1))]) [2, 1, 0] rfl ?_
  exact hk15 _ _ _ _ _ _ h
def f_X7_room_L29 (N : Nat) (k15 : Nat → UInt64 → Int32 → A_M → Option (Int64 × A_M)) : Nat → Nat → UInt64 → Int32 → UInt64 → Int32 → A_M → Option (Int64 × A_M)
  | 0, _, _, _, _, _, _ => none
  | n + 1, x0, x1, x3, x4, x6, M =>
    (gR M x0 7 8).bind fun v32 =>
    (ldI M v32 x3).bind fun v36 =>
    if v36 ≤ x6 then
    (f_X7_room_K56 N k15 x0 x1 x3 x4 M)
    else
    ((gI M x0 7 1).bind fun v43 =>
    (nz (FP.ddiv x4 (FP.i2d v43))).bind fun _ =>
    f_X7_room_L29 N k15 n x0 x1 x3 (FP.ddiv x4 (FP.i2d v43)) (x6 + 1) M)
set_option maxHeartbeats 4000000 in
set_option maxRecDepth 100000 in
theorem ok_X7_room_L29 {X : JX} (C : Cx X cX7_room RX7 7 (some .long) 2 51) (N : Nat) {k15 : Nat → UInt64 → Int32 → A_M → Option (Int64 × A_M)} (hk15 : ∀ (x0 : Nat) (x1 : UInt64) (x3 : Int32) (M : A_M) (r : Int64) (M' : A_M), k15 x0 x1 x3 M = some (r, M') → J X 7 15 [(0, .ref x0), (1, .double x1), (3, .int x3)] [] M 0 0 (some (.long r)) M') : ∀ (n : Nat) (x0 : Nat) (x1 : UInt64) (x3 : Int32) (x4 : UInt64) (x6 : Int32) (M : A_M) (r : Int64) (M' : A_M), f_X7_room_L29 N k15 n x0 x1 x3 x4 x6 M = some (r, M') → J X 7 29 [(0, .ref x0), (1, .double x1), (3, .int x3), (4, .double x4), (6, .int x6)] [] M 0 0 (some (.long r)) M' := by
  intro n
  induction n with
  | zero =>
    intro x0 x1 x3 x4 x6 M r M' h
    cases h
  | succ n ih =>
    intro x0 x1 x3 x4 x6 M r M' h
    rw [f_X7_room_L29] at h
    refine J_iload (pc' := 31) C 4 dX7_room_29 rfl rfl ?_
    refine J_aload_n (pc' := 32) C 0 dX7_room_31 rfl rfl rfl ?_
    obtain ⟨v32, e32, h⟩ := bd h
    refine jg_887 (pc' := 35) C dX7_room_32 rfl (gR_some e32) ?_
    refine J_iload_n (pc' := 36) C 2 dX7_room_35 rfl rfl rfl ?_
    obtain ⟨v36, e36, h⟩ := bd h
    refine J_iald (pc' := 37) C dX7_room_36 rfl e36 ?_
    refine J_icmp_ge (tgt := 56) (pc' := 40) C dX7_room_37 (by decide) rfl (fun c37 => ?_) (fun c37 => ?_)
    · rw [if_pos c37] at h
      refine J_sub (lv' := [(0, .ref x0), (1, .double x1), (3, .int x3), (4, .double x4)]) [0, 1, 2, 3] rfl ?_
      exact ok_X7_room_K56 C N hk15 _ _ _ _ _ _ _ h
    · rw [if_neg c37] at h
      refine J_dload (pc' := 42) C 3 dX7_room_40 rfl rfl ?_
      refine J_aload_n (pc' := 43) C 0 dX7_room_42 rfl rfl rfl ?_
      obtain ⟨v43, e43, h⟩ := bd h
      refine jg_880 (pc' := 46) C dX7_room_43 rfl (gI_some e43) ?_
      refine J_i2d (pc' := 47) C dX7_room_46 rfl ?_
      obtain ⟨v47, e47, h⟩ := bd h
      obtain ⟨c47, rfl⟩ := nz_some e47
      refine J_ddiv (pc' := 48) C c47 dX7_room_47 rfl ?_
      refine J_dstore (pc' := 50) (lv' := [(4, .double (FP.ddiv x4 (FP.i2d v43))), (0, .ref x0), (1, .double x1), (3, .int x3), (6, .int x6)]) C dX7_room_48 rfl (by decide) rfl ?_
      refine J_iinc (pc' := 53) (lv' := [(6, .int (x6 + 1)), (4, .double (FP.ddiv x4 (FP.i2d v43))), (0, .ref x0), (1, .double x1), (3, .int x3)]) C 4 dX7_room_50 rfl rfl rfl (by decide) rfl ?_
      refine J_goto (tgt := 29) C dX7_room_53 (by decide) ?_
      refine J_sub (lv' := [(0, .ref x0), (1, .double x1), (3, .int x3), (4, .double (FP.ddiv x4 (FP.i2d v43))), (6, .int (x6 + 1))]) [2, 3, 4, 1, 0] rfl ?_
      exact ih _ _ _ _ _ _ _ _ h
def f_X7_room_L15 (N : Nat) : Nat → Nat → UInt64 → Int32 → A_M → Option (Int64 × A_M)
  | 0, _, _, _, _ => none
  | n + 1, x0, x1, x3, M =>
    (gI M x0 7 3).bind fun v17 =>
    if v17 ≤ x3 then
    (bnd2 (f_Jxe99ae_doubleToLongBits_ccdee N x1 M) fun v68 M68 =>
    some (v68, M68))
    else
    (f_X7_room_L29 N (f_X7_room_L15 N n) N x0 x1 x3 FP.dconst1 (0 : Int32) M)
set_option maxHeartbeats 4000000 in
set_option maxRecDepth 100000 in
theorem ok_X7_room_L15 {X : JX} (C : Cx X cX7_room RX7 7 (some .long) 2 51) (N : Nat) : ∀ (n : Nat) (x0 : Nat) (x1 : UInt64) (x3 : Int32) (M : A_M) (r : Int64) (M' : A_M), f_X7_room_L15 N n x0 x1 x3 M = some (r, M') → J X 7 15 [(0, .ref x0), (1, .double x1), (3, .int x3)] [] M 0 0 (some (.long r)) M' := by
  intro n
  induction n with
  | zero =>
    intro x0 x1 x3 M r M' h
    cases h
  | succ n ih =>
    intro x0 x1 x3 M r M' h
    rw [f_X7_room_L15] at h
    refine J_iload_n (pc' := 16) C 2 dX7_room_15 rfl rfl rfl ?_
    refine J_aload_n (pc' := 17) C 0 dX7_room_16 rfl rfl rfl ?_
    obtain ⟨v17, e17, h⟩ := bd h
    refine jg_882 (pc' := 20) C dX7_room_17 rfl (gI_some e17) ?_
    refine J_icmp_ge (tgt := 67) (pc' := 23) C dX7_room_20 (by decide) rfl (fun c20 => ?_) (fun c20 => ?_)
    · rw [if_pos c20] at h
      refine J_dload_n (pc' := 68) C 1 dX7_room_67 rfl rfl rfl ?_
      obtain ⟨v68, M68, e68, h⟩ := bd2 h
      refine J_cS (pc' := 71) (st := []) (st2 := [.long v68]) (cs2 := 0) (sl2 := 0) C (ok_Jxe99ae_doubleToLongBits_ccdee N e68) mw_Jxe99ae_doubleToLongBits_ccdee wq_1264 rfl dX7_room_68 rfl rfl (Nat.le_of_ble_eq_true rfl) (by decide) (by decide) rfl rfl rfl (Nat.zero_le _) (Nat.zero_le _) ?_
      obtain ⟨rfl, rfl⟩ := rt2 h
      exact J_lret C dX7_room_71 (Nat.zero_le _) (Nat.zero_le _)
    · rw [if_neg c20] at h
      refine J_dconst1 (pc' := 24) C dX7_room_23 rfl ?_
      refine J_dstore (pc' := 26) (lv' := [(4, .double FP.dconst1), (0, .ref x0), (1, .double x1), (3, .int x3)]) C dX7_room_24 rfl (by decide) rfl ?_
      refine J_iconst (pc' := 27) (v := (0 : Int32)) C dX7_room_26 rfl (by decide) ?_
      refine J_istore (pc' := 29) (lv' := [(6, .int (0 : Int32)), (4, .double FP.dconst1), (0, .ref x0), (1, .double x1), (3, .int x3)]) C dX7_room_27 rfl (by decide) rfl ?_
      refine J_sub (lv' := [(0, .ref x0), (1, .double x1), (3, .int x3), (4, .double FP.dconst1), (6, .int (0 : Int32))]) [2, 3, 4, 1, 0] rfl ?_
      exact ok_X7_room_L29 C N ih N _ _ _ _ _ _ _ _ h
def f_X7_room (N : Nat) (a0 : Nat) (M : A_M) : Option (Int64 × A_M) :=
  (gI M a0 7 4).bind fun v1 =>
  if v1 = 0 then
  (some ((-3 : Int64), M))
  else
  (f_X7_room_L15 N N a0 FP.dconst0 (0 : Int32) M)
set_option maxHeartbeats 4000000 in
set_option maxRecDepth 100000 in
theorem ok_X7_room (N : Nat) {a0 : Nat} {M : A_M} {r : Int64} {M' : A_M} (h : f_X7_room N a0 M = some (r, M')) : Runs yX7_room cX7_room 7 (some .long) 2 51 0 0 [.ref a0] M (some (.long r)) M' := by
  refine Runs.intro (by decide) (Nat.le_of_ble_eq_true rfl) (fun X C hnm hMC hMS => ?_)
  have C : Cx X cX7_room RX7 7 (some .long) 2 51 := C
  show J X 7 0 [(0, .ref a0)] [] M 0 0 (some (.long r)) M'
  unfold f_X7_room at h
  refine J_aload_n (pc' := 1) C 0 dX7_room_0 rfl rfl rfl ?_
  obtain ⟨v1, e1, h⟩ := bd h
  refine jg_883 (pc' := 4) C dX7_room_1 rfl (gI_some e1) ?_
  refine J_if_ne (tgt := 11) (pc' := 7) C dX7_room_4 (by decide) rfl (fun c4 => ?_) (fun c4 => ?_)
  · rw [if_neg c4] at h
    refine J_dconst0 (pc' := 12) C dX7_room_11 rfl ?_
    refine J_dstore_n (pc' := 13) (lv' := [(1, .double FP.dconst0), (0, .ref a0)]) C dX7_room_12 rfl rfl (by decide) rfl ?_
    refine J_iconst (pc' := 14) (v := (0 : Int32)) C dX7_room_13 rfl (by decide) ?_
    refine J_istore_n (pc' := 15) (lv' := [(3, .int (0 : Int32)), (1, .double FP.dconst0), (0, .ref a0)]) C dX7_room_14 rfl rfl (by decide) rfl ?_
    refine J_sub (lv' := [(0, .ref a0), (1, .double FP.dconst0), (3, .int (0 : Int32))]) [2, 1, 0] rfl ?_
    exact ok_X7_room_L15 C N N _ _ _ _ _ _ h
  · rw [if_pos c4] at h
    refine J_ldc2 (pc' := 10) C dX7_room_7 rfl wq_1083 ?_
    obtain ⟨rfl, rfl⟩ := rt2 h
    exact J_lret C dX7_room_10 (Nat.zero_le _) (Nat.zero_le _)
