def f_J6_numberOfLeadingZeros_0f7a4_K61 (N : Nat) (x0 : Int32) (x1 : Int32) (M : A_M) : Option (Int32 × A_M) :=
  if x0 < (4 : Int32) then
  (some ((x1 - ((x0.toUInt32 >>> ((1 : Int32).toUInt32 &&& Int32.toUInt32 31)).toInt32)), M))
  else
  (some (((x1 + (-2)) - ((((x0.toUInt32 >>> ((2 : Int32).toUInt32 &&& Int32.toUInt32 31)).toInt32).toUInt32 >>> ((1 : Int32).toUInt32 &&& Int32.toUInt32 31)).toInt32)), M))
set_option maxHeartbeats 4000000 in
set_option maxRecDepth 100000 in
theorem ok_J6_numberOfLeadingZeros_0f7a4_K61 {X : JX} (C : Cx X cJ6_numberOfLeadingZeros_0f7a4 RJ6 2 (some .int) 0 0) (N : Nat) : ∀ (x0 : Int32) (x1 : Int32) (M : A_M) (r : Int32) (M' : A_M), f_J6_numberOfLeadingZeros_0f7a4_K61 N x0 x1 M = some (r, M') → J X 2 61 [(0, .int x0), (1, .int x1)] [] M 0 0 (some (.int r)) M' := by
  intro x0 x1 M r M' h
  unfold f_J6_numberOfLeadingZeros_0f7a4_K61 at h
  refine J_iload_n (pc' := 62) C 0 dJ6_numberOfLeadingZeros_0f7a4_61 rfl rfl rfl ?_
  refine J_iconst (pc' := 63) (v := (4 : Int32)) C dJ6_numberOfLeadingZeros_0f7a4_62 rfl (by decide) ?_
  refine J_icmp_lt (tgt := 73) (pc' := 66) C dJ6_numberOfLeadingZeros_0f7a4_63 (by decide) rfl (fun c63 => ?_) (fun c63 => ?_)
  · rw [if_pos c63] at h
    refine J_iload_n (pc' := 74) C 1 dJ6_numberOfLeadingZeros_0f7a4_73 rfl rfl rfl ?_
    refine J_iload_n (pc' := 75) C 0 dJ6_numberOfLeadingZeros_0f7a4_74 rfl rfl rfl ?_
    refine J_iconst (pc' := 76) (v := (1 : Int32)) C dJ6_numberOfLeadingZeros_0f7a4_75 rfl (by decide) ?_
    refine J_iushr (pc' := 77) C dJ6_numberOfLeadingZeros_0f7a4_76 rfl ?_
    refine J_isub (pc' := 78) C dJ6_numberOfLeadingZeros_0f7a4_77 rfl ?_
    obtain ⟨rfl, rfl⟩ := rt2 h
    exact J_iret C dJ6_numberOfLeadingZeros_0f7a4_78 (Nat.zero_le _) (Nat.zero_le _)
  · rw [if_neg c63] at h
    refine J_iinc (pc' := 69) (lv' := [(1, .int (x1 + (-2))), (0, .int x0)]) C 1 dJ6_numberOfLeadingZeros_0f7a4_66 rfl rfl rfl (by decide) rfl ?_
    refine J_iload_n (pc' := 70) C 1 dJ6_numberOfLeadingZeros_0f7a4_69 rfl rfl rfl ?_
    refine J_iconst (pc' := 71) (v := (2 : Int32)) C dJ6_numberOfLeadingZeros_0f7a4_70 rfl (by decide) ?_
    refine J_iushr (pc' := 72) C dJ6_numberOfLeadingZeros_0f7a4_71 rfl ?_
    refine J_istore_n (pc' := 73) (lv' := [(0, .int ((x0.toUInt32 >>> ((2 : Int32).toUInt32 &&& Int32.toUInt32 31)).toInt32)), (1, .int (x1 + (-2)))]) C dJ6_numberOfLeadingZeros_0f7a4_72 rfl rfl (by decide) rfl ?_
    refine J_iload_n (pc' := 74) C 1 dJ6_numberOfLeadingZeros_0f7a4_73 rfl rfl rfl ?_
    refine J_iload_n (pc' := 75) C 0 dJ6_numberOfLeadingZeros_0f7a4_74 rfl rfl rfl ?_
    refine J_iconst (pc' := 76) (v := (1 : Int32)) C dJ6_numberOfLeadingZeros_0f7a4_75 rfl (by decide) ?_
    refine J_iushr (pc' := 77) C dJ6_numberOfLeadingZeros_0f7a4_76 rfl ?_
    refine J_isub (pc' := 78) C dJ6_numberOfLeadingZeros_0f7a4_77 rfl ?_
    obtain ⟨rfl, rfl⟩ := rt2 h
    exact J_iret C dJ6_numberOfLeadingZeros_0f7a4_78 (Nat.zero_le _) (Nat.zero_le _)
def f_J6_numberOfLeadingZeros_0f7a4_K48 (N : Nat) (x0 : Int32) (x1 : Int32) (M : A_M) : Option (Int32 × A_M) :=
  if x0 < (16 : Int32) then
  (f_J6_numberOfLeadingZeros_0f7a4_K61 N x0 x1 M)
  else
  (f_J6_numberOfLeadingZeros_0f7a4_K61 N ((x0.toUInt32 >>> ((4 : Int32).toUInt32 &&& Int32.toUInt32 31)).toInt32) (x1 + (-4)) M)
set_option maxHeartbeats 4000000 in
set_option maxRecDepth 100000 in
theorem ok_J6_numberOfLeadingZeros_0f7a4_K48 {X : JX} (C : Cx X cJ6_numberOfLeadingZeros_0f7a4 RJ6 2 (some .int) 0 0) (N : Nat) : ∀ (x0 : Int32) (x1 : Int32) (M : A_M) (r : Int32) (M' : A_M), f_J6_numberOfLeadingZeros_0f7a4_K48 N x0 x1 M = some (r, M') → J X 2 48 [(0, .int x0), (1, .int x1)] [] M 0 0 (some (.int r)) M' := by
  intro x0 x1 M r M' h
  unfold f_J6_numberOfLeadingZeros_0f7a4_K48 at h
  refine J_iload_n (pc' := 49) C 0 dJ6_numberOfLeadingZeros_0f7a4_48 rfl rfl rfl ?_
  refine J_bipush (pc' := 51) (v := (16 : Int32)) C dJ6_numberOfLeadingZeros_0f7a4_49 rfl (by decide) ?_
  refine J_icmp_lt (tgt := 61) (pc' := 54) C dJ6_numberOfLeadingZeros_0f7a4_51 (by decide) rfl (fun c51 => ?_) (fun c51 => ?_)
  · rw [if_pos c51] at h
    refine J_sub (lv' := [(0, .int x0), (1, .int x1)]) [0, 1] rfl ?_
    exact ok_J6_numberOfLeadingZeros_0f7a4_K61 C N _ _ _ _ _ h
  · rw [if_neg c51] at h
    refine J_iinc (pc' := 57) (lv' := [(1, .int (x1 + (-4))), (0, .int x0)]) C 1 dJ6_numberOfLeadingZeros_0f7a4_54 rfl rfl rfl (by decide) rfl ?_
    refine J_iload_n (pc' := 58) C 1 dJ6_numberOfLeadingZeros_0f7a4_57 rfl rfl rfl ?_
    refine J_iconst (pc' := 59) (v := (4 : Int32)) C dJ6_numberOfLeadingZeros_0f7a4_58 rfl (by decide) ?_
    refine J_iushr (pc' := 60) C dJ6_numberOfLeadingZeros_0f7a4_59 rfl ?_
    refine J_istore_n (pc' := 61) (lv' := [(0, .int ((x0.toUInt32 >>> ((4 : Int32).toUInt32 &&& Int32.toUInt32 31)).toInt32)), (1, .int (x1 + (-4)))]) C dJ6_numberOfLeadingZeros_0f7a4_60 rfl rfl (by decide) rfl ?_
    refine J_sub (lv' := [(0, .int ((x0.toUInt32 >>> ((4 : Int32).toUInt32 &&& Int32.toUInt32 31)).toInt32)), (1, .int (x1 + (-4)))]) [0, 1] rfl ?_
    exact ok_J6_numberOfLeadingZeros_0f7a4_K61 C N _ _ _ _ _ h
def f_J6_numberOfLeadingZeros_0f7a4_K33 (N : Nat) (x0 : Int32) (x1 : Int32) (M : A_M) : Option (Int32 × A_M) :=
  if x0 < (256 : Int32) then
  (f_J6_numberOfLeadingZeros_0f7a4_K48 N x0 x1 M)
  else
  (f_J6_numberOfLeadingZeros_0f7a4_K48 N ((x0.toUInt32 >>> ((8 : Int32).toUInt32 &&& Int32.toUInt32 31)).toInt32) (x1 + (-8)) M)
set_option maxHeartbeats 4000000 in
set_option maxRecDepth 100000 in
theorem ok_J6_numberOfLeadingZeros_0f7a4_K33 {X : JX} (C : Cx X cJ6_numberOfLeadingZeros_0f7a4 RJ6 2 (some .int) 0 0) (N : Nat) : ∀ (x0 : Int32) (x1 : Int32) (M : A_M) (r : Int32) (M' : A_M), f_J6_numberOfLeadingZeros_0f7a4_K33 N x0 x1 M = some (r, M') → J X 2 33 [(0, .int x0), (1, .int x1)] [] M 0 0 (some (.int r)) M' := by
  intro x0 x1 M r M' h
  unfold f_J6_numberOfLeadingZeros_0f7a4_K33 at h
  refine J_iload_n (pc' := 34) C 0 dJ6_numberOfLeadingZeros_0f7a4_33 rfl rfl rfl ?_
  refine J_sipush (pc' := 37) (v := (256 : Int32)) C dJ6_numberOfLeadingZeros_0f7a4_34 rfl (by decide) ?_
  refine J_icmp_lt (tgt := 48) (pc' := 40) C dJ6_numberOfLeadingZeros_0f7a4_37 (by decide) rfl (fun c37 => ?_) (fun c37 => ?_)
  · rw [if_pos c37] at h
    refine J_sub (lv' := [(0, .int x0), (1, .int x1)]) [0, 1] rfl ?_
    exact ok_J6_numberOfLeadingZeros_0f7a4_K48 C N _ _ _ _ _ h
  · rw [if_neg c37] at h
    refine J_iinc (pc' := 43) (lv' := [(1, .int (x1 + (-8))), (0, .int x0)]) C 1 dJ6_numberOfLeadingZeros_0f7a4_40 rfl rfl rfl (by decide) rfl ?_
    refine J_iload_n (pc' := 44) C 1 dJ6_numberOfLeadingZeros_0f7a4_43 rfl rfl rfl ?_
    refine J_bipush (pc' := 46) (v := (8 : Int32)) C dJ6_numberOfLeadingZeros_0f7a4_44 rfl (by decide) ?_
    refine J_iushr (pc' := 47) C dJ6_numberOfLeadingZeros_0f7a4_46 rfl ?_
    refine J_istore_n (pc' := 48) (lv' := [(0, .int ((x0.toUInt32 >>> ((8 : Int32).toUInt32 &&& Int32.toUInt32 31)).toInt32)), (1, .int (x1 + (-8)))]) C dJ6_numberOfLeadingZeros_0f7a4_47 rfl rfl (by decide) rfl ?_
    refine J_sub (lv' := [(0, .int ((x0.toUInt32 >>> ((8 : Int32).toUInt32 &&& Int32.toUInt32 31)).toInt32)), (1, .int (x1 + (-8)))]) [0, 1] rfl ?_
    exact ok_J6_numberOfLeadingZeros_0f7a4_K48 C N _ _ _ _ _ h
def f_J6_numberOfLeadingZeros_0f7a4 (N : Nat) (a0 : Int32) (M : A_M) : Option (Int32 × A_M) :=
  if 0 < a0 then
  (if a0 < (65536 : Int32) then
  (f_J6_numberOfLeadingZeros_0f7a4_K33 N a0 (31 : Int32) M)
  else
  (f_J6_numberOfLeadingZeros_0f7a4_K33 N ((a0.toUInt32 >>> ((16 : Int32).toUInt32 &&& Int32.toUInt32 31)).toInt32) ((31 : Int32) + (-16)) M))
  else
  (if a0 = 0 then
  (some ((32 : Int32), M))
  else
  (some ((0 : Int32), M)))
set_option maxHeartbeats 4000000 in
set_option maxRecDepth 100000 in
theorem ok_J6_numberOfLeadingZeros_0f7a4 (N : Nat) {a0 : Int32} {M : A_M} {r : Int32} {M' : A_M} (h : f_J6_numberOfLeadingZeros_0f7a4 N a0 M = some (r, M')) : Runs yJ6_numberOfLeadingZeros_0f7a4 cJ6_numberOfLeadingZeros_0f7a4 2 (some .int) 0 0 0 0 [.int a0] M (some (.int r)) M' := by
  refine Runs.intro (by decide) (Nat.le_of_ble_eq_true rfl) (fun X C hnm hMC hMS => ?_)
  have C : Cx X cJ6_numberOfLeadingZeros_0f7a4 RJ6 2 (some .int) 0 0 := C
  show J X 2 0 [(0, .int a0)] [] M 0 0 (some (.int r)) M'
  unfold f_J6_numberOfLeadingZeros_0f7a4 at h
  refine J_iload_n (pc' := 1) C 0 dJ6_numberOfLeadingZeros_0f7a4_0 rfl rfl rfl ?_
  refine J_if_gt (tgt := 15) (pc' := 4) C dJ6_numberOfLeadingZeros_0f7a4_1 (by decide) rfl (fun c1 => ?_) (fun c1 => ?_)
  · rw [if_pos c1] at h
    refine J_bipush (pc' := 17) (v := (31 : Int32)) C dJ6_numberOfLeadingZeros_0f7a4_15 rfl (by decide) ?_
    refine J_istore_n (pc' := 18) (lv' := [(1, .int (31 : Int32)), (0, .int a0)]) C dJ6_numberOfLeadingZeros_0f7a4_17 rfl rfl (by decide) rfl ?_
    refine J_iload_n (pc' := 19) C 1 dJ6_numberOfLeadingZeros_0f7a4_18 rfl rfl rfl ?_
    refine J_ldcw (pc' := 22) C dJ6_numberOfLeadingZeros_0f7a4_19 rfl wq_591 ?_
    refine J_icmp_lt (tgt := 33) (pc' := 25) C dJ6_numberOfLeadingZeros_0f7a4_22 (by decide) rfl (fun c22 => ?_) (fun c22 => ?_)
    · rw [if_pos c22] at h
      refine J_sub (lv' := [(0, .int a0), (1, .int (31 : Int32))]) [1, 0] rfl ?_
      exact ok_J6_numberOfLeadingZeros_0f7a4_K33 C N _ _ _ _ _ h
    · rw [if_neg c22] at h
      refine J_iinc (pc' := 28) (lv' := [(1, .int ((31 : Int32) + (-16))), (0, .int a0)]) C 0 dJ6_numberOfLeadingZeros_0f7a4_25 rfl rfl rfl (by decide) rfl ?_
      refine J_iload_n (pc' := 29) C 1 dJ6_numberOfLeadingZeros_0f7a4_28 rfl rfl rfl ?_
      refine J_bipush (pc' := 31) (v := (16 : Int32)) C dJ6_numberOfLeadingZeros_0f7a4_29 rfl (by decide) ?_
      refine J_iushr (pc' := 32) C dJ6_numberOfLeadingZeros_0f7a4_31 rfl ?_
      refine J_istore_n (pc' := 33) (lv' := [(0, .int ((a0.toUInt32 >>> ((16 : Int32).toUInt32 &&& Int32.toUInt32 31)).toInt32)), (1, .int ((31 : Int32) + (-16)))]) C dJ6_numberOfLeadingZeros_0f7a4_32 rfl rfl (by decide) rfl ?_
      refine J_sub (lv' := [(0, .int ((a0.toUInt32 >>> ((16 : Int32).toUInt32 &&& Int32.toUInt32 31)).toInt32)), (1, .int ((31 : Int32) + (-16)))]) [0, 1] rfl ?_
      exact ok_J6_numberOfLeadingZeros_0f7a4_K33 C N _ _ _ _ _ h
  · rw [if_neg c1] at h
    refine J_iload_n (pc' := 5) C 0 dJ6_numberOfLeadingZeros_0f7a4_4 rfl rfl rfl ?_
    refine J_if_ne (tgt := 13) (pc' := 8) C dJ6_numberOfLeadingZeros_0f7a4_5 (by decide) rfl (fun c5 => ?_) (fun c5 => ?_)
    · rw [if_neg c5] at h
      refine J_iconst (pc' := 14) (v := (0 : Int32)) C dJ6_numberOfLeadingZeros_0f7a4_13 rfl (by decide) ?_
      obtain ⟨rfl, rfl⟩ := rt2 h
      exact J_iret C dJ6_numberOfLeadingZeros_0f7a4_14 (Nat.zero_le _) (Nat.zero_le _)
    · rw [if_pos c5] at h
      refine J_bipush (pc' := 10) (v := (32 : Int32)) C dJ6_numberOfLeadingZeros_0f7a4_8 rfl (by decide) ?_
      refine J_goto (tgt := 14) C dJ6_numberOfLeadingZeros_0f7a4_10 (by decide) ?_
      obtain ⟨rfl, rfl⟩ := rt2 h
      exact J_iret C dJ6_numberOfLeadingZeros_0f7a4_14 (Nat.zero_le _) (Nat.zero_le _)
def f_J13_numberOfLeadingZeros_95d88 (N : Nat) (a0 : Int64) (M : A_M) : Option (Int32 × A_M) :=
  if (((a0.toUInt64 >>> ((32 : Int32).toInt64.toUInt64 &&& Int64.toUInt64 63)).toInt64).toInt32) = 0 then
  (bnd2 (f_J6_numberOfLeadingZeros_0f7a4 N (a0.toInt32) M) fun v14 M14 =>
  some (((32 : Int32) + v14), M14))
  else
  (bnd2 (f_J6_numberOfLeadingZeros_0f7a4 N (((a0.toUInt64 >>> ((32 : Int32).toInt64.toUInt64 &&& Int64.toUInt64 63)).toInt64).toInt32) M) fun v22 M22 =>
  some (v22, M22))
set_option maxHeartbeats 4000000 in
set_option maxRecDepth 100000 in
theorem ok_J13_numberOfLeadingZeros_95d88 (N : Nat) {a0 : Int64} {M : A_M} {r : Int32} {M' : A_M} (h : f_J13_numberOfLeadingZeros_95d88 N a0 M = some (r, M')) : Runs yJ13_numberOfLeadingZeros_95d88 cJ13_numberOfLeadingZeros_95d88 3 (some .int) 1 21 0 0 [.long a0] M (some (.int r)) M' := by
  refine Runs.intro (by decide) (Nat.le_of_ble_eq_true rfl) (fun X C hnm hMC hMS => ?_)
  have C : Cx X cJ13_numberOfLeadingZeros_95d88 RJ13 3 (some .int) 1 21 := C
  show J X 3 0 [(0, .long a0)] [] M 0 0 (some (.int r)) M'
  unfold f_J13_numberOfLeadingZeros_95d88 at h
  refine J_lload_n (pc' := 1) C 0 dJ13_numberOfLeadingZeros_95d88_0 rfl rfl rfl ?_
  refine J_bipush (pc' := 3) (v := (32 : Int32)) C dJ13_numberOfLeadingZeros_95d88_1 rfl (by decide) ?_
  refine J_lushr (pc' := 4) C dJ13_numberOfLeadingZeros_95d88_3 rfl ?_
  refine J_l2i (pc' := 5) C dJ13_numberOfLeadingZeros_95d88_4 rfl ?_
  refine J_istore_n (pc' := 6) (lv' := [(2, .int (((a0.toUInt64 >>> ((32 : Int32).toInt64.toUInt64 &&& Int64.toUInt64 63)).toInt64).toInt32)), (0, .long a0)]) C dJ13_numberOfLeadingZeros_95d88_5 rfl rfl (by decide) rfl ?_
  refine J_iload_n (pc' := 7) C 0 dJ13_numberOfLeadingZeros_95d88_6 rfl rfl rfl ?_
  refine J_if_ne (tgt := 21) (pc' := 10) C dJ13_numberOfLeadingZeros_95d88_7 (by decide) rfl (fun c7 => ?_) (fun c7 => ?_)
  · rw [if_neg c7] at h
    refine J_iload_n (pc' := 22) C 0 dJ13_numberOfLeadingZeros_95d88_21 rfl rfl rfl ?_
    obtain ⟨v22, M22, e22, h⟩ := bd2 h
    refine J_cS (pc' := 25) (st := []) (st2 := [.int v22]) (cs2 := 0) (sl2 := 0) C (ok_J6_numberOfLeadingZeros_0f7a4 N e22) mw_J6_numberOfLeadingZeros_0f7a4 wq_588 rfl dJ13_numberOfLeadingZeros_95d88_22 rfl rfl (Nat.le_of_ble_eq_true rfl) (by decide) (by decide) rfl rfl rfl (Nat.zero_le _) (Nat.zero_le _) ?_
    obtain ⟨rfl, rfl⟩ := rt2 h
    exact J_iret C dJ13_numberOfLeadingZeros_95d88_25 (Nat.zero_le _) (Nat.zero_le _)
  · rw [if_pos c7] at h
    refine J_bipush (pc' := 12) (v := (32 : Int32)) C dJ13_numberOfLeadingZeros_95d88_10 rfl (by decide) ?_
    refine J_lload_n (pc' := 13) C 1 dJ13_numberOfLeadingZeros_95d88_12 rfl rfl rfl ?_
    refine J_l2i (pc' := 14) C dJ13_numberOfLeadingZeros_95d88_13 rfl ?_
    obtain ⟨v14, M14, e14, h⟩ := bd2 h
    refine J_cS (pc' := 17) (st := [.int (32 : Int32)]) (st2 := [.int v14, .int (32 : Int32)]) (cs2 := 0) (sl2 := 0) C (ok_J6_numberOfLeadingZeros_0f7a4 N e14) mw_J6_numberOfLeadingZeros_0f7a4 wq_588 rfl dJ13_numberOfLeadingZeros_95d88_14 rfl rfl (Nat.le_of_ble_eq_true rfl) (by decide) (by decide) rfl rfl rfl (Nat.zero_le _) (Nat.zero_le _) ?_
    refine J_iadd (pc' := 18) C dJ13_numberOfLeadingZeros_95d88_17 rfl ?_
    refine J_goto (tgt := 25) C dJ13_numberOfLeadingZeros_95d88_18 (by decide) ?_
    obtain ⟨rfl, rfl⟩ := rt2 h
    exact J_iret C dJ13_numberOfLeadingZeros_95d88_25 (Nat.zero_le _) (Nat.zero_le _)
def f_J7_fill_53178_L5 (N : Nat) : Nat → Nat → Int32 → Int32 → Int32 → A_M → Option A_M
  | 0, _, _, _, _, _ => none
  | n + 1, x0, x1, x2, x3, M =>
    if x3 ≤ x2 then
    (some M)
    else
    ((stI M x0 x2 x1).bind fun M13 =>
    f_J7_fill_53178_L5 N n x0 x1 (x2 + 1) x3 M13)
set_option maxHeartbeats 4000000 in
set_option maxRecDepth 100000 in
theorem ok_J7_fill_53178_L5 {X : JX} (C : Cx X cJ7_fill_53178 RJ7 4 none 0 0) (N : Nat) : ∀ (n : Nat) (x0 : Nat) (x1 : Int32) (x2 : Int32) (x3 : Int32) (M : A_M) (M' : A_M), f_J7_fill_53178_L5 N n x0 x1 x2 x3 M = some M' → J X 4 5 [(0, .ref x0), (1, .int x1), (2, .int x2), (3, .int x3)] [] M 0 0 none M' := by
  intro n
  induction n with
  | zero =>
    intro x0 x1 x2 x3 M M' h
    cases h
  | succ n ih =>
    intro x0 x1 x2 x3 M M' h
    rw [f_J7_fill_53178_L5] at h
    refine J_iload_n (pc' := 6) C 2 dJ7_fill_53178_5 rfl rfl rfl ?_
    refine J_iload_n (pc' := 7) C 3 dJ7_fill_53178_6 rfl rfl rfl ?_
    refine J_icmp_ge (tgt := 20) (pc' := 10) C dJ7_fill_53178_7 (by decide) rfl (fun c7 => ?_) (fun c7 => ?_)
    · rw [if_pos c7] at h
      obtain rfl := rt1 h
      exact J_vret C dJ7_fill_53178_20 (Nat.zero_le _) (Nat.zero_le _)
    · rw [if_neg c7] at h
      refine J_aload_n (pc' := 11) C 0 dJ7_fill_53178_10 rfl rfl rfl ?_
      refine J_iload_n (pc' := 12) C 2 dJ7_fill_53178_11 rfl rfl rfl ?_
      refine J_iload_n (pc' := 13) C 1 dJ7_fill_53178_12 rfl rfl rfl ?_
      obtain ⟨M13, e13, h⟩ := bd h
      refine J_iast (pc' := 14) C dJ7_fill_53178_13 rfl e13 ?_
      refine J_iinc (pc' := 17) (lv' := [(2, .int (x2 + 1)), (0, .ref x0), (1, .int x1), (3, .int x3)]) C 2 dJ7_fill_53178_14 rfl rfl rfl (by decide) rfl ?_
      refine J_goto (tgt := 5) C dJ7_fill_53178_17 (by decide) ?_
      refine J_sub (lv' := [(0, .ref x0), (1, .int x1), (2, .int (x2 + 1)), (3, .int x3)]) [1, 2, 0, 3] rfl ?_
      exact ih _ _ _ _ _ _ h
def f_J7_fill_53178 (N : Nat) (a0 : Nat) (a1 : Int32) (M : A_M) : Option A_M :=
  (lenI M a0).bind fun v3 =>
  f_J7_fill_53178_L5 N N a0 a1 (0 : Int32) v3 M
set_option maxHeartbeats 4000000 in
set_option maxRecDepth 100000 in
theorem ok_J7_fill_53178 (N : Nat) {a0 : Nat} {a1 : Int32} {M : A_M} {M' : A_M} (h : f_J7_fill_53178 N a0 a1 M = some M') : Runs yJ7_fill_53178 cJ7_fill_53178 4 none 0 0 0 0 [.ref a0, .int a1] M none M' := by
  refine Runs.intro (by decide) (Nat.le_of_ble_eq_true rfl) (fun X C hnm hMC hMS => ?_)
  have C : Cx X cJ7_fill_53178 RJ7 4 none 0 0 := C
  show J X 4 0 [(0, .ref a0), (1, .int a1)] [] M 0 0 none M'
  unfold f_J7_fill_53178 at h
  refine J_iconst (pc' := 1) (v := (0 : Int32)) C dJ7_fill_53178_0 rfl (by decide) ?_
  refine J_istore_n (pc' := 2) (lv' := [(2, .int (0 : Int32)), (0, .ref a0), (1, .int a1)]) C dJ7_fill_53178_1 rfl rfl (by decide) rfl ?_
  refine J_aload_n (pc' := 3) C 1 dJ7_fill_53178_2 rfl rfl rfl ?_
  obtain ⟨v3, e3, h⟩ := bd h
  refine J_lenI (pc' := 4) C dJ7_fill_53178_3 rfl e3 ?_
  refine J_istore_n (pc' := 5) (lv' := [(3, .int v3), (2, .int (0 : Int32)), (0, .ref a0), (1, .int a1)]) C dJ7_fill_53178_4 rfl rfl (by decide) rfl ?_
  refine J_sub (lv' := [(0, .ref a0), (1, .int a1), (2, .int (0 : Int32)), (3, .int v3)]) [2, 3, 1, 0] rfl ?_
  exact ok_J7_fill_53178_L5 C N N _ _ _ _ _ _ h
def f_X6_alikeSigns (N : Nat) (a0 : Int64) (a2 : Int64) (M : A_M) : Option (Int32 × A_M) :=
  bnd2 (f_J13_numberOfLeadingZeros_95d88 N (a0 ^^^ a2) M) fun v3 M3 =>
  some (((v3 - (16 : Int32)) >>> ((1 : Int32) &&& 31)), M3)
set_option maxHeartbeats 4000000 in
set_option maxRecDepth 100000 in
theorem ok_X6_alikeSigns (N : Nat) {a0 : Int64} {a2 : Int64} {M : A_M} {r : Int32} {M' : A_M} (h : f_X6_alikeSigns N a0 a2 M = some (r, M')) : Runs yX6_alikeSigns cX6_alikeSigns 4 (some .int) 2 43 0 0 [.long a0, .long a2] M (some (.int r)) M' := by
  refine Runs.intro (by decide) (Nat.le_of_ble_eq_true rfl) (fun X C hnm hMC hMS => ?_)
  have C : Cx X cX6_alikeSigns RX6 4 (some .int) 2 43 := C
  show J X 4 0 [(0, .long a0), (2, .long a2)] [] M 0 0 (some (.int r)) M'
  unfold f_X6_alikeSigns at h
  refine J_lload_n (pc' := 1) C 0 dX6_alikeSigns_0 rfl rfl rfl ?_
  refine J_lload_n (pc' := 2) C 1 dX6_alikeSigns_1 rfl rfl rfl ?_
  refine J_lxor (pc' := 3) C dX6_alikeSigns_2 rfl ?_
  obtain ⟨v3, M3, e3, h⟩ := bd2 h
  refine J_cS (pc' := 6) (st := []) (st2 := [.int v3]) (cs2 := 0) (sl2 := 0) C (ok_J13_numberOfLeadingZeros_95d88 N e3) mw_J13_numberOfLeadingZeros_95d88 wq_585 rfl dX6_alikeSigns_3 rfl rfl (Nat.le_of_ble_eq_true rfl) (by decide) (by decide) rfl rfl rfl (Nat.zero_le _) (Nat.zero_le _) ?_
  refine J_bipush (pc' := 8) (v := (16 : Int32)) C dX6_alikeSigns_6 rfl (by decide) ?_
  refine J_isub (pc' := 9) C dX6_alikeSigns_8 rfl ?_
  refine J_iconst (pc' := 10) (v := (1 : Int32)) C dX6_alikeSigns_9 rfl (by decide) ?_
  refine J_ishr (pc' := 11) C dX6_alikeSigns_10 rfl ?_
  obtain ⟨rfl, rfl⟩ := rt2 h
  exact J_iret C dX6_alikeSigns_11 (Nat.zero_le _) (Nat.zero_le _)
def f_X0_clash (N : Nat) (a0 : Nat) (a1 : Int32) (a2 : Int32) (M : A_M) : Option (Int32 × A_M) :=
  (gR M a0 0 0).bind fun v1 =>
  (ldJ M v1 a1).bind fun v5 =>
  (gR M a0 0 0).bind fun v7 =>
  (ldJ M v7 a2).bind fun v11 =>
  bnd2 (f_X6_alikeSigns N v5 v11 M) fun v12 M12 =>
  (gR M12 a0 0 1).bind fun v16 =>
  (ldI M12 v16 a1).bind fun v20 =>
  (gR M12 a0 0 1).bind fun v22 =>
  (ldI M12 v22 a2).bind fun v26 =>
  if v12 < (mnI v20 v26) then
  (some ((0 : Int32), M12))
  else
  (some ((1 : Int32), M12))
set_option maxHeartbeats 4000000 in
set_option maxRecDepth 100000 in
theorem ok_X0_clash (N : Nat) {a0 : Nat} {a1 : Int32} {a2 : Int32} {M : A_M} {r : Int32} {M' : A_M} (h : f_X0_clash N a0 a1 a2 M = some (r, M')) : Runs yX0_clash cX0_clash 3 (some .boolean) 3 66 0 0 [.ref a0, .int a1, .int a2] M (some (.int r)) M' := by
  refine Runs.intro (by decide) (Nat.le_of_ble_eq_true rfl) (fun X C hnm hMC hMS => ?_)
  have C : Cx X cX0_clash RX0 3 (some .boolean) 3 66 := C
  show J X 3 0 [(0, .ref a0), (1, .int a1), (2, .int a2)] [] M 0 0 (some (.int r)) M'
  unfold f_X0_clash at h
  refine J_aload_n (pc' := 1) C 0 dX0_clash_0 rfl rfl rfl ?_
  obtain ⟨v1, e1, h⟩ := bd h
  refine jg_170 (pc' := 4) C dX0_clash_1 rfl (gR_some e1) ?_
  refine J_iload_n (pc' := 5) C 1 dX0_clash_4 rfl rfl rfl ?_
  obtain ⟨v5, e5, h⟩ := bd h
  refine J_lald (pc' := 6) C dX0_clash_5 rfl e5 ?_
  refine J_aload_n (pc' := 7) C 0 dX0_clash_6 rfl rfl rfl ?_
  obtain ⟨v7, e7, h⟩ := bd h
  refine jg_170 (pc' := 10) C dX0_clash_7 rfl (gR_some e7) ?_
  refine J_iload_n (pc' := 11) C 2 dX0_clash_10 rfl rfl rfl ?_
  obtain ⟨v11, e11, h⟩ := bd h
  refine J_lald (pc' := 12) C dX0_clash_11 rfl e11 ?_
  obtain ⟨v12, M12, e12, h⟩ := bd2 h
  refine J_cSN (pc' := 15) (st := []) (st2 := [.int v12]) (cs2 := 0) (sl2 := 0) C (ok_X6_alikeSigns N e12) mw_X6_alikeSigns wn_582 rfl dX0_clash_12 rfl rfl (Nat.le_of_ble_eq_true rfl) (by decide) (by decide) rfl rfl rfl (Nat.zero_le _) (Nat.zero_le _) ?_
  refine J_aload_n (pc' := 16) C 0 dX0_clash_15 rfl rfl rfl ?_
  obtain ⟨v16, e16, h⟩ := bd h
  refine jg_174 (pc' := 19) C dX0_clash_16 rfl (gR_some e16) ?_
  refine J_iload_n (pc' := 20) C 1 dX0_clash_19 rfl rfl rfl ?_
  obtain ⟨v20, e20, h⟩ := bd h
  refine J_iald (pc' := 21) C dX0_clash_20 rfl e20 ?_
  refine J_aload_n (pc' := 22) C 0 dX0_clash_21 rfl rfl rfl ?_
  obtain ⟨v22, e22, h⟩ := bd h
  refine jg_174 (pc' := 25) C dX0_clash_22 rfl (gR_some e22) ?_
  refine J_iload_n (pc' := 26) C 2 dX0_clash_25 rfl rfl rfl ?_
  obtain ⟨v26, e26, h⟩ := bd h
  refine J_iald (pc' := 27) C dX0_clash_26 rfl e26 ?_
  refine J_mmin (pc' := 30) C wq_592 dX0_clash_27 rfl (Nat.le_of_ble_eq_true rfl) (by decide) (by decide) (Nat.zero_le _) (Nat.zero_le _) ?_
  refine J_icmp_lt (tgt := 37) (pc' := 33) C dX0_clash_30 (by decide) rfl (fun c30 => ?_) (fun c30 => ?_)
  · rw [if_pos c30] at h
    refine J_iconst (pc' := 38) (v := (0 : Int32)) C dX0_clash_37 rfl (by decide) ?_
    obtain ⟨rfl, rfl⟩ := rt2 h
    exact J_zret C rfl dX0_clash_38 (Nat.zero_le _) (Nat.zero_le _)
  · rw [if_neg c30] at h
    refine J_iconst (pc' := 34) (v := (1 : Int32)) C dX0_clash_33 rfl (by decide) ?_
    refine J_goto (tgt := 38) C dX0_clash_34 (by decide) ?_
    obtain ⟨rfl, rfl⟩ := rt2 h
    exact J_zret C rfl dX0_clash_38 (Nat.zero_le _) (Nat.zero_le _)
def f_X0_isFree_K50 (N : Nat) (k2 : Nat → Int32 → A_M → Option (Int32 × A_M)) (x0 : Nat) (x1 : Int32) (M : A_M) : Option (Int32 × A_M) :=
  k2 x0 (x1 + 1) M
set_option maxHeartbeats 4000000 in
set_option maxRecDepth 100000 in
theorem ok_X0_isFree_K50 {X : JX} (C : Cx X cX0_isFree RX0 3 (some .boolean) 4 88) (N : Nat) {k2 : Nat → Int32 → A_M → Option (Int32 × A_M)} (hk2 : ∀ (x0 : Nat) (x1 : Int32) (M : A_M) (r : Int32) (M' : A_M), k2 x0 x1 M = some (r, M') → J X 3 2 [(0, .ref x0), (1, .int x1)] [] M 0 0 (some (.int r)) M') : ∀ (x0 : Nat) (x1 : Int32) (M : A_M) (r : Int32) (M' : A_M), f_X0_isFree_K50 N k2 x0 x1 M = some (r, M') → J X 3 50 [(0, .ref x0), (1, .int x1)] [] M 0 0 (some (.int r)) M' := by
  intro x0 x1 M r M' h
  unfold f_X0_isFree_K50 at h
  refine J_iinc (pc' := 53) (lv' := [(1, .int (x1 + 1)), (0, .ref x0)]) C 1 dX0_isFree_50 rfl rfl rfl (by decide) rfl ?_
  refine J_goto (tgt := 2) C dX0_isFree_53 (by decide) ?_
  refine J_sub (lv' := [(0, .ref x0), (1, .int (x1 + 1))]) [1, 0] rfl ?_
  exact hk2 _ _ _ _ _ h
def f_X0_isFree_L25 (N : Nat) (k2 : Nat → Int32 → A_M → Option (Int32 × A_M)) : Nat → Nat → Int32 → Int32 → A_M → Option (Int32 × A_M)
  | 0, _, _, _, _ => none
  | n + 1, x0, x1, x2, M =>
    (gI M x0 0 2).bind fun v27 =>
    if v27 ≤ x2 then
    (f_X0_isFree_K50 N k2 x0 x1 M)
    else
    ((chk M x0 0).bind fun _ =>
    bnd2 (f_X0_clash N x0 x1 x2 M) fun v36 M36 =>
    if v36 = 0 then
    (f_X0_isFree_L25 N k2 n x0 x1 (x2 + 1) M36)
    else
    (some ((0 : Int32), M36)))
set_option maxHeartbeats 4000000 in
set_option maxRecDepth 100000 in
theorem ok_X0_isFree_L25 {X : JX} (C : Cx X cX0_isFree RX0 3 (some .boolean) 4 88) (N : Nat) {k2 : Nat → Int32 → A_M → Option (Int32 × A_M)} (hk2 : ∀ (x0 : Nat) (x1 : Int32) (M : A_M) (r : Int32) (M' : A_M), k2 x0 x1 M = some (r, M') → J X 3 2 [(0, .ref x0), (1, .int x1)] [] M 0 0 (some (.int r)) M') : ∀ (n : Nat) (x0 : Nat) (x1 : Int32) (x2 : Int32) (M : A_M) (r : Int32) (M' : A_M), f_X0_isFree_L25 N k2 n x0 x1 x2 M = some (r, M') → J X 3 25 [(0, .ref x0), (1, .int x1), (2, .int x2)] [] M 0 0 (some (.int r)) M' := by
  intro n
  induction n with
  | zero =>
    intro x0 x1 x2 M r M' h
    cases h
  | succ n ih =>
    intro x0 x1 x2 M r M' h
    rw [f_X0_isFree_L25] at h
    refine J_iload_n (pc' := 26) C 2 dX0_isFree_25 rfl rfl rfl ?_
    refine J_aload_n (pc' := 27) C 0 dX0_isFree_26 rfl rfl rfl ?_
    obtain ⟨v27, e27, h⟩ := bd h
    refine jg_178 (pc' := 30) C dX0_isFree_27 rfl (gI_some e27) ?_
    refine J_icmp_ge (tgt := 50) (pc' := 33) C dX0_isFree_30 (by decide) rfl (fun c30 => ?_) (fun c30 => ?_)
    · rw [if_pos c30] at h
      refine J_sub (lv' := [(0, .ref x0), (1, .int x1)]) [0, 1] rfl ?_
      exact ok_X0_isFree_K50 C N hk2 _ _ _ _ _ h
    · rw [if_neg c30] at h
      refine J_aload_n (pc' := 34) C 0 dX0_isFree_33 rfl rfl rfl ?_
      refine J_iload_n (pc' := 35) C 1 dX0_isFree_34 rfl rfl rfl ?_
      refine J_iload_n (pc' := 36) C 2 dX0_isFree_35 rfl rfl rfl ?_
      obtain ⟨_, q36, h⟩ := bd h
      obtain ⟨v36, M36, e36, h⟩ := bd2 h
      refine J_cV (pc' := 39) (st := []) (st2 := [.int v36]) (cs2 := 0) (sl2 := 0) C 0 rfl rfl q36 (ok_X0_clash N e36) mw_X0_clash wq_631 rfl dX0_isFree_36 rfl rfl (Nat.le_of_ble_eq_true rfl) (by decide) (by decide) rfl rfl rfl (Nat.zero_le _) (Nat.zero_le _) ?_
      refine J_if_eq (tgt := 44) (pc' := 42) C dX0_isFree_39 (by decide) rfl (fun c39 => ?_) (fun c39 => ?_)
      · rw [if_pos c39] at h
        refine J_iinc (pc' := 47) (lv' := [(2, .int (x2 + 1)), (0, .ref x0), (1, .int x1)]) C 2 dX0_isFree_44 rfl rfl rfl (by decide) rfl ?_
        refine J_goto (tgt := 25) C dX0_isFree_47 (by decide) ?_
        refine J_sub (lv' := [(0, .ref x0), (1, .int x1), (2, .int (x2 + 1))]) [1, 2, 0] rfl ?_
        exact ih _ _ _ _ _ _ h
      · rw [if_neg c39] at h
        refine J_iconst (pc' := 43) (v := (0 : Int32)) C dX0_isFree_42 rfl (by decide) ?_
        obtain ⟨rfl, rfl⟩ := rt2 h
        exact J_zret C rfl dX0_isFree_43 (Nat.zero_le _) (Nat.zero_le _)
def f_X0_isFree_L2 (N : Nat) : Nat → Nat → Int32 → A_M → Option (Int32 × A_M)
  | 0, _, _, _ => none
  | n + 1, x0, x1, M =>
    (gI M x0 0 2).bind fun v4 =>
    if v4 ≤ x1 then
    (some ((1 : Int32), M))
    else
    ((gR M x0 0 1).bind fun v11 =>
    (ldI M v11 x1).bind fun v15 =>
    if v15 = 0 then
    (some ((0 : Int32), M))
    else
    (f_X0_isFree_L25 N (f_X0_isFree_L2 N n) N x0 x1 (x1 + (1 : Int32)) M))
set_option maxHeartbeats 4000000 in
set_option maxRecDepth 100000 in
theorem ok_X0_isFree_L2 {X : JX} (C : Cx X cX0_isFree RX0 3 (some .boolean) 4 88) (N : Nat) : ∀ (n : Nat) (x0 : Nat) (x1 : Int32) (M : A_M) (r : Int32) (M' : A_M), f_X0_isFree_L2 N n x0 x1 M = some (r, M') → J X 3 2 [(0, .ref x0), (1, .int x1)] [] M 0 0 (some (.int r)) M' := by
  intro n
  induction n with
  | zero =>
    intro x0 x1 M r M' h
    cases h
  | succ n ih =>
    intro x0 x1 M r M' h
    rw [f_X0_isFree_L2] at h
    refine J_iload_n (pc' := 3) C 1 dX0_isFree_2 rfl rfl rfl ?_
    refine J_aload_n (pc' := 4) C 0 dX0_isFree_3 rfl rfl rfl ?_
    obtain ⟨v4, e4, h⟩ := bd h
    refine jg_178 (pc' := 7) C dX0_isFree_4 rfl (gI_some e4) ?_
    refine J_icmp_ge (tgt := 56) (pc' := 10) C dX0_isFree_7 (by decide) rfl (fun c7 => ?_) (fun c7 => ?_)
    · rw [if_pos c7] at h
      refine J_iconst (pc' := 57) (v := (1 : Int32)) C dX0_isFree_56 rfl (by decide) ?_
      obtain ⟨rfl, rfl⟩ := rt2 h
      exact J_zret C rfl dX0_isFree_57 (Nat.zero_le _) (Nat.zero_le _)
    · rw [if_neg c7] at h
      refine J_aload_n (pc' := 11) C 0 dX0_isFree_10 rfl rfl rfl ?_
      obtain ⟨v11, e11, h⟩ := bd h
      refine jg_174 (pc' := 14) C dX0_isFree_11 rfl (gR_some e11) ?_
      refine J_iload_n (pc' := 15) C 1 dX0_isFree_14 rfl rfl rfl ?_
      obtain ⟨v15, e15, h⟩ := bd h
      refine J_iald (pc' := 16) C dX0_isFree_15 rfl e15 ?_
      refine J_if_ne (tgt := 21) (pc' := 19) C dX0_isFree_16 (by decide) rfl (fun c16 => ?_) (fun c16 => ?_)
      · rw [if_neg c16] at h
        refine J_iload_n (pc' := 22) C 1 dX0_isFree_21 rfl rfl rfl ?_
        refine J_iconst (pc' := 23) (v := (1 : Int32)) C dX0_isFree_22 rfl (by decide) ?_
        refine J_iadd (pc' := 24) C dX0_isFree_23 rfl ?_
        refine J_istore_n (pc' := 25) (lv' := [(2, .int (x1 + (1 : Int32))), (0, .ref x0), (1, .int x1)]) C dX0_isFree_24 rfl rfl (by decide) rfl ?_
        refine J_sub (lv' := [(0, .ref x0), (1, .int x1), (2, .int (x1 + (1 : Int32)))]) [1, 2, 0] rfl ?_
        exact ok_X0_isFree_L25 C N ih N _ _ _ _ _ _ h
      · rw [if_pos c16] at h
        refine J_iconst (pc' := 20) (v := (0 : Int32)) C dX0_isFree_19 rfl (by decide) ?_
        obtain ⟨rfl, rfl⟩ := rt2 h
        exact J_zret C rfl dX0_isFree_20 (Nat.zero_le _) (Nat.zero_le _)
def f_X0_isFree (N : Nat) (a0 : Nat) (M : A_M) : Option (Int32 × A_M) :=
  f_X0_isFree_L2 N N a0 (0 : Int32) M
set_option maxHeartbeats 4000000 in
set_option maxRecDepth 100000 in
theorem ok_X0_isFree (N : Nat) {a0 : Nat} {M : A_M} {r : Int32} {M' : A_M} (h : f_X0_isFree N a0 M = some (r, M')) : Runs yX0_isFree cX0_isFree 3 (some .boolean) 4 88 0 0 [.ref a0] M (some (.int r)) M' := by
  refine Runs.intro (by decide) (Nat.le_of_ble_eq_true rfl) (fun X C hnm hMC hMS => ?_)
  have C : Cx X cX0_isFree RX0 3 (some .boolean) 4 88 := C
  show J X 3 0 [(0, .ref a0)] [] M 0 0 (some (.int r)) M'
  unfold f_X0_isFree at h
  refine J_iconst (pc' := 1) (v := (0 : Int32)) C dX0_isFree_0 rfl (by decide) ?_
  refine J_istore_n (pc' := 2) (lv' := [(1, .int (0 : Int32)), (0, .ref a0)]) C dX0_isFree_1 rfl rfl (by decide) rfl ?_
  refine J_sub (lv' := [(0, .ref a0), (1, .int (0 : Int32))]) [1, 0] rfl ?_
  exact ok_X0_isFree_L2 C N N _ _ _ _ _ h
