def f_X7_isHome_K53 (N : Nat) (k22 : Nat → Int32 → Int32 → Int32 → A_M → Option (Int32 × A_M)) (x0 : Nat) (x1 : Int32) (x3 : Int32) (s0 : Int32) (M : A_M) : Option (Int32 × A_M) :=
  k22 x0 x1 s0 (x3 + 1) M
set_option maxHeartbeats 4000000 in
set_option maxRecDepth 100000 in
theorem ok_X7_isHome_K53 {X : JX} (C : Cx X cX7_isHome RX7 4 (some .boolean) 0 0) (N : Nat) {k22 : Nat → Int32 → Int32 → Int32 → A_M → Option (Int32 × A_M)} (hk22 : ∀ (x0 : Nat) (x1 : Int32) (x2 : Int32) (x3 : Int32) (M : A_M) (r : Int32) (M' : A_M), k22 x0 x1 x2 x3 M = some (r, M') → J X 4 22 [(0, .ref x0), (1, .int x1), (2, .int x2), (3, .int x3)] [] M 0 0 (some (.int r)) M') : ∀ (x0 : Nat) (x1 : Int32) (x3 : Int32) (s0 : Int32) (M : A_M) (r : Int32) (M' : A_M), f_X7_isHome_K53 N k22 x0 x1 x3 s0 M = some (r, M') → J X 4 53 [(0, .ref x0), (1, .int x1), (3, .int x3)] [.int s0] M 0 0 (some (.int r)) M' := by
  intro x0 x1 x3 s0 M r M' h
  unfold f_X7_isHome_K53 at h
  refine J_istore_n (pc' := 54) (lv' := [(2, .int s0), (0, .ref x0), (1, .int x1), (3, .int x3)]) C dX7_isHome_53 rfl rfl (by decide) rfl ?_
  refine J_iinc (pc' := 57) (lv' := [(3, .int (x3 + 1)), (2, .int s0), (0, .ref x0), (1, .int x1)]) C 3 dX7_isHome_54 rfl rfl rfl (by decide) rfl ?_
  refine J_goto (tgt := 22) C dX7_isHome_57 (by decide) ?_
  refine J_sub (lv' := [(0, .ref x0), (1, .int x1), (2, .int s0), (3, .int (x3 + 1))]) [2, 3, 1, 0] rfl ?_
  exact hk22 _ _ _ _ _ _ _ h
def f_X7_isHome_K52 (N : Nat) (k22 : Nat → Int32 → Int32 → Int32 → A_M → Option (Int32 × A_M)) (x0 : Nat) (x1 : Int32) (x3 : Int32) (M : A_M) : Option (Int32 × A_M) :=
  f_X7_isHome_K53 N k22 x0 x1 x3 (0 : Int32) M
set_option maxHeartbeats 4000000 in
set_option maxRecDepth 100000 in
theorem ok_X7_isHome_K52 {X : JX} (C : Cx X cX7_isHome RX7 4 (some .boolean) 0 0) (N : Nat) {k22 : Nat → Int32 → Int32 → Int32 → A_M → Option (Int32 × A_M)} (hk22 : ∀ (x0 : Nat) (x1 : Int32) (x2 : Int32) (x3 : Int32) (M : A_M) (r : Int32) (M' : A_M), k22 x0 x1 x2 x3 M = some (r, M') → J X 4 22 [(0, .ref x0), (1, .int x1), (2, .int x2), (3, .int x3)] [] M 0 0 (some (.int r)) M') : ∀ (x0 : Nat) (x1 : Int32) (x3 : Int32) (M : A_M) (r : Int32) (M' : A_M), f_X7_isHome_K52 N k22 x0 x1 x3 M = some (r, M') → J X 4 52 [(0, .ref x0), (1, .int x1), (3, .int x3)] [] M 0 0 (some (.int r)) M' := by
  intro x0 x1 x3 M r M' h
  unfold f_X7_isHome_K52 at h
  refine J_iconst (pc' := 53) (v := (0 : Int32)) C dX7_isHome_52 rfl (by decide) ?_
  refine J_sub (lv' := [(0, .ref x0), (1, .int x1), (3, .int x3)]) [0, 1, 2] rfl ?_
  exact ok_X7_isHome_K53 C N hk22 _ _ _ _ _ _ _ h
def f_X7_isHome_L22 (N : Nat) : Nat → Nat → Int32 → Int32 → Int32 → A_M → Option (Int32 × A_M)
  | 0, _, _, _, _, _ => none
  | n + 1, x0, x1, x2, x3, M =>
    if (9 : Int32) ≤ x3 then
    ((zb x2).bind fun _ =>
    some (x2, M))
    else
    (if x2 = 0 then
    (f_X7_isHome_K52 N (f_X7_isHome_L22 N n) x0 x1 x3 M)
    else
    ((gR M x0 7 47).bind fun v33 =>
    (ldJ M v33 (((9 : Int32) * x1) + x3)).bind fun v42 =>
    if (lg_cmp v42 (0 : Int64)) = 0 then
    (f_X7_isHome_K53 N (f_X7_isHome_L22 N n) x0 x1 x3 (1 : Int32) M)
    else
    (f_X7_isHome_K52 N (f_X7_isHome_L22 N n) x0 x1 x3 M)))
set_option maxHeartbeats 4000000 in
set_option maxRecDepth 100000 in
theorem ok_X7_isHome_L22 {X : JX} (C : Cx X cX7_isHome RX7 4 (some .boolean) 0 0) (N : Nat) : ∀ (n : Nat) (x0 : Nat) (x1 : Int32) (x2 : Int32) (x3 : Int32) (M : A_M) (r : Int32) (M' : A_M), f_X7_isHome_L22 N n x0 x1 x2 x3 M = some (r, M') → J X 4 22 [(0, .ref x0), (1, .int x1), (2, .int x2), (3, .int x3)] [] M 0 0 (some (.int r)) M' := by
  intro n
  induction n with
  | zero =>
    intro x0 x1 x2 x3 M r M' h
    cases h
  | succ n ih =>
    intro x0 x1 x2 x3 M r M' h
    rw [f_X7_isHome_L22] at h
    refine J_iload_n (pc' := 23) C 3 dX7_isHome_22 rfl rfl rfl ?_
    refine J_bipush (pc' := 25) (v := (9 : Int32)) C dX7_isHome_23 rfl (by decide) ?_
    refine J_icmp_ge (tgt := 60) (pc' := 28) C dX7_isHome_25 (by decide) rfl (fun c25 => ?_) (fun c25 => ?_)
    · rw [if_pos c25] at h
      refine J_iload_n (pc' := 61) C 2 dX7_isHome_60 rfl rfl rfl ?_
      obtain ⟨_, z61, h⟩ := bd h
      obtain ⟨rfl, rfl⟩ := rt2 h
      exact J_zret C (zb_n (zb_some z61)) dX7_isHome_61 (Nat.zero_le _) (Nat.zero_le _)
    · rw [if_neg c25] at h
      refine J_iload_n (pc' := 29) C 2 dX7_isHome_28 rfl rfl rfl ?_
      refine J_if_eq (tgt := 52) (pc' := 32) C dX7_isHome_29 (by decide) rfl (fun c29 => ?_) (fun c29 => ?_)
      · rw [if_pos c29] at h
        refine J_sub (lv' := [(0, .ref x0), (1, .int x1), (3, .int x3)]) [0, 1, 3] rfl ?_
        exact ok_X7_isHome_K52 C N ih _ _ _ _ _ _ h
      · rw [if_neg c29] at h
        refine J_aload_n (pc' := 33) C 0 dX7_isHome_32 rfl rfl rfl ?_
        obtain ⟨v33, e33, h⟩ := bd h
        refine jg_926 (pc' := 36) C dX7_isHome_33 rfl (gR_some e33) ?_
        refine J_bipush (pc' := 38) (v := (9 : Int32)) C dX7_isHome_36 rfl (by decide) ?_
        refine J_iload_n (pc' := 39) C 1 dX7_isHome_38 rfl rfl rfl ?_
        refine J_imul (pc' := 40) C dX7_isHome_39 rfl ?_
        refine J_iload_n (pc' := 41) C 3 dX7_isHome_40 rfl rfl rfl ?_
        refine J_iadd (pc' := 42) C dX7_isHome_41 rfl ?_
        obtain ⟨v42, e42, h⟩ := bd h
        refine J_lald (pc' := 43) C dX7_isHome_42 rfl e42 ?_
        refine J_lconst (pc' := 44) (v := (0 : Int64)) C dX7_isHome_43 rfl (by decide) ?_
        refine J_lcmp (pc' := 45) C dX7_isHome_44 rfl ?_
        refine J_if_ne (tgt := 52) (pc' := 48) C dX7_isHome_45 (by decide) rfl (fun c45 => ?_) (fun c45 => ?_)
        · rw [if_neg c45] at h
          refine J_sub (lv' := [(0, .ref x0), (1, .int x1), (3, .int x3)]) [0, 1, 3] rfl ?_
          exact ok_X7_isHome_K52 C N ih _ _ _ _ _ _ h
        · rw [if_pos c45] at h
          refine J_iconst (pc' := 49) (v := (1 : Int32)) C dX7_isHome_48 rfl (by decide) ?_
          refine J_goto (tgt := 53) C dX7_isHome_49 (by decide) ?_
          refine J_sub (lv' := [(0, .ref x0), (1, .int x1), (3, .int x3)]) [0, 1, 3] rfl ?_
          exact ok_X7_isHome_K53 C N ih _ _ _ _ _ _ _ h
def f_X7_isHome_K19 (N : Nat) (x0 : Nat) (x1 : Int32) (s0 : Int32) (M : A_M) : Option (Int32 × A_M) :=
  f_X7_isHome_L22 N N x0 x1 s0 (1 : Int32) M
set_option maxHeartbeats 4000000 in
set_option maxRecDepth 100000 in
theorem ok_X7_isHome_K19 {X : JX} (C : Cx X cX7_isHome RX7 4 (some .boolean) 0 0) (N : Nat) : ∀ (x0 : Nat) (x1 : Int32) (s0 : Int32) (M : A_M) (r : Int32) (M' : A_M), f_X7_isHome_K19 N x0 x1 s0 M = some (r, M') → J X 4 19 [(0, .ref x0), (1, .int x1)] [.int s0] M 0 0 (some (.int r)) M' := by
  intro x0 x1 s0 M r M' h
  unfold f_X7_isHome_K19 at h
  refine J_istore_n (pc' := 20) (lv' := [(2, .int s0), (0, .ref x0), (1, .int x1)]) C dX7_isHome_19 rfl rfl (by decide) rfl ?_
  refine J_iconst (pc' := 21) (v := (1 : Int32)) C dX7_isHome_20 rfl (by decide) ?_
  refine J_istore_n (pc' := 22) (lv' := [(3, .int (1 : Int32)), (2, .int s0), (0, .ref x0), (1, .int x1)]) C dX7_isHome_21 rfl rfl (by decide) rfl ?_
  refine J_sub (lv' := [(0, .ref x0), (1, .int x1), (2, .int s0), (3, .int (1 : Int32))]) [2, 3, 1, 0] rfl ?_
  exact ok_X7_isHome_L22 C N N _ _ _ _ _ _ _ h
def f_X7_isHome (N : Nat) (a0 : Nat) (a1 : Int32) (M : A_M) : Option (Int32 × A_M) :=
  (gR M a0 7 47).bind fun v1 =>
  (ldJ M v1 ((9 : Int32) * a1)).bind fun v8 =>
  if (lg_cmp v8 (1 : Int64)) = 0 then
  (f_X7_isHome_K19 N a0 a1 (1 : Int32) M)
  else
  (f_X7_isHome_K19 N a0 a1 (0 : Int32) M)
set_option maxHeartbeats 4000000 in
set_option maxRecDepth 100000 in
theorem ok_X7_isHome (N : Nat) {a0 : Nat} {a1 : Int32} {M : A_M} {r : Int32} {M' : A_M} (h : f_X7_isHome N a0 a1 M = some (r, M')) : Runs yX7_isHome cX7_isHome 4 (some .boolean) 0 0 0 0 [.ref a0, .int a1] M (some (.int r)) M' := by
  refine Runs.intro (by decide) (Nat.le_of_ble_eq_true rfl) (fun X C hnm hMC hMS => ?_)
  have C : Cx X cX7_isHome RX7 4 (some .boolean) 0 0 := C
  show J X 4 0 [(0, .ref a0), (1, .int a1)] [] M 0 0 (some (.int r)) M'
  unfold f_X7_isHome at h
  refine J_aload_n (pc' := 1) C 0 dX7_isHome_0 rfl rfl rfl ?_
  obtain ⟨v1, e1, h⟩ := bd h
  refine jg_926 (pc' := 4) C dX7_isHome_1 rfl (gR_some e1) ?_
  refine J_bipush (pc' := 6) (v := (9 : Int32)) C dX7_isHome_4 rfl (by decide) ?_
  refine J_iload_n (pc' := 7) C 1 dX7_isHome_6 rfl rfl rfl ?_
  refine J_imul (pc' := 8) C dX7_isHome_7 rfl ?_
  obtain ⟨v8, e8, h⟩ := bd h
  refine J_lald (pc' := 9) C dX7_isHome_8 rfl e8 ?_
  refine J_lconst (pc' := 10) (v := (1 : Int64)) C dX7_isHome_9 rfl (by decide) ?_
  refine J_lcmp (pc' := 11) C dX7_isHome_10 rfl ?_
  refine J_if_ne (tgt := 18) (pc' := 14) C dX7_isHome_11 (by decide) rfl (fun c11 => ?_) (fun c11 => ?_)
  · rw [if_neg c11] at h
    refine J_iconst (pc' := 19) (v := (0 : Int32)) C dX7_isHome_18 rfl (by decide) ?_
    refine J_sub (lv' := [(0, .ref a0), (1, .int a1)]) [0, 1] rfl ?_
    exact ok_X7_isHome_K19 C N _ _ _ _ _ _ h
  · rw [if_pos c11] at h
    refine J_iconst (pc' := 15) (v := (1 : Int32)) C dX7_isHome_14 rfl (by decide) ?_
    refine J_goto (tgt := 19) C dX7_isHome_15 (by decide) ?_
    refine J_sub (lv' := [(0, .ref a0), (1, .int a1)]) [0, 1] rfl ?_
    exact ok_X7_isHome_K19 C N _ _ _ _ _ _ h
def f_X7_addSet_K34 (N : Nat) (x0 : Nat) (x1 : Int32) (x2 : Int32) (M : A_M) : Option A_M :=
  (gR M x0 7 48).bind fun v35 =>
  (gI M x0 7 50).bind fun v39 =>
  (stI M v35 v39 x1).bind fun M43 =>
  (gR M43 x0 7 49).bind fun v45 =>
  (gI M43 x0 7 50).bind fun v49 =>
  (stI M43 v45 v49 x2).bind fun M53 =>
  (gI M53 x0 7 50).bind fun v56 =>
  (pV M53 x0 7 50 (.int (v56 + (1 : Int32)))).bind fun M61 =>
  some M61
set_option maxHeartbeats 4000000 in
set_option maxRecDepth 100000 in
theorem ok_X7_addSet_K34 {X : JX} (C : Cx X cX7_addSet RX7 4 none 0 0) (N : Nat) : ∀ (x0 : Nat) (x1 : Int32) (x2 : Int32) (M : A_M) (M' : A_M), f_X7_addSet_K34 N x0 x1 x2 M = some M' → J X 4 34 [(0, .ref x0), (1, .int x1), (2, .int x2)] [] M 0 0 none M' := by
  intro x0 x1 x2 M M' h
  unfold f_X7_addSet_K34 at h
  refine J_aload_n (pc' := 35) C 0 dX7_addSet_34 rfl rfl rfl ?_
  obtain ⟨v35, e35, h⟩ := bd h
  refine jg_927 (pc' := 38) C dX7_addSet_35 rfl (gR_some e35) ?_
  refine J_aload_n (pc' := 39) C 0 dX7_addSet_38 rfl rfl rfl ?_
  obtain ⟨v39, e39, h⟩ := bd h
  refine jg_929 (pc' := 42) C dX7_addSet_39 rfl (gI_some e39) ?_
  refine J_iload_n (pc' := 43) C 1 dX7_addSet_42 rfl rfl rfl ?_
  obtain ⟨M43, e43, h⟩ := bd h
  refine J_iast (pc' := 44) C dX7_addSet_43 rfl e43 ?_
  refine J_aload_n (pc' := 45) C 0 dX7_addSet_44 rfl rfl rfl ?_
  obtain ⟨v45, e45, h⟩ := bd h
  refine jg_928 (pc' := 48) C dX7_addSet_45 rfl (gR_some e45) ?_
  refine J_aload_n (pc' := 49) C 0 dX7_addSet_48 rfl rfl rfl ?_
  obtain ⟨v49, e49, h⟩ := bd h
  refine jg_929 (pc' := 52) C dX7_addSet_49 rfl (gI_some e49) ?_
  refine J_iload_n (pc' := 53) C 2 dX7_addSet_52 rfl rfl rfl ?_
  obtain ⟨M53, e53, h⟩ := bd h
  refine J_iast (pc' := 54) C dX7_addSet_53 rfl e53 ?_
  refine J_aload_n (pc' := 55) C 0 dX7_addSet_54 rfl rfl rfl ?_
  refine J_dup (pc' := 56) C dX7_addSet_55 rfl rfl ?_
  obtain ⟨v56, e56, h⟩ := bd h
  refine jg_929 (pc' := 59) C dX7_addSet_56 rfl (gI_some e56) ?_
  refine J_iconst (pc' := 60) (v := (1 : Int32)) C dX7_addSet_59 rfl (by decide) ?_
  refine J_iadd (pc' := 61) C dX7_addSet_60 rfl ?_
  obtain ⟨M61, e61, h⟩ := bd h
  refine jp_929 (pc' := 64) C (fun _ => ⟨rfl, rfl⟩) dX7_addSet_61 rfl e61 ?_
  obtain rfl := rt1 h
  exact J_vret C dX7_addSet_64 (Nat.zero_le _) (Nat.zero_le _)
def f_X7_addSet_L2 (N : Nat) : Nat → Nat → Int32 → Int32 → Int32 → A_M → Option A_M
  | 0, _, _, _, _, _ => none
  | n + 1, x0, x1, x2, x3, M =>
    if (9 : Int32) ≤ x3 then
    (f_X7_addSet_K34 N x0 x1 x2 M)
    else
    ((gR M x0 7 47).bind fun v9 =>
    (gI M x0 7 50).bind fun v15 =>
    (gR M x0 7 51).bind fun v22 =>
    (ldJ M v22 x3).bind fun v26 =>
    (stJ M v9 (((9 : Int32) * v15) + x3) v26).bind fun M27 =>
    f_X7_addSet_L2 N n x0 x1 x2 (x3 + 1) M27)
set_option maxHeartbeats 4000000 in
set_option maxRecDepth 100000 in
theorem ok_X7_addSet_L2 {X : JX} (C : Cx X cX7_addSet RX7 4 none 0 0) (N : Nat) : ∀ (n : Nat) (x0 : Nat) (x1 : Int32) (x2 : Int32) (x3 : Int32) (M : A_M) (M' : A_M), f_X7_addSet_L2 N n x0 x1 x2 x3 M = some M' → J X 4 2 [(0, .ref x0), (1, .int x1), (2, .int x2), (3, .int x3)] [] M 0 0 none M' := by
  intro n
  induction n with
  | zero =>
    intro x0 x1 x2 x3 M M' h
    cases h
  | succ n ih =>
    intro x0 x1 x2 x3 M M' h
    rw [f_X7_addSet_L2] at h
    refine J_iload_n (pc' := 3) C 3 dX7_addSet_2 rfl rfl rfl ?_
    refine J_bipush (pc' := 5) (v := (9 : Int32)) C dX7_addSet_3 rfl (by decide) ?_
    refine J_icmp_ge (tgt := 34) (pc' := 8) C dX7_addSet_5 (by decide) rfl (fun c5 => ?_) (fun c5 => ?_)
    · rw [if_pos c5] at h
      refine J_sub (lv' := [(0, .ref x0), (1, .int x1), (2, .int x2)]) [0, 1, 2] rfl ?_
      exact ok_X7_addSet_K34 C N _ _ _ _ _ h
    · rw [if_neg c5] at h
      refine J_aload_n (pc' := 9) C 0 dX7_addSet_8 rfl rfl rfl ?_
      obtain ⟨v9, e9, h⟩ := bd h
      refine jg_926 (pc' := 12) C dX7_addSet_9 rfl (gR_some e9) ?_
      refine J_bipush (pc' := 14) (v := (9 : Int32)) C dX7_addSet_12 rfl (by decide) ?_
      refine J_aload_n (pc' := 15) C 0 dX7_addSet_14 rfl rfl rfl ?_
      obtain ⟨v15, e15, h⟩ := bd h
      refine jg_929 (pc' := 18) C dX7_addSet_15 rfl (gI_some e15) ?_
      refine J_imul (pc' := 19) C dX7_addSet_18 rfl ?_
      refine J_iload_n (pc' := 20) C 3 dX7_addSet_19 rfl rfl rfl ?_
      refine J_iadd (pc' := 21) C dX7_addSet_20 rfl ?_
      refine J_aload_n (pc' := 22) C 0 dX7_addSet_21 rfl rfl rfl ?_
      obtain ⟨v22, e22, h⟩ := bd h
      refine jg_930 (pc' := 25) C dX7_addSet_22 rfl (gR_some e22) ?_
      refine J_iload_n (pc' := 26) C 3 dX7_addSet_25 rfl rfl rfl ?_
      obtain ⟨v26, e26, h⟩ := bd h
      refine J_lald (pc' := 27) C dX7_addSet_26 rfl e26 ?_
      obtain ⟨M27, e27, h⟩ := bd h
      refine J_last (pc' := 28) C dX7_addSet_27 rfl e27 ?_
      refine J_iinc (pc' := 31) (lv' := [(3, .int (x3 + 1)), (0, .ref x0), (1, .int x1), (2, .int x2)]) C 3 dX7_addSet_28 rfl rfl rfl (by decide) rfl ?_
      refine J_goto (tgt := 2) C dX7_addSet_31 (by decide) ?_
      refine J_sub (lv' := [(0, .ref x0), (1, .int x1), (2, .int x2), (3, .int (x3 + 1))]) [1, 2, 3, 0] rfl ?_
      exact ih _ _ _ _ _ _ h
def f_X7_addSet (N : Nat) (a0 : Nat) (a1 : Int32) (a2 : Int32) (M : A_M) : Option A_M :=
  f_X7_addSet_L2 N N a0 a1 a2 (0 : Int32) M
set_option maxHeartbeats 4000000 in
set_option maxRecDepth 100000 in
theorem ok_X7_addSet (N : Nat) {a0 : Nat} {a1 : Int32} {a2 : Int32} {M : A_M} {M' : A_M} (h : f_X7_addSet N a0 a1 a2 M = some M') : Runs yX7_addSet cX7_addSet 4 none 0 0 0 0 [.ref a0, .int a1, .int a2] M none M' := by
  refine Runs.intro (by decide) (Nat.le_of_ble_eq_true rfl) (fun X C hnm hMC hMS => ?_)
  have C : Cx X cX7_addSet RX7 4 none 0 0 := C
  show J X 4 0 [(0, .ref a0), (1, .int a1), (2, .int a2)] [] M 0 0 none M'
  unfold f_X7_addSet at h
  refine J_iconst (pc' := 1) (v := (0 : Int32)) C dX7_addSet_0 rfl (by decide) ?_
  refine J_istore_n (pc' := 2) (lv' := [(3, .int (0 : Int32)), (0, .ref a0), (1, .int a1), (2, .int a2)]) C dX7_addSet_1 rfl rfl (by decide) rfl ?_
  refine J_sub (lv' := [(0, .ref a0), (1, .int a1), (2, .int a2), (3, .int (0 : Int32))]) [1, 2, 3, 0] rfl ?_
  exact ok_X7_addSet_L2 C N N _ _ _ _ _ _ h
def f_X7_stepTo_L28 (N : Nat) : Nat → Nat → Int32 → Int32 → A_M → Option (Int32 × A_M)
  | 0, _, _, _, _ => none
  | n + 1, x0, x2, x3, M =>
    if x3 ≤ 0 then
    ((gI M x0 7 53).bind fun v58 =>
    some (v58, M))
    else
    ((gR M x0 7 52).bind fun v36 =>
    (gR M x0 7 49).bind fun v41 =>
    (ldI M v41 x3).bind fun v45 =>
    (stI M v36 (x2 + (-1)) v45).bind fun M46 =>
    (gR M46 x0 7 48).bind fun v48 =>
    (ldI M46 v48 x3).bind fun v52 =>
    f_X7_stepTo_L28 N n x0 (x2 + (-1)) v52 M46)
set_option maxHeartbeats 4000000 in
set_option maxRecDepth 100000 in
theorem ok_X7_stepTo_L28 {X : JX} (C : Cx X cX7_stepTo RX7 4 (some .int) 0 0) (N : Nat) : ∀ (n : Nat) (x0 : Nat) (x2 : Int32) (x3 : Int32) (M : A_M) (r : Int32) (M' : A_M), f_X7_stepTo_L28 N n x0 x2 x3 M = some (r, M') → J X 4 28 [(0, .ref x0), (2, .int x2), (3, .int x3)] [] M 0 0 (some (.int r)) M' := by
  intro n
  induction n with
  | zero =>
    intro x0 x2 x3 M r M' h
    cases h
  | succ n ih =>
    intro x0 x2 x3 M r M' h
    rw [f_X7_stepTo_L28] at h
    refine J_iload_n (pc' := 29) C 2 dX7_stepTo_28 rfl rfl rfl ?_
    refine J_if_le (tgt := 57) (pc' := 32) C dX7_stepTo_29 (by decide) rfl (fun c29 => ?_) (fun c29 => ?_)
    · rw [if_pos c29] at h
      refine J_aload_n (pc' := 58) C 0 dX7_stepTo_57 rfl rfl rfl ?_
      obtain ⟨v58, e58, h⟩ := bd h
      refine jg_932 (pc' := 61) C dX7_stepTo_58 rfl (gI_some e58) ?_
      obtain ⟨rfl, rfl⟩ := rt2 h
      exact J_iret C dX7_stepTo_61 (Nat.zero_le _) (Nat.zero_le _)
    · rw [if_neg c29] at h
      refine J_iinc (pc' := 35) (lv' := [(2, .int (x2 + (-1))), (0, .ref x0), (3, .int x3)]) C 1 dX7_stepTo_32 rfl rfl rfl (by decide) rfl ?_
      refine J_aload_n (pc' := 36) C 1 dX7_stepTo_35 rfl rfl rfl ?_
      obtain ⟨v36, e36, h⟩ := bd h
      refine jg_931 (pc' := 39) C dX7_stepTo_36 rfl (gR_some e36) ?_
      refine J_iload_n (pc' := 40) C 0 dX7_stepTo_39 rfl rfl rfl ?_
      refine J_aload_n (pc' := 41) C 1 dX7_stepTo_40 rfl rfl rfl ?_
      obtain ⟨v41, e41, h⟩ := bd h
      refine jg_928 (pc' := 44) C dX7_stepTo_41 rfl (gR_some e41) ?_
      refine J_iload_n (pc' := 45) C 2 dX7_stepTo_44 rfl rfl rfl ?_
      obtain ⟨v45, e45, h⟩ := bd h
      refine J_iald (pc' := 46) C dX7_stepTo_45 rfl e45 ?_
      obtain ⟨M46, e46, h⟩ := bd h
      refine J_iast (pc' := 47) C dX7_stepTo_46 rfl e46 ?_
      refine J_aload_n (pc' := 48) C 1 dX7_stepTo_47 rfl rfl rfl ?_
      obtain ⟨v48, e48, h⟩ := bd h
      refine jg_927 (pc' := 51) C dX7_stepTo_48 rfl (gR_some e48) ?_
      refine J_iload_n (pc' := 52) C 2 dX7_stepTo_51 rfl rfl rfl ?_
      obtain ⟨v52, e52, h⟩ := bd h
      refine J_iald (pc' := 53) C dX7_stepTo_52 rfl e52 ?_
      refine J_istore_n (pc' := 54) (lv' := [(3, .int v52), (2, .int (x2 + (-1))), (0, .ref x0)]) C dX7_stepTo_53 rfl rfl (by decide) rfl ?_
      refine J_goto (tgt := 28) C dX7_stepTo_54 (by decide) ?_
      refine J_sub (lv' := [(0, .ref x0), (2, .int (x2 + (-1))), (3, .int v52)]) [2, 1, 0] rfl ?_
      exact ih _ _ _ _ _ _ h
def f_X7_stepTo_K21 (N : Nat) (x0 : Nat) (x1 : Int32) (x2 : Int32) (M : A_M) : Option (Int32 × A_M) :=
  (pV M x0 7 53 (.int x2)).bind fun M23 =>
  f_X7_stepTo_L28 N N x0 x2 x1 M23
set_option maxHeartbeats 4000000 in
set_option maxRecDepth 100000 in
theorem ok_X7_stepTo_K21 {X : JX} (C : Cx X cX7_stepTo RX7 4 (some .int) 0 0) (N : Nat) : ∀ (x0 : Nat) (x1 : Int32) (x2 : Int32) (M : A_M) (r : Int32) (M' : A_M), f_X7_stepTo_K21 N x0 x1 x2 M = some (r, M') → J X 4 21 [(0, .ref x0), (1, .int x1), (2, .int x2)] [] M 0 0 (some (.int r)) M' := by
  intro x0 x1 x2 M r M' h
  unfold f_X7_stepTo_K21 at h
  refine J_aload_n (pc' := 22) C 0 dX7_stepTo_21 rfl rfl rfl ?_
  refine J_iload_n (pc' := 23) C 2 dX7_stepTo_22 rfl rfl rfl ?_
  obtain ⟨M23, e23, h⟩ := bd h
  refine jp_932 (pc' := 26) C (fun _ => ⟨rfl, rfl⟩) dX7_stepTo_23 rfl e23 ?_
  refine J_iload_n (pc' := 27) C 1 dX7_stepTo_26 rfl rfl rfl ?_
  refine J_istore_n (pc' := 28) (lv' := [(3, .int x1), (0, .ref x0), (1, .int x1), (2, .int x2)]) C dX7_stepTo_27 rfl rfl (by decide) rfl ?_
  refine J_sub (lv' := [(0, .ref x0), (2, .int x2), (3, .int x1)]) [1, 3, 0] rfl ?_
  exact ok_X7_stepTo_L28 C N N _ _ _ _ _ _ h
def f_X7_stepTo_L4 (N : Nat) : Nat → Nat → Int32 → Int32 → Int32 → A_M → Option (Int32 × A_M)
  | 0, _, _, _, _, _ => none
  | n + 1, x0, x1, x2, x3, M =>
    if x3 ≤ 0 then
    (f_X7_stepTo_K21 N x0 x1 x2 M)
    else
    ((gR M x0 7 48).bind fun v12 =>
    (ldI M v12 x3).bind fun v16 =>
    f_X7_stepTo_L4 N n x0 x1 (x2 + 1) v16 M)
set_option maxHeartbeats 4000000 in
set_option maxRecDepth 100000 in
theorem ok_X7_stepTo_L4 {X : JX} (C : Cx X cX7_stepTo RX7 4 (some .int) 0 0) (N : Nat) : ∀ (n : Nat) (x0 : Nat) (x1 : Int32) (x2 : Int32) (x3 : Int32) (M : A_M) (r : Int32) (M' : A_M), f_X7_stepTo_L4 N n x0 x1 x2 x3 M = some (r, M') → J X 4 4 [(0, .ref x0), (1, .int x1), (2, .int x2), (3, .int x3)] [] M 0 0 (some (.int r)) M' := by
  intro n
  induction n with
  | zero =>
    intro x0 x1 x2 x3 M r M' h
    cases h
  | succ n ih =>
    intro x0 x1 x2 x3 M r M' h
    rw [f_X7_stepTo_L4] at h
    refine J_iload_n (pc' := 5) C 3 dX7_stepTo_4 rfl rfl rfl ?_
    refine J_if_le (tgt := 21) (pc' := 8) C dX7_stepTo_5 (by decide) rfl (fun c5 => ?_) (fun c5 => ?_)
    · rw [if_pos c5] at h
      refine J_sub (lv' := [(0, .ref x0), (1, .int x1), (2, .int x2)]) [0, 1, 2] rfl ?_
      exact ok_X7_stepTo_K21 C N _ _ _ _ _ _ h
    · rw [if_neg c5] at h
      refine J_iinc (pc' := 11) (lv' := [(2, .int (x2 + 1)), (0, .ref x0), (1, .int x1), (3, .int x3)]) C 2 dX7_stepTo_8 rfl rfl rfl (by decide) rfl ?_
      refine J_aload_n (pc' := 12) C 1 dX7_stepTo_11 rfl rfl rfl ?_
      obtain ⟨v12, e12, h⟩ := bd h
      refine jg_927 (pc' := 15) C dX7_stepTo_12 rfl (gR_some e12) ?_
      refine J_iload_n (pc' := 16) C 3 dX7_stepTo_15 rfl rfl rfl ?_
      obtain ⟨v16, e16, h⟩ := bd h
      refine J_iald (pc' := 17) C dX7_stepTo_16 rfl e16 ?_
      refine J_istore_n (pc' := 18) (lv' := [(3, .int v16), (2, .int (x2 + 1)), (0, .ref x0), (1, .int x1)]) C dX7_stepTo_17 rfl rfl (by decide) rfl ?_
      refine J_goto (tgt := 4) C dX7_stepTo_18 (by decide) ?_
      refine J_sub (lv' := [(0, .ref x0), (1, .int x1), (2, .int (x2 + 1)), (3, .int v16)]) [2, 3, 1, 0] rfl ?_
      exact ih _ _ _ _ _ _ _ h
def f_X7_stepTo (N : Nat) (a0 : Nat) (a1 : Int32) (M : A_M) : Option (Int32 × A_M) :=
  f_X7_stepTo_L4 N N a0 a1 (0 : Int32) a1 M
set_option maxHeartbeats 4000000 in
set_option maxRecDepth 100000 in
theorem ok_X7_stepTo (N : Nat) {a0 : Nat} {a1 : Int32} {M : A_M} {r : Int32} {M' : A_M} (h : f_X7_stepTo N a0 a1 M = some (r, M')) : Runs yX7_stepTo cX7_stepTo 4 (some .int) 0 0 0 0 [.ref a0, .int a1] M (some (.int r)) M' := by
  refine Runs.intro (by decide) (Nat.le_of_ble_eq_true rfl) (fun X C hnm hMC hMS => ?_)
  have C : Cx X cX7_stepTo RX7 4 (some .int) 0 0 := C
  show J X 4 0 [(0, .ref a0), (1, .int a1)] [] M 0 0 (some (.int r)) M'
  unfold f_X7_stepTo at h
  refine J_iconst (pc' := 1) (v := (0 : Int32)) C dX7_stepTo_0 rfl (by decide) ?_
  refine J_istore_n (pc' := 2) (lv' := [(2, .int (0 : Int32)), (0, .ref a0), (1, .int a1)]) C dX7_stepTo_1 rfl rfl (by decide) rfl ?_
  refine J_iload_n (pc' := 3) C 2 dX7_stepTo_2 rfl rfl rfl ?_
  refine J_istore_n (pc' := 4) (lv' := [(3, .int a1), (2, .int (0 : Int32)), (0, .ref a0), (1, .int a1)]) C dX7_stepTo_3 rfl rfl (by decide) rfl ?_
  refine J_sub (lv' := [(0, .ref a0), (1, .int a1), (2, .int (0 : Int32)), (3, .int a1)]) [2, 3, 1, 0] rfl ?_
  exact ok_X7_stepTo_L4 C N N _ _ _ _ _ _ _ h
def f_X7_step_K191 (N : Nat) (k114 : Nat → Int32 → A_M → Option (Int32 × A_M)) (k124 : Nat → Int32 → Int32 → A_M → Option (Int32 × A_M)) (x0 : Nat) (x1 : Int32) (x2 : Int32) (M : A_M) : Option (Int32 × A_M) :=
  k124 x0 x1 (x2 + 1) M
set_option maxHeartbeats 4000000 in
set_option maxRecDepth 100000 in
theorem ok_X7_step_K191 {X : JX} (C : Cx X cX7_step RX7 3 (some .int) 4 96) (N : Nat) {k114 : Nat → Int32 → A_M → Option (Int32 × A_M)} (hk114 : ∀ (x0 : Nat) (x1 : Int32) (M : A_M) (r : Int32) (M' : A_M), k114 x0 x1 M = some (r, M') → J X 3 114 [(0, .ref x0), (1, .int x1)] [] M 0 0 (some (.int r)) M') {k124 : Nat → Int32 → Int32 → A_M → Option (Int32 × A_M)} (hk124 : ∀ (x0 : Nat) (x1 : Int32) (x2 : Int32) (M : A_M) (r : Int32) (M' : A_M), k124 x0 x1 x2 M = some (r, M') → J X 3 124 [(0, .ref x0), (1, .int x1), (2, .int x2)] [] M 0 0 (some (.int r)) M') : ∀ (x0 : Nat) (x1 : Int32) (x2 : Int32) (M : A_M) (r : Int32) (M' : A_M), f_X7_step_K191 N k114 k124 x0 x1 x2 M = some (r, M') → J X 3 191 [(0, .ref x0), (1, .int x1), (2, .int x2)] [] M 0 0 (some (.int r)) M' := by
  intro x0 x1 x2 M r M' h
  unfold f_X7_step_K191 at h
  refine J_iinc (pc' := 194) (lv' := [(2, .int (x2 + 1)), (0, .ref x0), (1, .int x1)]) C 2 dX7_step_191 rfl rfl rfl (by decide) rfl ?_
  refine J_goto (tgt := 124) C dX7_step_194 (by decide) ?_
  refine J_sub (lv' := [(0, .ref x0), (1, .int x1), (2, .int (x2 + 1))]) [1, 2, 0] rfl ?_
  exact hk124 _ _ _ _ _ _ h
def f_X7_step_K197 (N : Nat) (k114 : Nat → Int32 → A_M → Option (Int32 × A_M)) (x0 : Nat) (x1 : Int32) (M : A_M) : Option (Int32 × A_M) :=
  k114 x0 (x1 + 1) M
set_option maxHeartbeats 4000000 in
set_option maxRecDepth 100000 in
theorem ok_X7_step_K197 {X : JX} (C : Cx X cX7_step RX7 3 (some .int) 4 96) (N : Nat) {k114 : Nat → Int32 → A_M → Option (Int32 × A_M)} (hk114 : ∀ (x0 : Nat) (x1 : Int32) (M : A_M) (r : Int32) (M' : A_M), k114 x0 x1 M = some (r, M') → J X 3 114 [(0, .ref x0), (1, .int x1)] [] M 0 0 (some (.int r)) M') : ∀ (x0 : Nat) (x1 : Int32) (M : A_M) (r : Int32) (M' : A_M), f_X7_step_K197 N k114 x0 x1 M = some (r, M') → J X 3 197 [(0, .ref x0), (1, .int x1)] [] M 0 0 (some (.int r)) M' := by
  intro x0 x1 M r M' h
  unfold f_X7_step_K197 at h
  refine J_iinc (pc' := 200) (lv' := [(1, .int (x1 + 1)), (0, .ref x0)]) C 1 dX7_step_197 rfl rfl rfl (by decide) rfl ?_
  refine J_goto (tgt := 114) C dX7_step_200 (by decide) ?_
  refine J_sub (lv' := [(0, .ref x0), (1, .int (x1 + 1))]) [1, 0] rfl ?_
  exact hk114 _ _ _ _ _ h
def f_X7_step_L124 (N : Nat) (k114 : Nat → Int32 → A_M → Option (Int32 × A_M)) : Nat → Nat → Int32 → Int32 → A_M → Option (Int32 × A_M)
  | 0, _, _, _, _ => none
  | n + 1, x0, x1, x2, M =>
    (gI M x0 7 1).bind fun v126 =>
    if v126 ≤ x2 then
    (f_X7_step_K197 N k114 x0 x1 M)
    else
    ((chk M x0 7).bind fun _ =>
    bnd2 (f_X7_makes N x0 x1 x2 M) fun v135 M135 =>
    if v135 = 0 then
    (f_X7_step_K191 N k114 (f_X7_step_L124 N k114 n) x0 x1 x2 M135)
    else
    ((chk M135 x0 7).bind fun _ =>
    bnd2 (f_X7_isSet N x0 M135) fun v142 M142 =>
    if v142 = 0 then
    ((gI M142 x0 7 50).bind fun v149 =>
    if v149 = (2000 : Int32) then
    (some ((-7 : Int32), M142))
    else
    ((chk M142 x0 7).bind fun _ =>
    (f_X7_addSet N x0 x1 x2 M142).bind fun M164 =>
    (gI M164 x0 7 50).bind fun v169 =>
    (chk M164 x0 7).bind fun _ =>
    bnd2 (f_X7_isHome N x0 (v169 - (1 : Int32)) M164) fun v174 M174 =>
    if v174 = 0 then
    (f_X7_step_K191 N k114 (f_X7_step_L124 N k114 n) x0 x1 x2 M174)
    else
    ((gI M174 x0 7 50).bind fun v182 =>
    (chk M174 x0 7).bind fun _ =>
    bnd2 (f_X7_stepTo N x0 (v182 - (1 : Int32)) M174) fun v187 M187 =>
    some (v187, M187))))
    else
    (f_X7_step_K191 N k114 (f_X7_step_L124 N k114 n) x0 x1 x2 M142)))
set_option maxHeartbeats 4000000 in
set_option maxRecDepth 100000 in
theorem ok_X7_step_L124 {X : JX} (C : Cx X cX7_step RX7 3 (some .int) 4 96) (N : Nat) {k114 : Nat → Int32 → A_M → Option (Int32 × A_M)} (hk114 : ∀ (x0 : Nat) (x1 : Int32) (M : A_M) (r : Int32) (M' : A_M), k114 x0 x1 M = some (r, M') → J X 3 114 [(0, .ref x0), (1, .int x1)] [] M 0 0 (some (.int r)) M') : ∀ (n : Nat) (x0 : Nat) (x1 : Int32) (x2 : Int32) (M : A_M) (r : Int32) (M' : A_M), f_X7_step_L124 N k114 n x0 x1 x2 M = some (r, M') → J X 3 124 [(0, .ref x0), (1, .int x1), (2, .int x2)] [] M 0 0 (some (.int r)) M' := by
  intro n
  induction n with
  | zero =>
    intro x0 x1 x2 M r M' h
    cases h
  | succ n ih =>
    intro x0 x1 x2 M r M' h
    rw [f_X7_step_L124] at h
    refine J_iload_n (pc' := 125) C 2 dX7_step_124 rfl rfl rfl ?_
    refine J_aload_n (pc' := 126) C 0 dX7_step_125 rfl rfl rfl ?_
    obtain ⟨v126, e126, h⟩ := bd h
    refine jg_880 (pc' := 129) C dX7_step_126 rfl (gI_some e126) ?_
    refine J_icmp_ge (tgt := 197) (pc' := 132) C dX7_step_129 (by decide) rfl (fun c129 => ?_) (fun c129 => ?_)
    · rw [if_pos c129] at h
      refine J_sub (lv' := [(0, .ref x0), (1, .int x1)]) [0, 1] rfl ?_
      exact ok_X7_step_K197 C N hk114 _ _ _ _ _ h
    · rw [if_neg c129] at h
      refine J_aload_n (pc' := 133) C 0 dX7_step_132 rfl rfl rfl ?_
      refine J_iload_n (pc' := 134) C 1 dX7_step_133 rfl rfl rfl ?_
      refine J_iload_n (pc' := 135) C 2 dX7_step_134 rfl rfl rfl ?_
      obtain ⟨_, q135, h⟩ := bd h
      obtain ⟨v135, M135, e135, h⟩ := bd2 h
      refine J_cV (pc' := 138) (st := []) (st2 := [.int v135]) (cs2 := 0) (sl2 := 0) C 7 rfl rfl q135 (ok_X7_makes N e135) mw_X7_makes wq_1377 rfl dX7_step_135 rfl rfl (Nat.le_of_ble_eq_true rfl) (by decide) (by decide) rfl rfl rfl (Nat.zero_le _) (Nat.zero_le _) ?_
      refine J_if_eq (tgt := 191) (pc' := 141) C dX7_step_138 (by decide) rfl (fun c138 => ?_) (fun c138 => ?_)
      · rw [if_pos c138] at h
        refine J_sub (lv' := [(0, .ref x0), (1, .int x1), (2, .int x2)]) [0, 1, 2] rfl ?_
        exact ok_X7_step_K191 C N hk114 ih _ _ _ _ _ _ h
      · rw [if_neg c138] at h
        refine J_aload_n (pc' := 142) C 0 dX7_step_141 rfl rfl rfl ?_
        obtain ⟨_, q142, h⟩ := bd h
        obtain ⟨v142, M142, e142, h⟩ := bd2 h
        refine J_cV (pc' := 145) (st := []) (st2 := [.int v142]) (cs2 := 0) (sl2 := 0) C 7 rfl rfl q142 (ok_X7_isSet N e142) mw_X7_isSet wq_1381 rfl dX7_step_142 rfl rfl (Nat.le_of_ble_eq_true rfl) (by decide) (by decide) rfl rfl rfl (Nat.zero_le _) (Nat.zero_le _) ?_
        refine J_if_ne (tgt := 191) (pc' := 148) C dX7_step_145 (by decide) rfl (fun c145 => ?_) (fun c145 => ?_)
        · rw [if_neg c145] at h
          refine J_sub (lv' := [(0, .ref x0), (1, .int x1), (2, .int x2)]) [0, 1, 2] rfl ?_
          exact ok_X7_step_K191 C N hk114 ih _ _ _ _ _ _ h
        · rw [if_pos c145] at h
          refine J_aload_n (pc' := 149) C 0 dX7_step_148 rfl rfl rfl ?_
          obtain ⟨v149, e149, h⟩ := bd h
          refine jg_929 (pc' := 152) C dX7_step_149 rfl (gI_some e149) ?_
          refine J_sipush (pc' := 155) (v := (2000 : Int32)) C dX7_step_152 rfl (by decide) ?_
          refine J_icmp_ne (tgt := 161) (pc' := 158) C dX7_step_155 (by decide) rfl (fun c155 => ?_) (fun c155 => ?_)
          · rw [if_neg c155] at h
            refine J_aload_n (pc' := 162) C 0 dX7_step_161 rfl rfl rfl ?_
            refine J_iload_n (pc' := 163) C 1 dX7_step_162 rfl rfl rfl ?_
            refine J_iload_n (pc' := 164) C 2 dX7_step_163 rfl rfl rfl ?_
            obtain ⟨_, q164, h⟩ := bd h
            obtain ⟨M164, e164, h⟩ := bd h
            refine J_cV (pc' := 167) (st := []) (st2 := []) (cs2 := 0) (sl2 := 0) C 7 rfl rfl q164 (ok_X7_addSet N e164) mw_X7_addSet wq_1369 rfl dX7_step_164 rfl rfl (Nat.le_of_ble_eq_true rfl) (by decide) (by decide) rfl rfl rfl (Nat.zero_le _) (Nat.zero_le _) ?_
            refine J_aload_n (pc' := 168) C 0 dX7_step_167 rfl rfl rfl ?_
            refine J_aload_n (pc' := 169) C 0 dX7_step_168 rfl rfl rfl ?_
            obtain ⟨v169, e169, h⟩ := bd h
            refine jg_929 (pc' := 172) C dX7_step_169 rfl (gI_some e169) ?_
            refine J_iconst (pc' := 173) (v := (1 : Int32)) C dX7_step_172 rfl (by decide) ?_
            refine J_isub (pc' := 174) C dX7_step_173 rfl ?_
            obtain ⟨_, q174, h⟩ := bd h
            obtain ⟨v174, M174, e174, h⟩ := bd2 h
            refine J_cV (pc' := 177) (st := []) (st2 := [.int v174]) (cs2 := 0) (sl2 := 0) C 7 rfl rfl q174 (ok_X7_isHome N e174) mw_X7_isHome wq_1373 rfl dX7_step_174 rfl rfl (Nat.le_of_ble_eq_true rfl) (by decide) (by decide) rfl rfl rfl (Nat.zero_le _) (Nat.zero_le _) ?_
            refine J_if_eq (tgt := 191) (pc' := 180) C dX7_step_177 (by decide) rfl (fun c177 => ?_) (fun c177 => ?_)
            · rw [if_pos c177] at h
              refine J_sub (lv' := [(0, .ref x0), (1, .int x1), (2, .int x2)]) [0, 1, 2] rfl ?_
              exact ok_X7_step_K191 C N hk114 ih _ _ _ _ _ _ h
            · rw [if_neg c177] at h
              refine J_aload_n (pc' := 181) C 0 dX7_step_180 rfl rfl rfl ?_
              refine J_aload_n (pc' := 182) C 0 dX7_step_181 rfl rfl rfl ?_
              obtain ⟨v182, e182, h⟩ := bd h
              refine jg_929 (pc' := 185) C dX7_step_182 rfl (gI_some e182) ?_
              refine J_iconst (pc' := 186) (v := (1 : Int32)) C dX7_step_185 rfl (by decide) ?_
              refine J_isub (pc' := 187) C dX7_step_186 rfl ?_
              obtain ⟨_, q187, h⟩ := bd h
              obtain ⟨v187, M187, e187, h⟩ := bd2 h
              refine J_cV (pc' := 190) (st := []) (st2 := [.int v187]) (cs2 := 0) (sl2 := 0) C 7 rfl rfl q187 (ok_X7_stepTo N e187) mw_X7_stepTo wq_1385 rfl dX7_step_187 rfl rfl (Nat.le_of_ble_eq_true rfl) (by decide) (by decide) rfl rfl rfl (Nat.zero_le _) (Nat.zero_le _) ?_
              obtain ⟨rfl, rfl⟩ := rt2 h
              exact J_iret C dX7_step_190 (Nat.zero_le _) (Nat.zero_le _)
          · rw [if_pos c155] at h
            refine J_bipush (pc' := 160) (v := (-7 : Int32)) C dX7_step_158 rfl (by decide) ?_
            obtain ⟨rfl, rfl⟩ := rt2 h
            exact J_iret C dX7_step_160 (Nat.zero_le _) (Nat.zero_le _)
def f_X7_step_L114 (N : Nat) : Nat → Nat → Int32 → A_M → Option (Int32 × A_M)
  | 0, _, _, _ => none
  | n + 1, x0, x1, M =>
    (gI M x0 7 50).bind fun v116 =>
    if v116 ≤ x1 then
    (some ((-6 : Int32), M))
    else
    (f_X7_step_L124 N (f_X7_step_L114 N n) N x0 x1 (0 : Int32) M)
set_option maxHeartbeats 4000000 in
set_option maxRecDepth 100000 in
theorem ok_X7_step_L114 {X : JX} (C : Cx X cX7_step RX7 3 (some .int) 4 96) (N : Nat) : ∀ (n : Nat) (x0 : Nat) (x1 : Int32) (M : A_M) (r : Int32) (M' : A_M), f_X7_step_L114 N n x0 x1 M = some (r, M') → J X 3 114 [(0, .ref x0), (1, .int x1)] [] M 0 0 (some (.int r)) M' := by
  intro n
  induction n with
  | zero =>
    intro x0 x1 M r M' h
    cases h
  | succ n ih =>
    intro x0 x1 M r M' h
    rw [f_X7_step_L114] at h
    refine J_iload_n (pc' := 115) C 1 dX7_step_114 rfl rfl rfl ?_
    refine J_aload_n (pc' := 116) C 0 dX7_step_115 rfl rfl rfl ?_
    obtain ⟨v116, e116, h⟩ := bd h
    refine jg_929 (pc' := 119) C dX7_step_116 rfl (gI_some e116) ?_
    refine J_icmp_ge (tgt := 203) (pc' := 122) C dX7_step_119 (by decide) rfl (fun c119 => ?_) (fun c119 => ?_)
    · rw [if_pos c119] at h
      refine J_bipush (pc' := 205) (v := (-6 : Int32)) C dX7_step_203 rfl (by decide) ?_
      obtain ⟨rfl, rfl⟩ := rt2 h
      exact J_iret C dX7_step_205 (Nat.zero_le _) (Nat.zero_le _)
    · rw [if_neg c119] at h
      refine J_iconst (pc' := 123) (v := (0 : Int32)) C dX7_step_122 rfl (by decide) ?_
      refine J_istore_n (pc' := 124) (lv' := [(2, .int (0 : Int32)), (0, .ref x0), (1, .int x1)]) C dX7_step_123 rfl rfl (by decide) rfl ?_
      refine J_sub (lv' := [(0, .ref x0), (1, .int x1), (2, .int (0 : Int32))]) [1, 2, 0] rfl ?_
      exact ok_X7_step_L124 C N ih N _ _ _ _ _ _ h
def f_X7_step_K96 (N : Nat) (x0 : Nat) (M : A_M) : Option (Int32 × A_M) :=
  (chk M x0 7).bind fun _ =>
  (f_X7_addSet N x0 (0 : Int32) (0 : Int32) M).bind fun M99 =>
  (chk M99 x0 7).bind fun _ =>
  bnd2 (f_X7_isHome N x0 (0 : Int32) M99) fun v104 M104 =>
  if v104 = 0 then
  (f_X7_step_L114 N N x0 (0 : Int32) M104)
  else
  (some ((0 : Int32), M104))
set_option maxHeartbeats 4000000 in
set_option maxRecDepth 100000 in
theorem ok_X7_step_K96 {X : JX} (C : Cx X cX7_step RX7 3 (some .int) 4 96) (N : Nat) : ∀ (x0 : Nat) (M : A_M) (r : Int32) (M' : A_M), f_X7_step_K96 N x0 M = some (r, M') → J X 3 96 [(0, .ref x0)] [] M 0 0 (some (.int r)) M' := by
  intro x0 M r M' h
  unfold f_X7_step_K96 at h
  refine J_aload_n (pc' := 97) C 0 dX7_step_96 rfl rfl rfl ?_
  refine J_iconst (pc' := 98) (v := (0 : Int32)) C dX7_step_97 rfl (by decide) ?_
  refine J_iconst (pc' := 99) (v := (0 : Int32)) C dX7_step_98 rfl (by decide) ?_
  obtain ⟨_, q99, h⟩ := bd h
  obtain ⟨M99, e99, h⟩ := bd h
  refine J_cV (pc' := 102) (st := []) (st2 := []) (cs2 := 0) (sl2 := 0) C 7 rfl rfl q99 (ok_X7_addSet N e99) mw_X7_addSet wq_1369 rfl dX7_step_99 rfl rfl (Nat.le_of_ble_eq_true rfl) (by decide) (by decide) rfl rfl rfl (Nat.zero_le _) (Nat.zero_le _) ?_
  refine J_aload_n (pc' := 103) C 0 dX7_step_102 rfl rfl rfl ?_
  refine J_iconst (pc' := 104) (v := (0 : Int32)) C dX7_step_103 rfl (by decide) ?_
  obtain ⟨_, q104, h⟩ := bd h
  obtain ⟨v104, M104, e104, h⟩ := bd2 h
  refine J_cV (pc' := 107) (st := []) (st2 := [.int v104]) (cs2 := 0) (sl2 := 0) C 7 rfl rfl q104 (ok_X7_isHome N e104) mw_X7_isHome wq_1373 rfl dX7_step_104 rfl rfl (Nat.le_of_ble_eq_true rfl) (by decide) (by decide) rfl rfl rfl (Nat.zero_le _) (Nat.zero_le _) ?_
  refine J_if_eq (tgt := 112) (pc' := 110) C dX7_step_107 (by decide) rfl (fun c107 => ?_) (fun c107 => ?_)
  · rw [if_pos c107] at h
    refine J_iconst (pc' := 113) (v := (0 : Int32)) C dX7_step_112 rfl (by decide) ?_
    refine J_istore_n (pc' := 114) (lv' := [(1, .int (0 : Int32)), (0, .ref x0)]) C dX7_step_113 rfl rfl (by decide) rfl ?_
    refine J_sub (lv' := [(0, .ref x0), (1, .int (0 : Int32))]) [1, 0] rfl ?_
    exact ok_X7_step_L114 C N N _ _ _ _ _ h
  · rw [if_neg c107] at h
    refine J_iconst (pc' := 111) (v := (0 : Int32)) C dX7_step_110 rfl (by decide) ?_
    obtain ⟨rfl, rfl⟩ := rt2 h
    exact J_iret C dX7_step_111 (Nat.zero_le _) (Nat.zero_le _)
def f_X7_step_L57 (N : Nat) : Nat → Nat → Int32 → A_M → Option (Int32 × A_M)
  | 0, _, _, _ => none
  | n + 1, x0, x1, M =>
    (gI M x0 7 40).bind fun v59 =>
    if v59 ≤ x1 then
    (f_X7_step_K96 N x0 M)
    else
    ((gR M x0 7 51).bind fun v66 =>
    (gR M x0 7 51).bind fun v74 =>
    (ldJ M v74 (x1 / (64 : Int32))).bind fun v81 =>
    (stJ M v66 (x1 / (64 : Int32)) (v81 ||| ((1 : Int64) <<< ((x1 - x1 / (64 : Int32) * (64 : Int32)).toInt64 &&& 63)))).bind fun M89 =>
    f_X7_step_L57 N n x0 (x1 + 1) M89)
set_option maxHeartbeats 4000000 in
set_option maxRecDepth 100000 in
theorem ok_X7_step_L57 {X : JX} (C : Cx X cX7_step RX7 3 (some .int) 4 96) (N : Nat) : ∀ (n : Nat) (x0 : Nat) (x1 : Int32) (M : A_M) (r : Int32) (M' : A_M), f_X7_step_L57 N n x0 x1 M = some (r, M') → J X 3 57 [(0, .ref x0), (1, .int x1)] [] M 0 0 (some (.int r)) M' := by
  intro n
  induction n with
  | zero =>
    intro x0 x1 M r M' h
    cases h
  | succ n ih =>
    intro x0 x1 M r M' h
    rw [f_X7_step_L57] at h
    refine J_iload_n (pc' := 58) C 1 dX7_step_57 rfl rfl rfl ?_
    refine J_aload_n (pc' := 59) C 0 dX7_step_58 rfl rfl rfl ?_
    obtain ⟨v59, e59, h⟩ := bd h
    refine jg_919 (pc' := 62) C dX7_step_59 rfl (gI_some e59) ?_
    refine J_icmp_ge (tgt := 96) (pc' := 65) C dX7_step_62 (by decide) rfl (fun c62 => ?_) (fun c62 => ?_)
    · rw [if_pos c62] at h
      refine J_sub (lv' := [(0, .ref x0)]) [0] rfl ?_
      exact ok_X7_step_K96 C N _ _ _ _ h
    · rw [if_neg c62] at h
      refine J_aload_n (pc' := 66) C 0 dX7_step_65 rfl rfl rfl ?_
      obtain ⟨v66, e66, h⟩ := bd h
      refine jg_930 (pc' := 69) C dX7_step_66 rfl (gR_some e66) ?_
      refine J_iload_n (pc' := 70) C 1 dX7_step_69 rfl rfl rfl ?_
      refine J_bipush (pc' := 72) (v := (64 : Int32)) C dX7_step_70 rfl (by decide) ?_
      refine J_idiv (pc' := 73) C (by decide) dX7_step_72 rfl ?_
      refine J_aload_n (pc' := 74) C 0 dX7_step_73 rfl rfl rfl ?_
      obtain ⟨v74, e74, h⟩ := bd h
      refine jg_930 (pc' := 77) C dX7_step_74 rfl (gR_some e74) ?_
      refine J_iload_n (pc' := 78) C 1 dX7_step_77 rfl rfl rfl ?_
      refine J_bipush (pc' := 80) (v := (64 : Int32)) C dX7_step_78 rfl (by decide) ?_
      refine J_idiv (pc' := 81) C (by decide) dX7_step_80 rfl ?_
      obtain ⟨v81, e81, h⟩ := bd h
      refine J_lald (pc' := 82) C dX7_step_81 rfl e81 ?_
      refine J_lconst (pc' := 83) (v := (1 : Int64)) C dX7_step_82 rfl (by decide) ?_
      refine J_iload_n (pc' := 84) C 1 dX7_step_83 rfl rfl rfl ?_
      refine J_bipush (pc' := 86) (v := (64 : Int32)) C dX7_step_84 rfl (by decide) ?_
      refine J_irem (pc' := 87) C (by decide) dX7_step_86 rfl ?_
      refine J_lshl (pc' := 88) C dX7_step_87 rfl ?_
      refine J_lor (pc' := 89) C dX7_step_88 rfl ?_
      obtain ⟨M89, e89, h⟩ := bd h
      refine J_last (pc' := 90) C dX7_step_89 rfl e89 ?_
      refine J_iinc (pc' := 93) (lv' := [(1, .int (x1 + 1)), (0, .ref x0)]) C 1 dX7_step_90 rfl rfl rfl (by decide) rfl ?_
      refine J_goto (tgt := 57) C dX7_step_93 (by decide) ?_
      refine J_sub (lv' := [(0, .ref x0), (1, .int (x1 + 1))]) [1, 0] rfl ?_
      exact ih _ _ _ _ _ h
def f_X7_step_K55 (N : Nat) (x0 : Nat) (M : A_M) : Option (Int32 × A_M) :=
  f_X7_step_L57 N N x0 (0 : Int32) M
set_option maxHeartbeats 4000000 in
set_option maxRecDepth 100000 in
theorem ok_X7_step_K55 {X : JX} (C : Cx X cX7_step RX7 3 (some .int) 4 96) (N : Nat) : ∀ (x0 : Nat) (M : A_M) (r : Int32) (M' : A_M), f_X7_step_K55 N x0 M = some (r, M') → J X 3 55 [(0, .ref x0)] [] M 0 0 (some (.int r)) M' := by
  intro x0 M r M' h
  unfold f_X7_step_K55 at h
  refine J_iconst (pc' := 56) (v := (0 : Int32)) C dX7_step_55 rfl (by decide) ?_
  refine J_istore_n (pc' := 57) (lv' := [(1, .int (0 : Int32)), (0, .ref x0)]) C dX7_step_56 rfl rfl (by decide) rfl ?_
  refine J_sub (lv' := [(0, .ref x0), (1, .int (0 : Int32))]) [1, 0] rfl ?_
  exact ok_X7_step_L57 C N N _ _ _ _ _ h
def f_X7_step_L36 (N : Nat) : Nat → Nat → Int32 → A_M → Option (Int32 × A_M)
  | 0, _, _, _ => none
  | n + 1, x0, x1, M =>
    if (9 : Int32) ≤ x1 then
    (f_X7_step_K55 N x0 M)
    else
    ((gR M x0 7 51).bind fun v43 =>
    (stJ M v43 x1 (0 : Int64)).bind fun M48 =>
    f_X7_step_L36 N n x0 (x1 + 1) M48)
set_option maxHeartbeats 4000000 in
set_option maxRecDepth 100000 in
theorem ok_X7_step_L36 {X : JX} (C : Cx X cX7_step RX7 3 (some .int) 4 96) (N : Nat) : ∀ (n : Nat) (x0 : Nat) (x1 : Int32) (M : A_M) (r : Int32) (M' : A_M), f_X7_step_L36 N n x0 x1 M = some (r, M') → J X 3 36 [(0, .ref x0), (1, .int x1)] [] M 0 0 (some (.int r)) M' := by
  intro n
  induction n with
  | zero =>
    intro x0 x1 M r M' h
    cases h
  | succ n ih =>
    intro x0 x1 M r M' h
    rw [f_X7_step_L36] at h
    refine J_iload_n (pc' := 37) C 1 dX7_step_36 rfl rfl rfl ?_
    refine J_bipush (pc' := 39) (v := (9 : Int32)) C dX7_step_37 rfl (by decide) ?_
    refine J_icmp_ge (tgt := 55) (pc' := 42) C dX7_step_39 (by decide) rfl (fun c39 => ?_) (fun c39 => ?_)
    · rw [if_pos c39] at h
      refine J_sub (lv' := [(0, .ref x0)]) [0] rfl ?_
      exact ok_X7_step_K55 C N _ _ _ _ h
    · rw [if_neg c39] at h
      refine J_aload_n (pc' := 43) C 0 dX7_step_42 rfl rfl rfl ?_
      obtain ⟨v43, e43, h⟩ := bd h
      refine jg_930 (pc' := 46) C dX7_step_43 rfl (gR_some e43) ?_
      refine J_iload_n (pc' := 47) C 1 dX7_step_46 rfl rfl rfl ?_
      refine J_lconst (pc' := 48) (v := (0 : Int64)) C dX7_step_47 rfl (by decide) ?_
      obtain ⟨M48, e48, h⟩ := bd h
      refine J_last (pc' := 49) C dX7_step_48 rfl e48 ?_
      refine J_iinc (pc' := 52) (lv' := [(1, .int (x1 + 1)), (0, .ref x0)]) C 1 dX7_step_49 rfl rfl rfl (by decide) rfl ?_
      refine J_goto (tgt := 36) C dX7_step_52 (by decide) ?_
      refine J_sub (lv' := [(0, .ref x0), (1, .int (x1 + 1))]) [1, 0] rfl ?_
      exact ih _ _ _ _ _ h
def f_X7_step (N : Nat) (a0 : Nat) (M : A_M) : Option (Int32 × A_M) :=
  (gI M a0 7 4).bind fun v1 =>
  if v1 = 0 then
  (some ((-3 : Int32), M))
  else
  ((chk M a0 7).bind fun _ =>
  bnd2 (f_X7_isFree N a0 M) fun v11 M11 =>
  if v11 = 0 then
  (some ((-5 : Int32), M11))
  else
  ((chk M11 a0 7).bind fun _ =>
  (f_X7_findPlaces N a0 M11).bind fun M21 =>
  (pV M21 a0 7 53 (.int (0 : Int32))).bind fun M26 =>
  (pV M26 a0 7 50 (.int (0 : Int32))).bind fun M31 =>
  f_X7_step_L36 N N a0 (0 : Int32) M31))
set_option maxHeartbeats 4000000 in
set_option maxRecDepth 100000 in
theorem ok_X7_step (N : Nat) {a0 : Nat} {M : A_M} {r : Int32} {M' : A_M} (h : f_X7_step N a0 M = some (r, M')) : Runs yX7_step cX7_step 3 (some .int) 4 96 0 0 [.ref a0] M (some (.int r)) M' := by
  refine Runs.intro (by decide) (Nat.le_of_ble_eq_true rfl) (fun X C hnm hMC hMS => ?_)
  have C : Cx X cX7_step RX7 3 (some .int) 4 96 := C
  show J X 3 0 [(0, .ref a0)] [] M 0 0 (some (.int r)) M'
  unfold f_X7_step at h
  refine J_aload_n (pc' := 1) C 0 dX7_step_0 rfl rfl rfl ?_
  obtain ⟨v1, e1, h⟩ := bd h
  refine jg_883 (pc' := 4) C dX7_step_1 rfl (gI_some e1) ?_
  refine J_if_ne (tgt := 10) (pc' := 7) C dX7_step_4 (by decide) rfl (fun c4 => ?_) (fun c4 => ?_)
  · rw [if_neg c4] at h
    refine J_aload_n (pc' := 11) C 0 dX7_step_10 rfl rfl rfl ?_
    obtain ⟨_, q11, h⟩ := bd h
    obtain ⟨v11, M11, e11, h⟩ := bd2 h
    refine J_cV (pc' := 14) (st := []) (st2 := [.int v11]) (cs2 := 0) (sl2 := 0) C 7 rfl rfl q11 (ok_X7_isFree N e11) mw_X7_isFree wq_1290 rfl dX7_step_11 rfl rfl (Nat.le_of_ble_eq_true rfl) (by decide) (by decide) rfl rfl rfl (Nat.zero_le _) (Nat.zero_le _) ?_
    refine J_if_ne (tgt := 20) (pc' := 17) C dX7_step_14 (by decide) rfl (fun c14 => ?_) (fun c14 => ?_)
    · rw [if_neg c14] at h
      refine J_aload_n (pc' := 21) C 0 dX7_step_20 rfl rfl rfl ?_
      obtain ⟨_, q21, h⟩ := bd h
      obtain ⟨M21, e21, h⟩ := bd h
      refine J_cV (pc' := 24) (st := []) (st2 := []) (cs2 := 0) (sl2 := 0) C 7 rfl rfl q21 (ok_X7_findPlaces N e21) mw_X7_findPlaces wq_1294 rfl dX7_step_21 rfl rfl (Nat.le_of_ble_eq_true rfl) (by decide) (by decide) rfl rfl rfl (Nat.zero_le _) (Nat.zero_le _) ?_
      refine J_aload_n (pc' := 25) C 0 dX7_step_24 rfl rfl rfl ?_
      refine J_iconst (pc' := 26) (v := (0 : Int32)) C dX7_step_25 rfl (by decide) ?_
      obtain ⟨M26, e26, h⟩ := bd h
      refine jp_932 (pc' := 29) C (fun _ => ⟨rfl, rfl⟩) dX7_step_26 rfl e26 ?_
      refine J_aload_n (pc' := 30) C 0 dX7_step_29 rfl rfl rfl ?_
      refine J_iconst (pc' := 31) (v := (0 : Int32)) C dX7_step_30 rfl (by decide) ?_
      obtain ⟨M31, e31, h⟩ := bd h
      refine jp_929 (pc' := 34) C (fun _ => ⟨rfl, rfl⟩) dX7_step_31 rfl e31 ?_
      refine J_iconst (pc' := 35) (v := (0 : Int32)) C dX7_step_34 rfl (by decide) ?_
      refine J_istore_n (pc' := 36) (lv' := [(1, .int (0 : Int32)), (0, .ref a0)]) C dX7_step_35 rfl rfl (by decide) rfl ?_
      refine J_sub (lv' := [(0, .ref a0), (1, .int (0 : Int32))]) [1, 0] rfl ?_
      exact ok_X7_step_L36 C N N _ _ _ _ _ h
    · rw [if_pos c14] at h
      refine J_bipush (pc' := 19) (v := (-5 : Int32)) C dX7_step_17 rfl (by decide) ?_
      obtain ⟨rfl, rfl⟩ := rt2 h
      exact J_iret C dX7_step_19 (Nat.zero_le _) (Nat.zero_le _)
  · rw [if_pos c4] at h
    refine J_bipush (pc' := 9) (v := (-3 : Int32)) C dX7_step_7 rfl (by decide) ?_
    obtain ⟨rfl, rfl⟩ := rt2 h
    exact J_iret C dX7_step_9 (Nat.zero_le _) (Nat.zero_le _)
def f_X7_stepSign (N : Nat) (a0 : Nat) (a1 : Int32) (M : A_M) : Option (Int32 × A_M) :=
  (gI M a0 7 53).bind fun v4 =>
  bnd2 (f_X7_in N (a1.toInt64) (0 : Int64) ((v4 - (1 : Int32)).toInt64) M) fun v10 M10 =>
  if v10 = 0 then
  (some ((-6 : Int32), M10))
  else
  ((gR M10 a0 7 52).bind fun v17 =>
  (ldI M10 v17 a1).bind fun v21 =>
  some (v21, M10))
set_option maxHeartbeats 4000000 in
set_option maxRecDepth 100000 in
theorem ok_X7_stepSign (N : Nat) {a0 : Nat} {a1 : Int32} {M : A_M} {r : Int32} {M' : A_M} (h : f_X7_stepSign N a0 a1 M = some (r, M')) : Runs yX7_stepSign cX7_stepSign 2 (some .int) 1 25 0 0 [.ref a0, .int a1] M (some (.int r)) M' := by
  refine Runs.intro (by decide) (Nat.le_of_ble_eq_true rfl) (fun X C hnm hMC hMS => ?_)
  have C : Cx X cX7_stepSign RX7 2 (some .int) 1 25 := C
  show J X 2 0 [(0, .ref a0), (1, .int a1)] [] M 0 0 (some (.int r)) M'
  unfold f_X7_stepSign at h
  refine J_iload_n (pc' := 1) C 1 dX7_stepSign_0 rfl rfl rfl ?_
  refine J_i2l (pc' := 2) C dX7_stepSign_1 rfl ?_
  refine J_lconst (pc' := 3) (v := (0 : Int64)) C dX7_stepSign_2 rfl (by decide) ?_
  refine J_aload_n (pc' := 4) C 0 dX7_stepSign_3 rfl rfl rfl ?_
  obtain ⟨v4, e4, h⟩ := bd h
  refine jg_932 (pc' := 7) C dX7_stepSign_4 rfl (gI_some e4) ?_
  refine J_iconst (pc' := 8) (v := (1 : Int32)) C dX7_stepSign_7 rfl (by decide) ?_
  refine J_isub (pc' := 9) C dX7_stepSign_8 rfl ?_
  refine J_i2l (pc' := 10) C dX7_stepSign_9 rfl ?_
  obtain ⟨v10, M10, e10, h⟩ := bd2 h
  refine J_cS (pc' := 13) (st := []) (st2 := [.int v10]) (cs2 := 0) (sl2 := 0) C (ok_X7_in N e10) mw_X7_in wq_1057 rfl dX7_stepSign_10 rfl rfl (Nat.le_of_ble_eq_true rfl) (by decide) (by decide) rfl rfl rfl (Nat.zero_le _) (Nat.zero_le _) ?_
  refine J_if_eq (tgt := 25) (pc' := 16) C dX7_stepSign_13 (by decide) rfl (fun c13 => ?_) (fun c13 => ?_)
  · rw [if_pos c13] at h
    refine J_bipush (pc' := 27) (v := (-6 : Int32)) C dX7_stepSign_25 rfl (by decide) ?_
    obtain ⟨rfl, rfl⟩ := rt2 h
    exact J_iret C dX7_stepSign_27 (Nat.zero_le _) (Nat.zero_le _)
  · rw [if_neg c13] at h
    refine J_aload_n (pc' := 17) C 0 dX7_stepSign_16 rfl rfl rfl ?_
    obtain ⟨v17, e17, h⟩ := bd h
    refine jg_931 (pc' := 20) C dX7_stepSign_17 rfl (gR_some e17) ?_
    refine J_iload_n (pc' := 21) C 1 dX7_stepSign_20 rfl rfl rfl ?_
    obtain ⟨v21, e21, h⟩ := bd h
    refine J_iald (pc' := 22) C dX7_stepSign_21 rfl e21 ?_
    refine J_goto (tgt := 27) C dX7_stepSign_22 (by decide) ?_
    obtain ⟨rfl, rfl⟩ := rt2 h
    exact J_iret C dX7_stepSign_27 (Nat.zero_le _) (Nat.zero_le _)
def f_X7_keep_L26 (N : Nat) : Nat → Nat → Int32 → Int32 → A_M → Option (Int32 × A_M)
  | 0, _, _, _, _ => none
  | n + 1, x0, x1, x2, M =>
    (gI M x0 7 3).bind fun v28 =>
    if v28 ≤ x2 then
    ((gR M x0 7 56).bind fun v75 =>
    (gI M x0 7 3).bind fun v80 =>
    (stI M v75 x1 v80).bind fun M83 =>
    some ((1 : Int32), M83))
    else
    ((gR M x0 7 54).bind fun v35 =>
    (gR M x0 7 7).bind fun v45 =>
    (ldJ M v45 x2).bind fun v49 =>
    (stJ M v35 (((24 : Int32) * x1) + x2) v49).bind fun M50 =>
    (gR M50 x0 7 55).bind fun v52 =>
    (gR M50 x0 7 8).bind fun v62 =>
    (ldI M50 v62 x2).bind fun v66 =>
    (stI M50 v52 (((24 : Int32) * x1) + x2) v66).bind fun M67 =>
    f_X7_keep_L26 N n x0 x1 (x2 + 1) M67)
set_option maxHeartbeats 4000000 in
set_option maxRecDepth 100000 in
theorem ok_X7_keep_L26 {X : JX} (C : Cx X cX7_keep RX7 3 (some .int) 1 25) (N : Nat) : ∀ (n : Nat) (x0 : Nat) (x1 : Int32) (x2 : Int32) (M : A_M) (r : Int32) (M' : A_M), f_X7_keep_L26 N n x0 x1 x2 M = some (r, M') → J X 3 26 [(0, .ref x0), (1, .int x1), (2, .int x2)] [] M 0 0 (some (.int r)) M' := by
  intro n
  induction n with
  | zero =>
    intro x0 x1 x2 M r M' h
    cases h
  | succ n ih =>
    intro x0 x1 x2 M r M' h
    rw [f_X7_keep_L26] at h
    refine J_iload_n (pc' := 27) C 2 dX7_keep_26 rfl rfl rfl ?_
    refine J_aload_n (pc' := 28) C 0 dX7_keep_27 rfl rfl rfl ?_
    obtain ⟨v28, e28, h⟩ := bd h
    refine jg_882 (pc' := 31) C dX7_keep_28 rfl (gI_some e28) ?_
    refine J_icmp_ge (tgt := 74) (pc' := 34) C dX7_keep_31 (by decide) rfl (fun c31 => ?_) (fun c31 => ?_)
    · rw [if_pos c31] at h
      refine J_aload_n (pc' := 75) C 0 dX7_keep_74 rfl rfl rfl ?_
      obtain ⟨v75, e75, h⟩ := bd h
      refine jg_935 (pc' := 78) C dX7_keep_75 rfl (gR_some e75) ?_
      refine J_iload_n (pc' := 79) C 1 dX7_keep_78 rfl rfl rfl ?_
      refine J_aload_n (pc' := 80) C 0 dX7_keep_79 rfl rfl rfl ?_
      obtain ⟨v80, e80, h⟩ := bd h
      refine jg_882 (pc' := 83) C dX7_keep_80 rfl (gI_some e80) ?_
      obtain ⟨M83, e83, h⟩ := bd h
      refine J_iast (pc' := 84) C dX7_keep_83 rfl e83 ?_
      refine J_iconst (pc' := 85) (v := (1 : Int32)) C dX7_keep_84 rfl (by decide) ?_
      obtain ⟨rfl, rfl⟩ := rt2 h
      exact J_iret C dX7_keep_85 (Nat.zero_le _) (Nat.zero_le _)
    · rw [if_neg c31] at h
      refine J_aload_n (pc' := 35) C 0 dX7_keep_34 rfl rfl rfl ?_
      obtain ⟨v35, e35, h⟩ := bd h
      refine jg_933 (pc' := 38) C dX7_keep_35 rfl (gR_some e35) ?_
      refine J_bipush (pc' := 40) (v := (24 : Int32)) C dX7_keep_38 rfl (by decide) ?_
      refine J_iload_n (pc' := 41) C 1 dX7_keep_40 rfl rfl rfl ?_
      refine J_imul (pc' := 42) C dX7_keep_41 rfl ?_
      refine J_iload_n (pc' := 43) C 2 dX7_keep_42 rfl rfl rfl ?_
      refine J_iadd (pc' := 44) C dX7_keep_43 rfl ?_
      refine J_aload_n (pc' := 45) C 0 dX7_keep_44 rfl rfl rfl ?_
      obtain ⟨v45, e45, h⟩ := bd h
      refine jg_886 (pc' := 48) C dX7_keep_45 rfl (gR_some e45) ?_
      refine J_iload_n (pc' := 49) C 2 dX7_keep_48 rfl rfl rfl ?_
      obtain ⟨v49, e49, h⟩ := bd h
      refine J_lald (pc' := 50) C dX7_keep_49 rfl e49 ?_
      obtain ⟨M50, e50, h⟩ := bd h
      refine J_last (pc' := 51) C dX7_keep_50 rfl e50 ?_
      refine J_aload_n (pc' := 52) C 0 dX7_keep_51 rfl rfl rfl ?_
      obtain ⟨v52, e52, h⟩ := bd h
      refine jg_934 (pc' := 55) C dX7_keep_52 rfl (gR_some e52) ?_
      refine J_bipush (pc' := 57) (v := (24 : Int32)) C dX7_keep_55 rfl (by decide) ?_
      refine J_iload_n (pc' := 58) C 1 dX7_keep_57 rfl rfl rfl ?_
      refine J_imul (pc' := 59) C dX7_keep_58 rfl ?_
      refine J_iload_n (pc' := 60) C 2 dX7_keep_59 rfl rfl rfl ?_
      refine J_iadd (pc' := 61) C dX7_keep_60 rfl ?_
      refine J_aload_n (pc' := 62) C 0 dX7_keep_61 rfl rfl rfl ?_
      obtain ⟨v62, e62, h⟩ := bd h
      refine jg_887 (pc' := 65) C dX7_keep_62 rfl (gR_some e62) ?_
      refine J_iload_n (pc' := 66) C 2 dX7_keep_65 rfl rfl rfl ?_
      obtain ⟨v66, e66, h⟩ := bd h
      refine J_iald (pc' := 67) C dX7_keep_66 rfl e66 ?_
      obtain ⟨M67, e67, h⟩ := bd h
      refine J_iast (pc' := 68) C dX7_keep_67 rfl e67 ?_
      refine J_iinc (pc' := 71) (lv' := [(2, .int (x2 + 1)), (0, .ref x0), (1, .int x1)]) C 2 dX7_keep_68 rfl rfl rfl (by decide) rfl ?_
      refine J_goto (tgt := 26) C dX7_keep_71 (by decide) ?_
      refine J_sub (lv' := [(0, .ref x0), (1, .int x1), (2, .int (x2 + 1))]) [1, 2, 0] rfl ?_
      exact ih _ _ _ _ _ _ h
def f_X7_keep (N : Nat) (a0 : Nat) (a1 : Int32) (M : A_M) : Option (Int32 × A_M) :=
  bnd2 (f_X7_in N (a1.toInt64) (0 : Int64) (7 : Int64) M) fun v6 M6 =>
  if v6 = 0 then
  (some ((-1 : Int32), M6))
  else
  ((gI M6 a0 7 4).bind fun v15 =>
  if v15 = 0 then
  (some ((-3 : Int32), M6))
  else
  (f_X7_keep_L26 N N a0 a1 (0 : Int32) M6))
set_option maxHeartbeats 4000000 in
set_option maxRecDepth 100000 in
theorem ok_X7_keep (N : Nat) {a0 : Nat} {a1 : Int32} {M : A_M} {r : Int32} {M' : A_M} (h : f_X7_keep N a0 a1 M = some (r, M')) : Runs yX7_keep cX7_keep 3 (some .int) 1 25 0 0 [.ref a0, .int a1] M (some (.int r)) M' := by
  refine Runs.intro (by decide) (Nat.le_of_ble_eq_true rfl) (fun X C hnm hMC hMS => ?_)
  have C : Cx X cX7_keep RX7 3 (some .int) 1 25 := C
  show J X 3 0 [(0, .ref a0), (1, .int a1)] [] M 0 0 (some (.int r)) M'
  unfold f_X7_keep at h
  refine J_iload_n (pc' := 1) C 1 dX7_keep_0 rfl rfl rfl ?_
  refine J_i2l (pc' := 2) C dX7_keep_1 rfl ?_
  refine J_lconst (pc' := 3) (v := (0 : Int64)) C dX7_keep_2 rfl (by decide) ?_
  refine J_ldc2 (pc' := 6) C dX7_keep_3 rfl wq_1397 ?_
  obtain ⟨v6, M6, e6, h⟩ := bd2 h
  refine J_cS (pc' := 9) (st := []) (st2 := [.int v6]) (cs2 := 0) (sl2 := 0) C (ok_X7_in N e6) mw_X7_in wq_1057 rfl dX7_keep_6 rfl rfl (Nat.le_of_ble_eq_true rfl) (by decide) (by decide) rfl rfl rfl (Nat.zero_le _) (Nat.zero_le _) ?_
  refine J_if_ne (tgt := 14) (pc' := 12) C dX7_keep_9 (by decide) rfl (fun c9 => ?_) (fun c9 => ?_)
  · rw [if_neg c9] at h
    refine J_aload_n (pc' := 15) C 0 dX7_keep_14 rfl rfl rfl ?_
    obtain ⟨v15, e15, h⟩ := bd h
    refine jg_883 (pc' := 18) C dX7_keep_15 rfl (gI_some e15) ?_
    refine J_if_ne (tgt := 24) (pc' := 21) C dX7_keep_18 (by decide) rfl (fun c18 => ?_) (fun c18 => ?_)
    · rw [if_neg c18] at h
      refine J_iconst (pc' := 25) (v := (0 : Int32)) C dX7_keep_24 rfl (by decide) ?_
      refine J_istore_n (pc' := 26) (lv' := [(2, .int (0 : Int32)), (0, .ref a0), (1, .int a1)]) C dX7_keep_25 rfl rfl (by decide) rfl ?_
      refine J_sub (lv' := [(0, .ref a0), (1, .int a1), (2, .int (0 : Int32))]) [1, 2, 0] rfl ?_
      exact ok_X7_keep_L26 C N N _ _ _ _ _ _ h
    · rw [if_pos c18] at h
      refine J_bipush (pc' := 23) (v := (-3 : Int32)) C dX7_keep_21 rfl (by decide) ?_
      obtain ⟨rfl, rfl⟩ := rt2 h
      exact J_iret C dX7_keep_23 (Nat.zero_le _) (Nat.zero_le _)
  · rw [if_pos c9] at h
    refine J_iconst (pc' := 13) (v := (-1 : Int32)) C dX7_keep_12 rfl (by decide) ?_
    obtain ⟨rfl, rfl⟩ := rt2 h
    exact J_iret C dX7_keep_13 (Nat.zero_le _) (Nat.zero_le _)
def f_X7_back_L41 (N : Nat) : Nat → Nat → Int32 → Int32 → A_M → Option (Int32 × A_M)
  | 0, _, _, _, _ => none
  | n + 1, x0, x1, x2, M =>
    (gI M x0 7 3).bind fun v43 =>
    if v43 ≤ x2 then
    ((chk M x0 7).bind fun _ =>
    (f_X7_comes N x0 M).bind fun M90 =>
    some ((1 : Int32), M90))
    else
    ((gR M x0 7 7).bind fun v50 =>
    (gR M x0 7 54).bind fun v55 =>
    (ldJ M v55 (((24 : Int32) * x1) + x2)).bind fun v64 =>
    (stJ M v50 x2 v64).bind fun M65 =>
    (gR M65 x0 7 8).bind fun v67 =>
    (gR M65 x0 7 55).bind fun v72 =>
    (ldI M65 v72 (((24 : Int32) * x1) + x2)).bind fun v81 =>
    (stI M65 v67 x2 v81).bind fun M82 =>
    f_X7_back_L41 N n x0 x1 (x2 + 1) M82)
set_option maxHeartbeats 4000000 in
set_option maxRecDepth 100000 in
theorem ok_X7_back_L41 {X : JX} (C : Cx X cX7_back RX7 3 (some .int) 1 25) (N : Nat) : ∀ (n : Nat) (x0 : Nat) (x1 : Int32) (x2 : Int32) (M : A_M) (r : Int32) (M' : A_M), f_X7_back_L41 N n x0 x1 x2 M = some (r, M') → J X 3 41 [(0, .ref x0), (1, .int x1), (2, .int x2)] [] M 0 0 (some (.int r)) M' := by
  intro n
  induction n with
  | zero =>
    intro x0 x1 x2 M r M' h
    cases h
  | succ n ih =>
    intro x0 x1 x2 M r M' h
    rw [f_X7_back_L41] at h
    refine J_iload_n (pc' := 42) C 2 dX7_back_41 rfl rfl rfl ?_
    refine J_aload_n (pc' := 43) C 0 dX7_back_42 rfl rfl rfl ?_
    obtain ⟨v43, e43, h⟩ := bd h
    refine jg_882 (pc' := 46) C dX7_back_43 rfl (gI_some e43) ?_
    refine J_icmp_ge (tgt := 89) (pc' := 49) C dX7_back_46 (by decide) rfl (fun c46 => ?_) (fun c46 => ?_)
    · rw [if_pos c46] at h
      refine J_aload_n (pc' := 90) C 0 dX7_back_89 rfl rfl rfl ?_
      obtain ⟨_, q90, h⟩ := bd h
      obtain ⟨M90, e90, h⟩ := bd h
      refine J_cV (pc' := 93) (st := []) (st2 := []) (cs2 := 0) (sl2 := 0) C 7 rfl rfl q90 (ok_X7_comes N e90) mw_X7_comes wq_1210 rfl dX7_back_90 rfl rfl (Nat.le_of_ble_eq_true rfl) (by decide) (by decide) rfl rfl rfl (Nat.zero_le _) (Nat.zero_le _) ?_
      refine J_iconst (pc' := 94) (v := (1 : Int32)) C dX7_back_93 rfl (by decide) ?_
      obtain ⟨rfl, rfl⟩ := rt2 h
      exact J_iret C dX7_back_94 (Nat.zero_le _) (Nat.zero_le _)
    · rw [if_neg c46] at h
      refine J_aload_n (pc' := 50) C 0 dX7_back_49 rfl rfl rfl ?_
      obtain ⟨v50, e50, h⟩ := bd h
      refine jg_886 (pc' := 53) C dX7_back_50 rfl (gR_some e50) ?_
      refine J_iload_n (pc' := 54) C 2 dX7_back_53 rfl rfl rfl ?_
      refine J_aload_n (pc' := 55) C 0 dX7_back_54 rfl rfl rfl ?_
      obtain ⟨v55, e55, h⟩ := bd h
      refine jg_933 (pc' := 58) C dX7_back_55 rfl (gR_some e55) ?_
      refine J_bipush (pc' := 60) (v := (24 : Int32)) C dX7_back_58 rfl (by decide) ?_
      refine J_iload_n (pc' := 61) C 1 dX7_back_60 rfl rfl rfl ?_
      refine J_imul (pc' := 62) C dX7_back_61 rfl ?_
      refine J_iload_n (pc' := 63) C 2 dX7_back_62 rfl rfl rfl ?_
      refine J_iadd (pc' := 64) C dX7_back_63 rfl ?_
      obtain ⟨v64, e64, h⟩ := bd h
      refine J_lald (pc' := 65) C dX7_back_64 rfl e64 ?_
      obtain ⟨M65, e65, h⟩ := bd h
      refine J_last (pc' := 66) C dX7_back_65 rfl e65 ?_
      refine J_aload_n (pc' := 67) C 0 dX7_back_66 rfl rfl rfl ?_
      obtain ⟨v67, e67, h⟩ := bd h
      refine jg_887 (pc' := 70) C dX7_back_67 rfl (gR_some e67) ?_
      refine J_iload_n (pc' := 71) C 2 dX7_back_70 rfl rfl rfl ?_
      refine J_aload_n (pc' := 72) C 0 dX7_back_71 rfl rfl rfl ?_
      obtain ⟨v72, e72, h⟩ := bd h
      refine jg_934 (pc' := 75) C dX7_back_72 rfl (gR_some e72) ?_
      refine J_bipush (pc' := 77) (v := (24 : Int32)) C dX7_back_75 rfl (by decide) ?_
      refine J_iload_n (pc' := 78) C 1 dX7_back_77 rfl rfl rfl ?_
      refine J_imul (pc' := 79) C dX7_back_78 rfl ?_
      refine J_iload_n (pc' := 80) C 2 dX7_back_79 rfl rfl rfl ?_
      refine J_iadd (pc' := 81) C dX7_back_80 rfl ?_
      obtain ⟨v81, e81, h⟩ := bd h
      refine J_iald (pc' := 82) C dX7_back_81 rfl e81 ?_
      obtain ⟨M82, e82, h⟩ := bd h
      refine J_iast (pc' := 83) C dX7_back_82 rfl e82 ?_
      refine J_iinc (pc' := 86) (lv' := [(2, .int (x2 + 1)), (0, .ref x0), (1, .int x1)]) C 2 dX7_back_83 rfl rfl rfl (by decide) rfl ?_
      refine J_goto (tgt := 41) C dX7_back_86 (by decide) ?_
      refine J_sub (lv' := [(0, .ref x0), (1, .int x1), (2, .int (x2 + 1))]) [1, 2, 0] rfl ?_
      exact ih _ _ _ _ _ _ h
def f_X7_back (N : Nat) (a0 : Nat) (a1 : Int32) (M : A_M) : Option (Int32 × A_M) :=
  bnd2 (f_X7_in N (a1.toInt64) (0 : Int64) (7 : Int64) M) fun v6 M6 =>
  if v6 = 0 then
  (some ((-1 : Int32), M6))
  else
  ((gR M6 a0 7 56).bind fun v13 =>
  (ldI M6 v13 a1).bind fun v17 =>
  if v17 = 0 then
  (some ((-1 : Int32), M6))
  else
  ((gR M6 a0 7 56).bind fun v24 =>
  (ldI M6 v24 a1).bind fun v28 =>
  (gI M6 a0 7 3).bind fun v30 =>
  if v28 = v30 then
  (f_X7_back_L41 N N a0 a1 (0 : Int32) M6)
  else
  (some ((-3 : Int32), M6))))
set_option maxHeartbeats 4000000 in
set_option maxRecDepth 100000 in
theorem ok_X7_back (N : Nat) {a0 : Nat} {a1 : Int32} {M : A_M} {r : Int32} {M' : A_M} (h : f_X7_back N a0 a1 M = some (r, M')) : Runs yX7_back cX7_back 3 (some .int) 1 25 0 0 [.ref a0, .int a1] M (some (.int r)) M' := by
  refine Runs.intro (by decide) (Nat.le_of_ble_eq_true rfl) (fun X C hnm hMC hMS => ?_)
  have C : Cx X cX7_back RX7 3 (some .int) 1 25 := C
  show J X 3 0 [(0, .ref a0), (1, .int a1)] [] M 0 0 (some (.int r)) M'
  unfold f_X7_back at h
  refine J_iload_n (pc' := 1) C 1 dX7_back_0 rfl rfl rfl ?_
  refine J_i2l (pc' := 2) C dX7_back_1 rfl ?_
  refine J_lconst (pc' := 3) (v := (0 : Int64)) C dX7_back_2 rfl (by decide) ?_
  refine J_ldc2 (pc' := 6) C dX7_back_3 rfl wq_1397 ?_
  obtain ⟨v6, M6, e6, h⟩ := bd2 h
  refine J_cS (pc' := 9) (st := []) (st2 := [.int v6]) (cs2 := 0) (sl2 := 0) C (ok_X7_in N e6) mw_X7_in wq_1057 rfl dX7_back_6 rfl rfl (Nat.le_of_ble_eq_true rfl) (by decide) (by decide) rfl rfl rfl (Nat.zero_le _) (Nat.zero_le _) ?_
  refine J_if_eq (tgt := 21) (pc' := 12) C dX7_back_9 (by decide) rfl (fun c9 => ?_) (fun c9 => ?_)
  · rw [if_pos c9] at h
    refine J_iconst (pc' := 22) (v := (-1 : Int32)) C dX7_back_21 rfl (by decide) ?_
    obtain ⟨rfl, rfl⟩ := rt2 h
    exact J_iret C dX7_back_22 (Nat.zero_le _) (Nat.zero_le _)
  · rw [if_neg c9] at h
    refine J_aload_n (pc' := 13) C 0 dX7_back_12 rfl rfl rfl ?_
    obtain ⟨v13, e13, h⟩ := bd h
    refine jg_935 (pc' := 16) C dX7_back_13 rfl (gR_some e13) ?_
    refine J_iload_n (pc' := 17) C 1 dX7_back_16 rfl rfl rfl ?_
    obtain ⟨v17, e17, h⟩ := bd h
    refine J_iald (pc' := 18) C dX7_back_17 rfl e17 ?_
    refine J_if_ne (tgt := 23) (pc' := 21) C dX7_back_18 (by decide) rfl (fun c18 => ?_) (fun c18 => ?_)
    · rw [if_neg c18] at h
      refine J_aload_n (pc' := 24) C 0 dX7_back_23 rfl rfl rfl ?_
      obtain ⟨v24, e24, h⟩ := bd h
      refine jg_935 (pc' := 27) C dX7_back_24 rfl (gR_some e24) ?_
      refine J_iload_n (pc' := 28) C 1 dX7_back_27 rfl rfl rfl ?_
      obtain ⟨v28, e28, h⟩ := bd h
      refine J_iald (pc' := 29) C dX7_back_28 rfl e28 ?_
      refine J_aload_n (pc' := 30) C 0 dX7_back_29 rfl rfl rfl ?_
      obtain ⟨v30, e30, h⟩ := bd h
      refine jg_882 (pc' := 33) C dX7_back_30 rfl (gI_some e30) ?_
      refine J_icmp_eq (tgt := 39) (pc' := 36) C dX7_back_33 (by decide) rfl (fun c33 => ?_) (fun c33 => ?_)
      · rw [if_pos c33] at h
        refine J_iconst (pc' := 40) (v := (0 : Int32)) C dX7_back_39 rfl (by decide) ?_
        refine J_istore_n (pc' := 41) (lv' := [(2, .int (0 : Int32)), (0, .ref a0), (1, .int a1)]) C dX7_back_40 rfl rfl (by decide) rfl ?_
        refine J_sub (lv' := [(0, .ref a0), (1, .int a1), (2, .int (0 : Int32))]) [1, 2, 0] rfl ?_
        exact ok_X7_back_L41 C N N _ _ _ _ _ _ h
      · rw [if_neg c33] at h
        refine J_bipush (pc' := 38) (v := (-3 : Int32)) C dX7_back_36 rfl (by decide) ?_
        obtain ⟨rfl, rfl⟩ := rt2 h
        exact J_iret C dX7_back_38 (Nat.zero_le _) (Nat.zero_le _)
    · rw [if_pos c18] at h
      refine J_iconst (pc' := 22) (v := (-1 : Int32)) C dX7_back_21 rfl (by decide) ?_
      obtain ⟨rfl, rfl⟩ := rt2 h
      exact J_iret C dX7_back_22 (Nat.zero_le _) (Nat.zero_le _)
def f_X7_differs_L35 (N : Nat) : Nat → Nat → Int32 → Int32 → A_M → Option (Int32 × A_M)
  | 0, _, _, _, _ => none
  | n + 1, x0, x1, x2, M =>
    (gI M x0 7 3).bind fun v37 =>
    if v37 ≤ x2 then
    (some ((-6 : Int32), M))
    else
    ((gR M x0 7 56).bind fun v45 =>
    (ldI M v45 x1).bind fun v49 =>
    if v49 ≤ x2 then
    (some ((-6 : Int32), M))
    else
    ((gR M x0 7 7).bind fun v54 =>
    (ldJ M v54 x2).bind fun v58 =>
    (gR M x0 7 54).bind fun v60 =>
    (ldJ M v60 (((24 : Int32) * x1) + x2)).bind fun v69 =>
    if (lg_cmp v58 v69) = 0 then
    ((gR M x0 7 8).bind fun v75 =>
    (ldI M v75 x2).bind fun v79 =>
    (gR M x0 7 55).bind fun v81 =>
    (ldI M v81 (((24 : Int32) * x1) + x2)).bind fun v90 =>
    if v79 = v90 then
    (f_X7_differs_L35 N n x0 x1 (x2 + 1) M)
    else
    (some (x2, M)))
    else
    (some (x2, M))))
set_option maxHeartbeats 4000000 in
set_option maxRecDepth 100000 in
theorem ok_X7_differs_L35 {X : JX} (C : Cx X cX7_differs RX7 3 (some .int) 1 25) (N : Nat) : ∀ (n : Nat) (x0 : Nat) (x1 : Int32) (x2 : Int32) (M : A_M) (r : Int32) (M' : A_M), f_X7_differs_L35 N n x0 x1 x2 M = some (r, M') → J X 3 35 [(0, .ref x0), (1, .int x1), (2, .int x2)] [] M 0 0 (some (.int r)) M' := by
  intro n
  induction n with
  | zero =>
    intro x0 x1 x2 M r M' h
    cases h
  | succ n ih =>
    intro x0 x1 x2 M r M' h
    rw [f_X7_differs_L35] at h
    refine J_iload_n (pc' := 36) C 2 dX7_differs_35 rfl rfl rfl ?_
    refine J_aload_n (pc' := 37) C 0 dX7_differs_36 rfl rfl rfl ?_
    obtain ⟨v37, e37, h⟩ := bd h
    refine jg_882 (pc' := 40) C dX7_differs_37 rfl (gI_some e37) ?_
    refine J_icmp_ge (tgt := 102) (pc' := 43) C dX7_differs_40 (by decide) rfl (fun c40 => ?_) (fun c40 => ?_)
    · rw [if_pos c40] at h
      refine J_bipush (pc' := 104) (v := (-6 : Int32)) C dX7_differs_102 rfl (by decide) ?_
      obtain ⟨rfl, rfl⟩ := rt2 h
      exact J_iret C dX7_differs_104 (Nat.zero_le _) (Nat.zero_le _)
    · rw [if_neg c40] at h
      refine J_iload_n (pc' := 44) C 2 dX7_differs_43 rfl rfl rfl ?_
      refine J_aload_n (pc' := 45) C 0 dX7_differs_44 rfl rfl rfl ?_
      obtain ⟨v45, e45, h⟩ := bd h
      refine jg_935 (pc' := 48) C dX7_differs_45 rfl (gR_some e45) ?_
      refine J_iload_n (pc' := 49) C 1 dX7_differs_48 rfl rfl rfl ?_
      obtain ⟨v49, e49, h⟩ := bd h
      refine J_iald (pc' := 50) C dX7_differs_49 rfl e49 ?_
      refine J_icmp_ge (tgt := 102) (pc' := 53) C dX7_differs_50 (by decide) rfl (fun c50 => ?_) (fun c50 => ?_)
      · rw [if_pos c50] at h
        refine J_bipush (pc' := 104) (v := (-6 : Int32)) C dX7_differs_102 rfl (by decide) ?_
        obtain ⟨rfl, rfl⟩ := rt2 h
        exact J_iret C dX7_differs_104 (Nat.zero_le _) (Nat.zero_le _)
      · rw [if_neg c50] at h
        refine J_aload_n (pc' := 54) C 0 dX7_differs_53 rfl rfl rfl ?_
        obtain ⟨v54, e54, h⟩ := bd h
        refine jg_886 (pc' := 57) C dX7_differs_54 rfl (gR_some e54) ?_
        refine J_iload_n (pc' := 58) C 2 dX7_differs_57 rfl rfl rfl ?_
        obtain ⟨v58, e58, h⟩ := bd h
        refine J_lald (pc' := 59) C dX7_differs_58 rfl e58 ?_
        refine J_aload_n (pc' := 60) C 0 dX7_differs_59 rfl rfl rfl ?_
        obtain ⟨v60, e60, h⟩ := bd h
        refine jg_933 (pc' := 63) C dX7_differs_60 rfl (gR_some e60) ?_
        refine J_bipush (pc' := 65) (v := (24 : Int32)) C dX7_differs_63 rfl (by decide) ?_
        refine J_iload_n (pc' := 66) C 1 dX7_differs_65 rfl rfl rfl ?_
        refine J_imul (pc' := 67) C dX7_differs_66 rfl ?_
        refine J_iload_n (pc' := 68) C 2 dX7_differs_67 rfl rfl rfl ?_
        refine J_iadd (pc' := 69) C dX7_differs_68 rfl ?_
        obtain ⟨v69, e69, h⟩ := bd h
        refine J_lald (pc' := 70) C dX7_differs_69 rfl e69 ?_
        refine J_lcmp (pc' := 71) C dX7_differs_70 rfl ?_
        refine J_if_ne (tgt := 94) (pc' := 74) C dX7_differs_71 (by decide) rfl (fun c71 => ?_) (fun c71 => ?_)
        · rw [if_neg c71] at h
          refine J_iload_n (pc' := 95) C 2 dX7_differs_94 rfl rfl rfl ?_
          obtain ⟨rfl, rfl⟩ := rt2 h
          exact J_iret C dX7_differs_95 (Nat.zero_le _) (Nat.zero_le _)
        · rw [if_pos c71] at h
          refine J_aload_n (pc' := 75) C 0 dX7_differs_74 rfl rfl rfl ?_
          obtain ⟨v75, e75, h⟩ := bd h
          refine jg_887 (pc' := 78) C dX7_differs_75 rfl (gR_some e75) ?_
          refine J_iload_n (pc' := 79) C 2 dX7_differs_78 rfl rfl rfl ?_
          obtain ⟨v79, e79, h⟩ := bd h
          refine J_iald (pc' := 80) C dX7_differs_79 rfl e79 ?_
          refine J_aload_n (pc' := 81) C 0 dX7_differs_80 rfl rfl rfl ?_
          obtain ⟨v81, e81, h⟩ := bd h
          refine jg_934 (pc' := 84) C dX7_differs_81 rfl (gR_some e81) ?_
          refine J_bipush (pc' := 86) (v := (24 : Int32)) C dX7_differs_84 rfl (by decide) ?_
          refine J_iload_n (pc' := 87) C 1 dX7_differs_86 rfl rfl rfl ?_
          refine J_imul (pc' := 88) C dX7_differs_87 rfl ?_
          refine J_iload_n (pc' := 89) C 2 dX7_differs_88 rfl rfl rfl ?_
          refine J_iadd (pc' := 90) C dX7_differs_89 rfl ?_
          obtain ⟨v90, e90, h⟩ := bd h
          refine J_iald (pc' := 91) C dX7_differs_90 rfl e90 ?_
          refine J_icmp_eq (tgt := 96) (pc' := 94) C dX7_differs_91 (by decide) rfl (fun c91 => ?_) (fun c91 => ?_)
          · rw [if_pos c91] at h
            refine J_iinc (pc' := 99) (lv' := [(2, .int (x2 + 1)), (0, .ref x0), (1, .int x1)]) C 2 dX7_differs_96 rfl rfl rfl (by decide) rfl ?_
            refine J_goto (tgt := 35) C dX7_differs_99 (by decide) ?_
            refine J_sub (lv' := [(0, .ref x0), (1, .int x1), (2, .int (x2 + 1))]) [1, 2, 0] rfl ?_
            exact ih _ _ _ _ _ _ h
          · rw [if_neg c91] at h
            refine J_iload_n (pc' := 95) C 2 dX7_differs_94 rfl rfl rfl ?_
            obtain ⟨rfl, rfl⟩ := rt2 h
            exact J_iret C dX7_differs_95 (Nat.zero_le _) (Nat.zero_le _)
def f_X7_differs (N : Nat) (a0 : Nat) (a1 : Int32) (M : A_M) : Option (Int32 × A_M) :=
  bnd2 (f_X7_in N (a1.toInt64) (0 : Int64) (7 : Int64) M) fun v6 M6 =>
  if v6 = 0 then
  (some ((-1 : Int32), M6))
  else
  ((gR M6 a0 7 56).bind fun v13 =>
  (ldI M6 v13 a1).bind fun v17 =>
  if v17 = 0 then
  (some ((-1 : Int32), M6))
  else
  ((gI M6 a0 7 4).bind fun v24 =>
  if v24 = 0 then
  (some ((-3 : Int32), M6))
  else
  (f_X7_differs_L35 N N a0 a1 (0 : Int32) M6)))
set_option maxHeartbeats 4000000 in
set_option maxRecDepth 100000 in
theorem ok_X7_differs (N : Nat) {a0 : Nat} {a1 : Int32} {M : A_M} {r : Int32} {M' : A_M} (h : f_X7_differs N a0 a1 M = some (r, M')) : Runs yX7_differs cX7_differs 3 (some .int) 1 25 0 0 [.ref a0, .int a1] M (some (.int r)) M' := by
  refine Runs.intro (by decide) (Nat.le_of_ble_eq_true rfl) (fun X C hnm hMC hMS => ?_)
  have C : Cx X cX7_differs RX7 3 (some .int) 1 25 := C
  show J X 3 0 [(0, .ref a0), (1, .int a1)] [] M 0 0 (some (.int r)) M'
  unfold f_X7_differs at h
  refine J_iload_n (pc' := 1) C 1 dX7_differs_0 rfl rfl rfl ?_
  refine J_i2l (pc' := 2) C dX7_differs_1 rfl ?_
  refine J_lconst (pc' := 3) (v := (0 : Int64)) C dX7_differs_2 rfl (by decide) ?_
  refine J_ldc2 (pc' := 6) C dX7_differs_3 rfl wq_1397 ?_
  obtain ⟨v6, M6, e6, h⟩ := bd2 h
  refine J_cS (pc' := 9) (st := []) (st2 := [.int v6]) (cs2 := 0) (sl2 := 0) C (ok_X7_in N e6) mw_X7_in wq_1057 rfl dX7_differs_6 rfl rfl (Nat.le_of_ble_eq_true rfl) (by decide) (by decide) rfl rfl rfl (Nat.zero_le _) (Nat.zero_le _) ?_
  refine J_if_eq (tgt := 21) (pc' := 12) C dX7_differs_9 (by decide) rfl (fun c9 => ?_) (fun c9 => ?_)
  · rw [if_pos c9] at h
    refine J_iconst (pc' := 22) (v := (-1 : Int32)) C dX7_differs_21 rfl (by decide) ?_
    obtain ⟨rfl, rfl⟩ := rt2 h
    exact J_iret C dX7_differs_22 (Nat.zero_le _) (Nat.zero_le _)
  · rw [if_neg c9] at h
    refine J_aload_n (pc' := 13) C 0 dX7_differs_12 rfl rfl rfl ?_
    obtain ⟨v13, e13, h⟩ := bd h
    refine jg_935 (pc' := 16) C dX7_differs_13 rfl (gR_some e13) ?_
    refine J_iload_n (pc' := 17) C 1 dX7_differs_16 rfl rfl rfl ?_
    obtain ⟨v17, e17, h⟩ := bd h
    refine J_iald (pc' := 18) C dX7_differs_17 rfl e17 ?_
    refine J_if_ne (tgt := 23) (pc' := 21) C dX7_differs_18 (by decide) rfl (fun c18 => ?_) (fun c18 => ?_)
    · rw [if_neg c18] at h
      refine J_aload_n (pc' := 24) C 0 dX7_differs_23 rfl rfl rfl ?_
      obtain ⟨v24, e24, h⟩ := bd h
      refine jg_883 (pc' := 27) C dX7_differs_24 rfl (gI_some e24) ?_
      refine J_if_ne (tgt := 33) (pc' := 30) C dX7_differs_27 (by decide) rfl (fun c27 => ?_) (fun c27 => ?_)
      · rw [if_neg c27] at h
        refine J_iconst (pc' := 34) (v := (0 : Int32)) C dX7_differs_33 rfl (by decide) ?_
        refine J_istore_n (pc' := 35) (lv' := [(2, .int (0 : Int32)), (0, .ref a0), (1, .int a1)]) C dX7_differs_34 rfl rfl (by decide) rfl ?_
        refine J_sub (lv' := [(0, .ref a0), (1, .int a1), (2, .int (0 : Int32))]) [1, 2, 0] rfl ?_
        exact ok_X7_differs_L35 C N N _ _ _ _ _ _ h
      · rw [if_pos c27] at h
        refine J_bipush (pc' := 32) (v := (-3 : Int32)) C dX7_differs_30 rfl (by decide) ?_
        obtain ⟨rfl, rfl⟩ := rt2 h
        exact J_iret C dX7_differs_32 (Nat.zero_le _) (Nat.zero_le _)
    · rw [if_pos c18] at h
      refine J_iconst (pc' := 22) (v := (-1 : Int32)) C dX7_differs_21 rfl (by decide) ?_
      obtain ⟨rfl, rfl⟩ := rt2 h
      exact J_iret C dX7_differs_22 (Nat.zero_le _) (Nat.zero_le _)
def f_X7_told_K127 (N : Nat) (k106 : Nat → Int32 → Int32 → A_M → Option (Int32 × A_M)) (x0 : Nat) (x3 : Int32) (s0 : Int32) (s1 : Int32) (M : A_M) : Option (Int32 × A_M) :=
  k106 x0 (s1 + s0) (x3 + 1) M
set_option maxHeartbeats 4000000 in
set_option maxRecDepth 100000 in
theorem ok_X7_told_K127 {X : JX} (C : Cx X cX7_told RX7 4 (some .int) 4 96) (N : Nat) {k106 : Nat → Int32 → Int32 → A_M → Option (Int32 × A_M)} (hk106 : ∀ (x0 : Nat) (x2 : Int32) (x3 : Int32) (M : A_M) (r : Int32) (M' : A_M), k106 x0 x2 x3 M = some (r, M') → J X 4 106 [(0, .ref x0), (2, .int x2), (3, .int x3)] [] M 0 0 (some (.int r)) M') : ∀ (x0 : Nat) (x3 : Int32) (s0 : Int32) (s1 : Int32) (M : A_M) (r : Int32) (M' : A_M), f_X7_told_K127 N k106 x0 x3 s0 s1 M = some (r, M') → J X 4 127 [(0, .ref x0), (3, .int x3)] [.int s0, .int s1] M 0 0 (some (.int r)) M' := by
  intro x0 x3 s0 s1 M r M' h
  unfold f_X7_told_K127 at h
  refine J_iadd (pc' := 128) C dX7_told_127 rfl ?_
  refine J_istore_n (pc' := 129) (lv' := [(2, .int (s1 + s0)), (0, .ref x0), (3, .int x3)]) C dX7_told_128 rfl rfl (by decide) rfl ?_
  refine J_iinc (pc' := 132) (lv' := [(3, .int (x3 + 1)), (2, .int (s1 + s0)), (0, .ref x0)]) C 2 dX7_told_129 rfl rfl rfl (by decide) rfl ?_
  refine J_goto (tgt := 106) C dX7_told_132 (by decide) ?_
  refine J_sub (lv' := [(0, .ref x0), (2, .int (s1 + s0)), (3, .int (x3 + 1))]) [2, 1, 0] rfl ?_
  exact hk106 _ _ _ _ _ _ h
def f_X7_told_L106 (N : Nat) : Nat → Nat → Int32 → Int32 → A_M → Option (Int32 × A_M)
  | 0, _, _, _, _ => none
  | n + 1, x0, x2, x3, M =>
    if (8 : Int32) ≤ x3 then
    (some (x2, M))
    else
    ((gR M x0 7 56).bind fun v114 =>
    (ldI M v114 x3).bind fun v118 =>
    if v118 ≤ 0 then
    (f_X7_told_K127 N (f_X7_told_L106 N n) x0 x3 (0 : Int32) x2 M)
    else
    (f_X7_told_K127 N (f_X7_told_L106 N n) x0 x3 (1 : Int32) x2 M))
set_option maxHeartbeats 4000000 in
set_option maxRecDepth 100000 in
theorem ok_X7_told_L106 {X : JX} (C : Cx X cX7_told RX7 4 (some .int) 4 96) (N : Nat) : ∀ (n : Nat) (x0 : Nat) (x2 : Int32) (x3 : Int32) (M : A_M) (r : Int32) (M' : A_M), f_X7_told_L106 N n x0 x2 x3 M = some (r, M') → J X 4 106 [(0, .ref x0), (2, .int x2), (3, .int x3)] [] M 0 0 (some (.int r)) M' := by
  intro n
  induction n with
  | zero =>
    intro x0 x2 x3 M r M' h
    cases h
  | succ n ih =>
    intro x0 x2 x3 M r M' h
    rw [f_X7_told_L106] at h
    refine J_iload_n (pc' := 107) C 2 dX7_told_106 rfl rfl rfl ?_
    refine J_bipush (pc' := 109) (v := (8 : Int32)) C dX7_told_107 rfl (by decide) ?_
    refine J_icmp_ge (tgt := 135) (pc' := 112) C dX7_told_109 (by decide) rfl (fun c109 => ?_) (fun c109 => ?_)
    · rw [if_pos c109] at h
      refine J_iload_n (pc' := 136) C 1 dX7_told_135 rfl rfl rfl ?_
      obtain ⟨rfl, rfl⟩ := rt2 h
      exact J_iret C dX7_told_136 (Nat.zero_le _) (Nat.zero_le _)
    · rw [if_neg c109] at h
      refine J_iload_n (pc' := 113) C 1 dX7_told_112 rfl rfl rfl ?_
      refine J_aload_n (pc' := 114) C 0 dX7_told_113 rfl rfl rfl ?_
      obtain ⟨v114, e114, h⟩ := bd h
      refine jg_935 (pc' := 117) C dX7_told_114 rfl (gR_some e114) ?_
      refine J_iload_n (pc' := 118) C 2 dX7_told_117 rfl rfl rfl ?_
      obtain ⟨v118, e118, h⟩ := bd h
      refine J_iald (pc' := 119) C dX7_told_118 rfl e118 ?_
      refine J_if_le (tgt := 126) (pc' := 122) C dX7_told_119 (by decide) rfl (fun c119 => ?_) (fun c119 => ?_)
      · rw [if_pos c119] at h
        refine J_iconst (pc' := 127) (v := (0 : Int32)) C dX7_told_126 rfl (by decide) ?_
        refine J_sub (lv' := [(0, .ref x0), (3, .int x3)]) [0, 2] rfl ?_
        exact ok_X7_told_K127 C N ih _ _ _ _ _ _ _ h
      · rw [if_neg c119] at h
        refine J_iconst (pc' := 123) (v := (1 : Int32)) C dX7_told_122 rfl (by decide) ?_
        refine J_goto (tgt := 127) C dX7_told_123 (by decide) ?_
        refine J_sub (lv' := [(0, .ref x0), (3, .int x3)]) [0, 2] rfl ?_
        exact ok_X7_told_K127 C N ih _ _ _ _ _ _ _ h
def f_X7_told (N : Nat) (a0 : Nat) (a1 : Int32) (M : A_M) : Option (Int32 × A_M) :=
  if a1 = 0 then
  ((gI M a0 7 1).bind fun v45 =>
  some (v45, M))
  else
  if a1 = 1 then
  ((gI M a0 7 3).bind fun v50 =>
  some (v50, M))
  else
  if a1 = 2 then
  ((gI M a0 7 44).bind fun v55 =>
  some (v55, M))
  else
  if a1 = 3 then
  ((gI M a0 7 4).bind fun v60 =>
  if v60 = 0 then
  (some ((0 : Int32), M))
  else
  (some ((1 : Int32), M)))
  else
  if a1 = 4 then
  ((gI M a0 7 4).bind fun v73 =>
  if v73 = 0 then
  (some ((0 : Int32), M))
  else
  ((chk M a0 7).bind fun _ =>
  bnd2 (f_X7_isFree N a0 M) fun v80 M80 =>
  if v80 = 0 then
  (some ((0 : Int32), M80))
  else
  ((chk M80 a0 7).bind fun _ =>
  (f_X7_findPlaces N a0 M80).bind fun M89 =>
  (gI M89 a0 7 40).bind fun v93 =>
  some (v93, M89))))
  else
  if a1 = 5 then
  ((gI M a0 7 50).bind fun v98 =>
  some (v98, M))
  else
  if a1 = 6 then
  (f_X7_told_L106 N N a0 (0 : Int32) (0 : Int32) M)
  else
  (some ((-2 : Int32), M))
set_option maxHeartbeats 4000000 in
set_option maxRecDepth 100000 in
theorem ok_X7_told (N : Nat) {a0 : Nat} {a1 : Int32} {M : A_M} {r : Int32} {M' : A_M} (h : f_X7_told N a0 a1 M = some (r, M')) : Runs yX7_told cX7_told 4 (some .int) 4 96 0 0 [.ref a0, .int a1] M (some (.int r)) M' := by
  refine Runs.intro (by decide) (Nat.le_of_ble_eq_true rfl) (fun X C hnm hMC hMS => ?_)
  have C : Cx X cX7_told RX7 4 (some .int) 4 96 := C
  show J X 4 0 [(0, .ref a0), (1, .int a1)] [] M 0 0 (some (.int r)) M'
  unfold f_X7_told at h
  refine J_iload_n (pc' := 1) C 1 dX7_told_0 rfl rfl rfl ?_
  by_cases k0 : a1 = 0
  · rw [if_pos k0] at h
    refine J_tableIn (tgt := 44) (off := 43) C dX7_told_1 (by rw [k0]; decide) (by rw [k0]; decide) (by rw [k0]; rfl) (by decide) ?_
    refine J_aload_n (pc' := 45) C 0 dX7_told_44 rfl rfl rfl ?_
    obtain ⟨v45, e45, h⟩ := bd h
    refine jg_880 (pc' := 48) C dX7_told_45 rfl (gI_some e45) ?_
    obtain ⟨rfl, rfl⟩ := rt2 h
    exact J_iret C dX7_told_48 (Nat.zero_le _) (Nat.zero_le _)
  · rw [if_neg k0] at h
    by_cases k1 : a1 = 1
    · rw [if_pos k1] at h
      refine J_tableIn (tgt := 49) (off := 48) C dX7_told_1 (by rw [k1]; decide) (by rw [k1]; decide) (by rw [k1]; rfl) (by decide) ?_
      refine J_aload_n (pc' := 50) C 0 dX7_told_49 rfl rfl rfl ?_
      obtain ⟨v50, e50, h⟩ := bd h
      refine jg_882 (pc' := 53) C dX7_told_50 rfl (gI_some e50) ?_
      obtain ⟨rfl, rfl⟩ := rt2 h
      exact J_iret C dX7_told_53 (Nat.zero_le _) (Nat.zero_le _)
    · rw [if_neg k1] at h
      by_cases k2 : a1 = 2
      · rw [if_pos k2] at h
        refine J_tableIn (tgt := 54) (off := 53) C dX7_told_1 (by rw [k2]; decide) (by rw [k2]; decide) (by rw [k2]; rfl) (by decide) ?_
        refine J_aload_n (pc' := 55) C 0 dX7_told_54 rfl rfl rfl ?_
        obtain ⟨v55, e55, h⟩ := bd h
        refine jg_923 (pc' := 58) C dX7_told_55 rfl (gI_some e55) ?_
        obtain ⟨rfl, rfl⟩ := rt2 h
        exact J_iret C dX7_told_58 (Nat.zero_le _) (Nat.zero_le _)
      · rw [if_neg k2] at h
        by_cases k3 : a1 = 3
        · rw [if_pos k3] at h
          refine J_tableIn (tgt := 59) (off := 58) C dX7_told_1 (by rw [k3]; decide) (by rw [k3]; decide) (by rw [k3]; rfl) (by decide) ?_
          refine J_aload_n (pc' := 60) C 0 dX7_told_59 rfl rfl rfl ?_
          obtain ⟨v60, e60, h⟩ := bd h
          refine jg_883 (pc' := 63) C dX7_told_60 rfl (gI_some e60) ?_
          refine J_if_eq (tgt := 70) (pc' := 66) C dX7_told_63 (by decide) rfl (fun c63 => ?_) (fun c63 => ?_)
          · rw [if_pos c63] at h
            refine J_iconst (pc' := 71) (v := (0 : Int32)) C dX7_told_70 rfl (by decide) ?_
            obtain ⟨rfl, rfl⟩ := rt2 h
            exact J_iret C dX7_told_71 (Nat.zero_le _) (Nat.zero_le _)
          · rw [if_neg c63] at h
            refine J_iconst (pc' := 67) (v := (1 : Int32)) C dX7_told_66 rfl (by decide) ?_
            refine J_goto (tgt := 71) C dX7_told_67 (by decide) ?_
            obtain ⟨rfl, rfl⟩ := rt2 h
            exact J_iret C dX7_told_71 (Nat.zero_le _) (Nat.zero_le _)
        · rw [if_neg k3] at h
          by_cases k4 : a1 = 4
          · rw [if_pos k4] at h
            refine J_tableIn (tgt := 72) (off := 71) C dX7_told_1 (by rw [k4]; decide) (by rw [k4]; decide) (by rw [k4]; rfl) (by decide) ?_
            refine J_aload_n (pc' := 73) C 0 dX7_told_72 rfl rfl rfl ?_
            obtain ⟨v73, e73, h⟩ := bd h
            refine jg_883 (pc' := 76) C dX7_told_73 rfl (gI_some e73) ?_
            refine J_if_eq (tgt := 86) (pc' := 79) C dX7_told_76 (by decide) rfl (fun c76 => ?_) (fun c76 => ?_)
            · rw [if_pos c76] at h
              refine J_iconst (pc' := 87) (v := (0 : Int32)) C dX7_told_86 rfl (by decide) ?_
              obtain ⟨rfl, rfl⟩ := rt2 h
              exact J_iret C dX7_told_87 (Nat.zero_le _) (Nat.zero_le _)
            · rw [if_neg c76] at h
              refine J_aload_n (pc' := 80) C 0 dX7_told_79 rfl rfl rfl ?_
              obtain ⟨_, q80, h⟩ := bd h
              obtain ⟨v80, M80, e80, h⟩ := bd2 h
              refine J_cV (pc' := 83) (st := []) (st2 := [.int v80]) (cs2 := 0) (sl2 := 0) C 7 rfl rfl q80 (ok_X7_isFree N e80) mw_X7_isFree wq_1290 rfl dX7_told_80 rfl rfl (Nat.le_of_ble_eq_true rfl) (by decide) (by decide) rfl rfl rfl (Nat.zero_le _) (Nat.zero_le _) ?_
              refine J_if_ne (tgt := 88) (pc' := 86) C dX7_told_83 (by decide) rfl (fun c83 => ?_) (fun c83 => ?_)
              · rw [if_neg c83] at h
                refine J_aload_n (pc' := 89) C 0 dX7_told_88 rfl rfl rfl ?_
                obtain ⟨_, q89, h⟩ := bd h
                obtain ⟨M89, e89, h⟩ := bd h
                refine J_cV (pc' := 92) (st := []) (st2 := []) (cs2 := 0) (sl2 := 0) C 7 rfl rfl q89 (ok_X7_findPlaces N e89) mw_X7_findPlaces wq_1294 rfl dX7_told_89 rfl rfl (Nat.le_of_ble_eq_true rfl) (by decide) (by decide) rfl rfl rfl (Nat.zero_le _) (Nat.zero_le _) ?_
                refine J_aload_n (pc' := 93) C 0 dX7_told_92 rfl rfl rfl ?_
                obtain ⟨v93, e93, h⟩ := bd h
                refine jg_919 (pc' := 96) C dX7_told_93 rfl (gI_some e93) ?_
                obtain ⟨rfl, rfl⟩ := rt2 h
                exact J_iret C dX7_told_96 (Nat.zero_le _) (Nat.zero_le _)
              · rw [if_pos c83] at h
                refine J_iconst (pc' := 87) (v := (0 : Int32)) C dX7_told_86 rfl (by decide) ?_
                obtain ⟨rfl, rfl⟩ := rt2 h
                exact J_iret C dX7_told_87 (Nat.zero_le _) (Nat.zero_le _)
          · rw [if_neg k4] at h
            by_cases k5 : a1 = 5
            · rw [if_pos k5] at h
              refine J_tableIn (tgt := 97) (off := 96) C dX7_told_1 (by rw [k5]; decide) (by rw [k5]; decide) (by rw [k5]; rfl) (by decide) ?_
              refine J_aload_n (pc' := 98) C 0 dX7_told_97 rfl rfl rfl ?_
              obtain ⟨v98, e98, h⟩ := bd h
              refine jg_929 (pc' := 101) C dX7_told_98 rfl (gI_some e98) ?_
              obtain ⟨rfl, rfl⟩ := rt2 h
              exact J_iret C dX7_told_101 (Nat.zero_le _) (Nat.zero_le _)
            · rw [if_neg k5] at h
              by_cases k6 : a1 = 6
              · rw [if_pos k6] at h
                refine J_tableIn (tgt := 102) (off := 101) C dX7_told_1 (by rw [k6]; decide) (by rw [k6]; decide) (by rw [k6]; rfl) (by decide) ?_
                refine J_iconst (pc' := 103) (v := (0 : Int32)) C dX7_told_102 rfl (by decide) ?_
                refine J_istore_n (pc' := 104) (lv' := [(2, .int (0 : Int32)), (0, .ref a0), (1, .int a1)]) C dX7_told_103 rfl rfl (by decide) rfl ?_
                refine J_iconst (pc' := 105) (v := (0 : Int32)) C dX7_told_104 rfl (by decide) ?_
                refine J_istore_n (pc' := 106) (lv' := [(3, .int (0 : Int32)), (2, .int (0 : Int32)), (0, .ref a0), (1, .int a1)]) C dX7_told_105 rfl rfl (by decide) rfl ?_
                refine J_sub (lv' := [(0, .ref a0), (2, .int (0 : Int32)), (3, .int (0 : Int32))]) [2, 1, 0] rfl ?_
                exact ok_X7_told_L106 C N N _ _ _ _ _ _ h
              · rw [if_neg k6] at h
                refine J_tableOut (tgt := 137) C dX7_told_1 (sw06 k0 k1 k2 k3 k4 k5 k6) (by decide) ?_
                refine J_bipush (pc' := 139) (v := (-2 : Int32)) C dX7_told_137 rfl (by decide) ?_
                obtain ⟨rfl, rfl⟩ := rt2 h
                exact J_iret C dX7_told_139 (Nat.zero_le _) (Nat.zero_le _)
def f_X7_price (N : Nat) (a0 : Nat) (a1 : Int32) (M : A_M) : Option (Int32 × A_M) :=
  (chk M a0 7).bind fun _ =>
  bnd2 (f_X7_isSign N a0 a1 M) fun v2 M2 =>
  if v2 = 0 then
  (some ((-1 : Int32), M2))
  else
  ((gR M2 a0 7 0).bind fun v9 =>
  (ldI M2 v9 a1).bind fun v13 =>
  some (v13, M2))
set_option maxHeartbeats 4000000 in
set_option maxRecDepth 100000 in
theorem ok_X7_price (N : Nat) {a0 : Nat} {a1 : Int32} {M : A_M} {r : Int32} {M' : A_M} (h : f_X7_price N a0 a1 M = some (r, M')) : Runs yX7_price cX7_price 2 (some .int) 2 46 0 0 [.ref a0, .int a1] M (some (.int r)) M' := by
  refine Runs.intro (by decide) (Nat.le_of_ble_eq_true rfl) (fun X C hnm hMC hMS => ?_)
  have C : Cx X cX7_price RX7 2 (some .int) 2 46 := C
  show J X 2 0 [(0, .ref a0), (1, .int a1)] [] M 0 0 (some (.int r)) M'
  unfold f_X7_price at h
  refine J_aload_n (pc' := 1) C 0 dX7_price_0 rfl rfl rfl ?_
  refine J_iload_n (pc' := 2) C 1 dX7_price_1 rfl rfl rfl ?_
  obtain ⟨_, q2, h⟩ := bd h
  obtain ⟨v2, M2, e2, h⟩ := bd2 h
  refine J_cV (pc' := 5) (st := []) (st2 := [.int v2]) (cs2 := 0) (sl2 := 0) C 7 rfl rfl q2 (ok_X7_isSign N e2) mw_X7_isSign wq_1111 rfl dX7_price_2 rfl rfl (Nat.le_of_ble_eq_true rfl) (by decide) (by decide) rfl rfl rfl (Nat.zero_le _) (Nat.zero_le _) ?_
  refine J_if_eq (tgt := 17) (pc' := 8) C dX7_price_5 (by decide) rfl (fun c5 => ?_) (fun c5 => ?_)
  · rw [if_pos c5] at h
    refine J_iconst (pc' := 18) (v := (-1 : Int32)) C dX7_price_17 rfl (by decide) ?_
    obtain ⟨rfl, rfl⟩ := rt2 h
    exact J_iret C dX7_price_18 (Nat.zero_le _) (Nat.zero_le _)
  · rw [if_neg c5] at h
    refine J_aload_n (pc' := 9) C 0 dX7_price_8 rfl rfl rfl ?_
    obtain ⟨v9, e9, h⟩ := bd h
    refine jg_879 (pc' := 12) C dX7_price_9 rfl (gR_some e9) ?_
    refine J_iload_n (pc' := 13) C 1 dX7_price_12 rfl rfl rfl ?_
    obtain ⟨v13, e13, h⟩ := bd h
    refine J_iald (pc' := 14) C dX7_price_13 rfl e13 ?_
    refine J_goto (tgt := 18) C dX7_price_14 (by decide) ?_
    obtain ⟨rfl, rfl⟩ := rt2 h
    exact J_iret C dX7_price_18 (Nat.zero_le _) (Nat.zero_le _)
def f_X7_rank (N : Nat) (a0 : Nat) (a1 : Int32) (M : A_M) : Option (Int32 × A_M) :=
  (gI M a0 7 3).bind fun v4 =>
  bnd2 (f_X7_in N (a1.toInt64) (0 : Int64) ((v4 - (1 : Int32)).toInt64) M) fun v10 M10 =>
  if v10 = 0 then
  (some ((-1 : Int32), M10))
  else
  ((gR M10 a0 7 2).bind fun v20 =>
  (chk M10 a0 7).bind fun _ =>
  (f_X7_rankBy N a0 v20 M10).bind fun M23 =>
  (gR M23 a0 7 10).bind fun v27 =>
  (ldI M23 v27 a1).bind fun v31 =>
  some (v31, M23))
set_option maxHeartbeats 4000000 in
set_option maxRecDepth 100000 in
theorem ok_X7_rank (N : Nat) {a0 : Nat} {a1 : Int32} {M : A_M} {r : Int32} {M' : A_M} (h : f_X7_rank N a0 a1 M = some (r, M')) : Runs yX7_rank cX7_rank 2 (some .int) 1 25 0 0 [.ref a0, .int a1] M (some (.int r)) M' := by
  refine Runs.intro (by decide) (Nat.le_of_ble_eq_true rfl) (fun X C hnm hMC hMS => ?_)
  have C : Cx X cX7_rank RX7 2 (some .int) 1 25 := C
  show J X 2 0 [(0, .ref a0), (1, .int a1)] [] M 0 0 (some (.int r)) M'
  unfold f_X7_rank at h
  refine J_iload_n (pc' := 1) C 1 dX7_rank_0 rfl rfl rfl ?_
  refine J_i2l (pc' := 2) C dX7_rank_1 rfl ?_
  refine J_lconst (pc' := 3) (v := (0 : Int64)) C dX7_rank_2 rfl (by decide) ?_
  refine J_aload_n (pc' := 4) C 0 dX7_rank_3 rfl rfl rfl ?_
  obtain ⟨v4, e4, h⟩ := bd h
  refine jg_882 (pc' := 7) C dX7_rank_4 rfl (gI_some e4) ?_
  refine J_iconst (pc' := 8) (v := (1 : Int32)) C dX7_rank_7 rfl (by decide) ?_
  refine J_isub (pc' := 9) C dX7_rank_8 rfl ?_
  refine J_i2l (pc' := 10) C dX7_rank_9 rfl ?_
  obtain ⟨v10, M10, e10, h⟩ := bd2 h
  refine J_cS (pc' := 13) (st := []) (st2 := [.int v10]) (cs2 := 0) (sl2 := 0) C (ok_X7_in N e10) mw_X7_in wq_1057 rfl dX7_rank_10 rfl rfl (Nat.le_of_ble_eq_true rfl) (by decide) (by decide) rfl rfl rfl (Nat.zero_le _) (Nat.zero_le _) ?_
  refine J_if_ne (tgt := 18) (pc' := 16) C dX7_rank_13 (by decide) rfl (fun c13 => ?_) (fun c13 => ?_)
  · rw [if_neg c13] at h
    refine J_aload_n (pc' := 19) C 0 dX7_rank_18 rfl rfl rfl ?_
    refine J_aload_n (pc' := 20) C 0 dX7_rank_19 rfl rfl rfl ?_
    obtain ⟨v20, e20, h⟩ := bd h
    refine jg_881 (pc' := 23) C dX7_rank_20 rfl (gR_some e20) ?_
    obtain ⟨_, q23, h⟩ := bd h
    obtain ⟨M23, e23, h⟩ := bd h
    refine J_cV (pc' := 26) (st := []) (st2 := []) (cs2 := 0) (sl2 := 0) C 7 rfl rfl q23 (ok_X7_rankBy N e23) mw_X7_rankBy wq_1132 rfl dX7_rank_23 rfl rfl (Nat.le_of_ble_eq_true rfl) (by decide) (by decide) rfl rfl rfl (Nat.zero_le _) (Nat.zero_le _) ?_
    refine J_aload_n (pc' := 27) C 0 dX7_rank_26 rfl rfl rfl ?_
    obtain ⟨v27, e27, h⟩ := bd h
    refine jg_889 (pc' := 30) C dX7_rank_27 rfl (gR_some e27) ?_
    refine J_iload_n (pc' := 31) C 1 dX7_rank_30 rfl rfl rfl ?_
    obtain ⟨v31, e31, h⟩ := bd h
    refine J_iald (pc' := 32) C dX7_rank_31 rfl e31 ?_
    obtain ⟨rfl, rfl⟩ := rt2 h
    exact J_iret C dX7_rank_32 (Nat.zero_le _) (Nat.zero_le _)
  · rw [if_pos c13] at h
    refine J_iconst (pc' := 17) (v := (-1 : Int32)) C dX7_rank_16 rfl (by decide) ?_
    obtain ⟨rfl, rfl⟩ := rt2 h
    exact J_iret C dX7_rank_17 (Nat.zero_le _) (Nat.zero_le _)
