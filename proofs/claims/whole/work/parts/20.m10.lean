def f_X7_goOn_K53 (N : Nat) (k2 : Nat → Int32 → Int32 → Int32 → A_M → Option A_M) (x0 : Nat) (x1 : Int32) (x2 : Int32) (x3 : Int32) (s0 : Int32) (s1 : Int32) (s2 : Int32) (s3 : Int64) (s4 : Nat) (M : A_M) : Option A_M :=
  (chk M s4 7).bind fun _ =>
  (f_X7_open N s4 s3 s2 (s1 + s0) M).bind fun M54 =>
  k2 x0 x1 x2 (x3 + 1) M54
set_option maxHeartbeats 4000000 in
set_option maxRecDepth 100000 in
theorem ok_X7_goOn_K53 {X : JX} (C : Cx X cX7_goOn RX7 4 none 1 24) (N : Nat) {k2 : Nat → Int32 → Int32 → Int32 → A_M → Option A_M} (hk2 : ∀ (x0 : Nat) (x1 : Int32) (x2 : Int32) (x3 : Int32) (M : A_M) (M' : A_M), k2 x0 x1 x2 x3 M = some M' → J X 4 2 [(0, .ref x0), (1, .int x1), (2, .int x2), (3, .int x3)] [] M 0 0 none M') : ∀ (x0 : Nat) (x1 : Int32) (x2 : Int32) (x3 : Int32) (s0 : Int32) (s1 : Int32) (s2 : Int32) (s3 : Int64) (s4 : Nat) (M : A_M) (M' : A_M), f_X7_goOn_K53 N k2 x0 x1 x2 x3 s0 s1 s2 s3 s4 M = some M' → J X 4 53 [(0, .ref x0), (1, .int x1), (2, .int x2), (3, .int x3)] [.int s0, .int s1, .int s2, .long s3, .ref s4] M 0 0 none M' := by
  intro x0 x1 x2 x3 s0 s1 s2 s3 s4 M M' h
  unfold f_X7_goOn_K53 at h
  refine J_iadd (pc' := 54) C dX7_goOn_53 rfl ?_
  obtain ⟨_, q54, h⟩ := bd h
  obtain ⟨M54, e54, h⟩ := bd h
  refine J_cV (pc' := 57) (st := []) (st2 := []) (cs2 := 0) (sl2 := 0) C 7 rfl rfl q54 (ok_X7_open N e54) mw_X7_open wq_1167 rfl dX7_goOn_54 rfl rfl (Nat.le_of_ble_eq_true rfl) (by decide) (by decide) rfl rfl rfl (Nat.zero_le _) (Nat.zero_le _) ?_
  refine J_iinc (pc' := 60) (lv' := [(3, .int (x3 + 1)), (0, .ref x0), (1, .int x1), (2, .int x2)]) C 3 dX7_goOn_57 rfl rfl rfl (by decide) rfl ?_
  refine J_goto (tgt := 2) C dX7_goOn_60 (by decide) ?_
  refine J_sub (lv' := [(0, .ref x0), (1, .int x1), (2, .int x2), (3, .int (x3 + 1))]) [1, 2, 3, 0] rfl ?_
  exact hk2 _ _ _ _ _ _ h
def f_X7_goOn_L2 (N : Nat) : Nat → Nat → Int32 → Int32 → Int32 → A_M → Option A_M
  | 0, _, _, _, _, _ => none
  | n + 1, x0, x1, x2, x3, M =>
    (gI M x0 7 1).bind fun v4 =>
    if v4 ≤ x3 then
    (some M)
    else
    ((gR M x0 7 18).bind fun v12 =>
    (ldJ M v12 x1).bind fun v16 =>
    (gR M x0 7 19).bind fun v18 =>
    (ldI M v18 x1).bind fun v22 =>
    bnd2 (f_X7_with N v16 v22 x3 M) fun v24 M24 =>
    (gR M24 x0 7 19).bind fun v28 =>
    (ldI M24 v28 x1).bind fun v32 =>
    (gI M24 x0 7 14).bind fun v37 =>
    if v37 = 0 then
    ((gR M24 x0 7 0).bind fun v48 =>
    (ldI M24 v48 x3).bind fun v52 =>
    f_X7_goOn_K53 N (f_X7_goOn_L2 N n) x0 x1 x2 x3 v52 x2 (v32 + (1 : Int32)) v24 x0 M24)
    else
    (f_X7_goOn_K53 N (f_X7_goOn_L2 N n) x0 x1 x2 x3 (1 : Int32) x2 (v32 + (1 : Int32)) v24 x0 M24))
set_option maxHeartbeats 4000000 in
set_option maxRecDepth 100000 in
theorem ok_X7_goOn_L2 {X : JX} (C : Cx X cX7_goOn RX7 4 none 1 24) (N : Nat) : ∀ (n : Nat) (x0 : Nat) (x1 : Int32) (x2 : Int32) (x3 : Int32) (M : A_M) (M' : A_M), f_X7_goOn_L2 N n x0 x1 x2 x3 M = some M' → J X 4 2 [(0, .ref x0), (1, .int x1), (2, .int x2), (3, .int x3)] [] M 0 0 none M' := by
  intro n
  induction n with
  | zero =>
    intro x0 x1 x2 x3 M M' h
    cases h
  | succ n ih =>
    intro x0 x1 x2 x3 M M' h
    rw [f_X7_goOn_L2] at h
    refine J_iload_n (pc' := 3) C 3 dX7_goOn_2 rfl rfl rfl ?_
    refine J_aload_n (pc' := 4) C 0 dX7_goOn_3 rfl rfl rfl ?_
    obtain ⟨v4, e4, h⟩ := bd h
    refine jg_880 (pc' := 7) C dX7_goOn_4 rfl (gI_some e4) ?_
    refine J_icmp_ge (tgt := 63) (pc' := 10) C dX7_goOn_7 (by decide) rfl (fun c7 => ?_) (fun c7 => ?_)
    · rw [if_pos c7] at h
      obtain rfl := rt1 h
      exact J_vret C dX7_goOn_63 (Nat.zero_le _) (Nat.zero_le _)
    · rw [if_neg c7] at h
      refine J_aload_n (pc' := 11) C 0 dX7_goOn_10 rfl rfl rfl ?_
      refine J_aload_n (pc' := 12) C 0 dX7_goOn_11 rfl rfl rfl ?_
      obtain ⟨v12, e12, h⟩ := bd h
      refine jg_897 (pc' := 15) C dX7_goOn_12 rfl (gR_some e12) ?_
      refine J_iload_n (pc' := 16) C 1 dX7_goOn_15 rfl rfl rfl ?_
      obtain ⟨v16, e16, h⟩ := bd h
      refine J_lald (pc' := 17) C dX7_goOn_16 rfl e16 ?_
      refine J_aload_n (pc' := 18) C 0 dX7_goOn_17 rfl rfl rfl ?_
      obtain ⟨v18, e18, h⟩ := bd h
      refine jg_898 (pc' := 21) C dX7_goOn_18 rfl (gR_some e18) ?_
      refine J_iload_n (pc' := 22) C 1 dX7_goOn_21 rfl rfl rfl ?_
      obtain ⟨v22, e22, h⟩ := bd h
      refine J_iald (pc' := 23) C dX7_goOn_22 rfl e22 ?_
      refine J_iload_n (pc' := 24) C 3 dX7_goOn_23 rfl rfl rfl ?_
      obtain ⟨v24, M24, e24, h⟩ := bd2 h
      refine J_cS (pc' := 27) (st := [.ref x0]) (st2 := [.long v24, .ref x0]) (cs2 := 0) (sl2 := 0) C (ok_X7_with N e24) mw_X7_with wq_1186 rfl dX7_goOn_24 rfl rfl (Nat.le_of_ble_eq_true rfl) (by decide) (by decide) rfl rfl rfl (Nat.zero_le _) (Nat.zero_le _) ?_
      refine J_aload_n (pc' := 28) C 0 dX7_goOn_27 rfl rfl rfl ?_
      obtain ⟨v28, e28, h⟩ := bd h
      refine jg_898 (pc' := 31) C dX7_goOn_28 rfl (gR_some e28) ?_
      refine J_iload_n (pc' := 32) C 1 dX7_goOn_31 rfl rfl rfl ?_
      obtain ⟨v32, e32, h⟩ := bd h
      refine J_iald (pc' := 33) C dX7_goOn_32 rfl e32 ?_
      refine J_iconst (pc' := 34) (v := (1 : Int32)) C dX7_goOn_33 rfl (by decide) ?_
      refine J_iadd (pc' := 35) C dX7_goOn_34 rfl ?_
      refine J_iload_n (pc' := 36) C 2 dX7_goOn_35 rfl rfl rfl ?_
      refine J_aload_n (pc' := 37) C 0 dX7_goOn_36 rfl rfl rfl ?_
      obtain ⟨v37, e37, h⟩ := bd h
      refine jg_893 (pc' := 40) C dX7_goOn_37 rfl (gI_some e37) ?_
      refine J_if_eq (tgt := 47) (pc' := 43) C dX7_goOn_40 (by decide) rfl (fun c40 => ?_) (fun c40 => ?_)
      · rw [if_pos c40] at h
        refine J_aload_n (pc' := 48) C 0 dX7_goOn_47 rfl rfl rfl ?_
        obtain ⟨v48, e48, h⟩ := bd h
        refine jg_879 (pc' := 51) C dX7_goOn_48 rfl (gR_some e48) ?_
        refine J_iload_n (pc' := 52) C 3 dX7_goOn_51 rfl rfl rfl ?_
        obtain ⟨v52, e52, h⟩ := bd h
        refine J_iald (pc' := 53) C dX7_goOn_52 rfl e52 ?_
        refine J_sub (lv' := [(0, .ref x0), (1, .int x1), (2, .int x2), (3, .int x3)]) [0, 1, 2, 3] rfl ?_
        exact ok_X7_goOn_K53 C N ih _ _ _ _ _ _ _ _ _ _ _ h
      · rw [if_neg c40] at h
        refine J_iconst (pc' := 44) (v := (1 : Int32)) C dX7_goOn_43 rfl (by decide) ?_
        refine J_goto (tgt := 53) C dX7_goOn_44 (by decide) ?_
        refine J_sub (lv' := [(0, .ref x0), (1, .int x1), (2, .int x2), (3, .int x3)]) [0, 1, 2, 3] rfl ?_
        exact ok_X7_goOn_K53 C N ih _ _ _ _ _ _ _ _ _ _ _ h
def f_X7_goOn (N : Nat) (a0 : Nat) (a1 : Int32) (a2 : Int32) (M : A_M) : Option A_M :=
  f_X7_goOn_L2 N N a0 a1 a2 (0 : Int32) M
set_option maxHeartbeats 4000000 in
set_option maxRecDepth 100000 in
theorem ok_X7_goOn (N : Nat) {a0 : Nat} {a1 : Int32} {a2 : Int32} {M : A_M} {M' : A_M} (h : f_X7_goOn N a0 a1 a2 M = some M') : Runs yX7_goOn cX7_goOn 4 none 1 24 0 0 [.ref a0, .int a1, .int a2] M none M' := by
  refine Runs.intro (by decide) (Nat.le_of_ble_eq_true rfl) (fun X C hnm hMC hMS => ?_)
  have C : Cx X cX7_goOn RX7 4 none 1 24 := C
  show J X 4 0 [(0, .ref a0), (1, .int a1), (2, .int a2)] [] M 0 0 none M'
  unfold f_X7_goOn at h
  refine J_iconst (pc' := 1) (v := (0 : Int32)) C dX7_goOn_0 rfl (by decide) ?_
  refine J_istore_n (pc' := 2) (lv' := [(3, .int (0 : Int32)), (0, .ref a0), (1, .int a1), (2, .int a2)]) C dX7_goOn_1 rfl rfl (by decide) rfl ?_
  refine J_sub (lv' := [(0, .ref a0), (1, .int a1), (2, .int a2), (3, .int (0 : Int32))]) [1, 2, 3, 0] rfl ?_
  exact ok_X7_goOn_L2 C N N _ _ _ _ _ _ h
def f_X7_forget_K61 (N : Nat) (k4 : Nat → Int32 → Int32 → Int32 → A_M → Option A_M) (x0 : Nat) (x1 : Int32) (x2 : Int32) (x3 : Int32) (M : A_M) : Option A_M :=
  k4 x0 x1 x2 (x3 + 1) M
set_option maxHeartbeats 4000000 in
set_option maxRecDepth 100000 in
theorem ok_X7_forget_K61 {X : JX} (C : Cx X cX7_forget RX7 4 none 0 0) (N : Nat) {k4 : Nat → Int32 → Int32 → Int32 → A_M → Option A_M} (hk4 : ∀ (x0 : Nat) (x1 : Int32) (x2 : Int32) (x3 : Int32) (M : A_M) (M' : A_M), k4 x0 x1 x2 x3 M = some M' → J X 4 4 [(0, .ref x0), (1, .int x1), (2, .int x2), (3, .int x3)] [] M 0 0 none M') : ∀ (x0 : Nat) (x1 : Int32) (x2 : Int32) (x3 : Int32) (M : A_M) (M' : A_M), f_X7_forget_K61 N k4 x0 x1 x2 x3 M = some M' → J X 4 61 [(0, .ref x0), (1, .int x1), (2, .int x2), (3, .int x3)] [] M 0 0 none M' := by
  intro x0 x1 x2 x3 M M' h
  unfold f_X7_forget_K61 at h
  refine J_iinc (pc' := 64) (lv' := [(3, .int (x3 + 1)), (0, .ref x0), (1, .int x1), (2, .int x2)]) C 3 dX7_forget_61 rfl rfl rfl (by decide) rfl ?_
  refine J_goto (tgt := 4) C dX7_forget_64 (by decide) ?_
  refine J_sub (lv' := [(0, .ref x0), (1, .int x1), (2, .int x2), (3, .int (x3 + 1))]) [1, 2, 3, 0] rfl ?_
  exact hk4 _ _ _ _ _ _ h
def f_X7_forget_L4 (N : Nat) : Nat → Nat → Int32 → Int32 → Int32 → A_M → Option A_M
  | 0, _, _, _, _, _ => none
  | n + 1, x0, x1, x2, x3, M =>
    (gI M x0 7 21).bind fun v6 =>
    if v6 ≤ x3 then
    ((pV M x0 7 21 (.int x2)).bind fun M69 =>
    some M69)
    else
    ((gR M x0 7 20).bind fun v13 =>
    (ldI M v13 x3).bind fun v17 =>
    if v17 ≤ x1 then
    (f_X7_forget_K61 N (f_X7_forget_L4 N n) x0 x1 x2 x3 M)
    else
    ((gR M x0 7 18).bind fun v23 =>
    (gR M x0 7 18).bind fun v28 =>
    (ldJ M v28 x3).bind fun v32 =>
    (stJ M v23 x2 v32).bind fun M33 =>
    (gR M33 x0 7 19).bind fun v35 =>
    (gR M33 x0 7 19).bind fun v40 =>
    (ldI M33 v40 x3).bind fun v44 =>
    (stI M33 v35 x2 v44).bind fun M45 =>
    (gR M45 x0 7 20).bind fun v47 =>
    (gR M45 x0 7 20).bind fun v52 =>
    (ldI M45 v52 x3).bind fun v56 =>
    (stI M45 v47 x2 v56).bind fun M57 =>
    f_X7_forget_K61 N (f_X7_forget_L4 N n) x0 x1 (x2 + 1) x3 M57))
set_option maxHeartbeats 4000000 in
set_option maxRecDepth 100000 in
theorem ok_X7_forget_L4 {X : JX} (C : Cx X cX7_forget RX7 4 none 0 0) (N : Nat) : ∀ (n : Nat) (x0 : Nat) (x1 : Int32) (x2 : Int32) (x3 : Int32) (M : A_M) (M' : A_M), f_X7_forget_L4 N n x0 x1 x2 x3 M = some M' → J X 4 4 [(0, .ref x0), (1, .int x1), (2, .int x2), (3, .int x3)] [] M 0 0 none M' := by
  intro n
  induction n with
  | zero =>
    intro x0 x1 x2 x3 M M' h
    cases h
  | succ n ih =>
    intro x0 x1 x2 x3 M M' h
    rw [f_X7_forget_L4] at h
    refine J_iload_n (pc' := 5) C 3 dX7_forget_4 rfl rfl rfl ?_
    refine J_aload_n (pc' := 6) C 0 dX7_forget_5 rfl rfl rfl ?_
    obtain ⟨v6, e6, h⟩ := bd h
    refine jg_900 (pc' := 9) C dX7_forget_6 rfl (gI_some e6) ?_
    refine J_icmp_ge (tgt := 67) (pc' := 12) C dX7_forget_9 (by decide) rfl (fun c9 => ?_) (fun c9 => ?_)
    · rw [if_pos c9] at h
      refine J_aload_n (pc' := 68) C 0 dX7_forget_67 rfl rfl rfl ?_
      refine J_iload_n (pc' := 69) C 2 dX7_forget_68 rfl rfl rfl ?_
      obtain ⟨M69, e69, h⟩ := bd h
      refine jp_900 (pc' := 72) C (fun _ => ⟨rfl, rfl⟩) dX7_forget_69 rfl e69 ?_
      obtain rfl := rt1 h
      exact J_vret C dX7_forget_72 (Nat.zero_le _) (Nat.zero_le _)
    · rw [if_neg c9] at h
      refine J_aload_n (pc' := 13) C 0 dX7_forget_12 rfl rfl rfl ?_
      obtain ⟨v13, e13, h⟩ := bd h
      refine jg_899 (pc' := 16) C dX7_forget_13 rfl (gR_some e13) ?_
      refine J_iload_n (pc' := 17) C 3 dX7_forget_16 rfl rfl rfl ?_
      obtain ⟨v17, e17, h⟩ := bd h
      refine J_iald (pc' := 18) C dX7_forget_17 rfl e17 ?_
      refine J_iload_n (pc' := 19) C 1 dX7_forget_18 rfl rfl rfl ?_
      refine J_icmp_le (tgt := 61) (pc' := 22) C dX7_forget_19 (by decide) rfl (fun c19 => ?_) (fun c19 => ?_)
      · rw [if_pos c19] at h
        refine J_sub (lv' := [(0, .ref x0), (1, .int x1), (2, .int x2), (3, .int x3)]) [0, 1, 2, 3] rfl ?_
        exact ok_X7_forget_K61 C N ih _ _ _ _ _ _ h
      · rw [if_neg c19] at h
        refine J_aload_n (pc' := 23) C 0 dX7_forget_22 rfl rfl rfl ?_
        obtain ⟨v23, e23, h⟩ := bd h
        refine jg_897 (pc' := 26) C dX7_forget_23 rfl (gR_some e23) ?_
        refine J_iload_n (pc' := 27) C 2 dX7_forget_26 rfl rfl rfl ?_
        refine J_aload_n (pc' := 28) C 0 dX7_forget_27 rfl rfl rfl ?_
        obtain ⟨v28, e28, h⟩ := bd h
        refine jg_897 (pc' := 31) C dX7_forget_28 rfl (gR_some e28) ?_
        refine J_iload_n (pc' := 32) C 3 dX7_forget_31 rfl rfl rfl ?_
        obtain ⟨v32, e32, h⟩ := bd h
        refine J_lald (pc' := 33) C dX7_forget_32 rfl e32 ?_
        obtain ⟨M33, e33, h⟩ := bd h
        refine J_last (pc' := 34) C dX7_forget_33 rfl e33 ?_
        refine J_aload_n (pc' := 35) C 0 dX7_forget_34 rfl rfl rfl ?_
        obtain ⟨v35, e35, h⟩ := bd h
        refine jg_898 (pc' := 38) C dX7_forget_35 rfl (gR_some e35) ?_
        refine J_iload_n (pc' := 39) C 2 dX7_forget_38 rfl rfl rfl ?_
        refine J_aload_n (pc' := 40) C 0 dX7_forget_39 rfl rfl rfl ?_
        obtain ⟨v40, e40, h⟩ := bd h
        refine jg_898 (pc' := 43) C dX7_forget_40 rfl (gR_some e40) ?_
        refine J_iload_n (pc' := 44) C 3 dX7_forget_43 rfl rfl rfl ?_
        obtain ⟨v44, e44, h⟩ := bd h
        refine J_iald (pc' := 45) C dX7_forget_44 rfl e44 ?_
        obtain ⟨M45, e45, h⟩ := bd h
        refine J_iast (pc' := 46) C dX7_forget_45 rfl e45 ?_
        refine J_aload_n (pc' := 47) C 0 dX7_forget_46 rfl rfl rfl ?_
        obtain ⟨v47, e47, h⟩ := bd h
        refine jg_899 (pc' := 50) C dX7_forget_47 rfl (gR_some e47) ?_
        refine J_iload_n (pc' := 51) C 2 dX7_forget_50 rfl rfl rfl ?_
        refine J_aload_n (pc' := 52) C 0 dX7_forget_51 rfl rfl rfl ?_
        obtain ⟨v52, e52, h⟩ := bd h
        refine jg_899 (pc' := 55) C dX7_forget_52 rfl (gR_some e52) ?_
        refine J_iload_n (pc' := 56) C 3 dX7_forget_55 rfl rfl rfl ?_
        obtain ⟨v56, e56, h⟩ := bd h
        refine J_iald (pc' := 57) C dX7_forget_56 rfl e56 ?_
        obtain ⟨M57, e57, h⟩ := bd h
        refine J_iast (pc' := 58) C dX7_forget_57 rfl e57 ?_
        refine J_iinc (pc' := 61) (lv' := [(2, .int (x2 + 1)), (0, .ref x0), (1, .int x1), (3, .int x3)]) C 2 dX7_forget_58 rfl rfl rfl (by decide) rfl ?_
        refine J_sub (lv' := [(0, .ref x0), (1, .int x1), (2, .int (x2 + 1)), (3, .int x3)]) [1, 2, 0, 3] rfl ?_
        exact ok_X7_forget_K61 C N ih _ _ _ _ _ _ h
def f_X7_forget (N : Nat) (a0 : Nat) (a1 : Int32) (M : A_M) : Option A_M :=
  f_X7_forget_L4 N N a0 a1 (0 : Int32) (0 : Int32) M
set_option maxHeartbeats 4000000 in
set_option maxRecDepth 100000 in
theorem ok_X7_forget (N : Nat) {a0 : Nat} {a1 : Int32} {M : A_M} {M' : A_M} (h : f_X7_forget N a0 a1 M = some M') : Runs yX7_forget cX7_forget 4 none 0 0 0 0 [.ref a0, .int a1] M none M' := by
  refine Runs.intro (by decide) (Nat.le_of_ble_eq_true rfl) (fun X C hnm hMC hMS => ?_)
  have C : Cx X cX7_forget RX7 4 none 0 0 := C
  show J X 4 0 [(0, .ref a0), (1, .int a1)] [] M 0 0 none M'
  unfold f_X7_forget at h
  refine J_iconst (pc' := 1) (v := (0 : Int32)) C dX7_forget_0 rfl (by decide) ?_
  refine J_istore_n (pc' := 2) (lv' := [(2, .int (0 : Int32)), (0, .ref a0), (1, .int a1)]) C dX7_forget_1 rfl rfl (by decide) rfl ?_
  refine J_iconst (pc' := 3) (v := (0 : Int32)) C dX7_forget_2 rfl (by decide) ?_
  refine J_istore_n (pc' := 4) (lv' := [(3, .int (0 : Int32)), (2, .int (0 : Int32)), (0, .ref a0), (1, .int a1)]) C dX7_forget_3 rfl rfl (by decide) rfl ?_
  refine J_sub (lv' := [(0, .ref a0), (1, .int a1), (2, .int (0 : Int32)), (3, .int (0 : Int32))]) [2, 3, 1, 0] rfl ?_
  exact ok_X7_forget_L4 C N N _ _ _ _ _ _ h
def f_X7_layFree_K165 (N : Nat) (k24 : Nat → Int32 → Int32 → Int32 → Int32 → Int32 → A_M → Option A_M) (x0 : Nat) (x2 : Int32) (x3 : Int32) (x4 : Int32) (x5 : Int32) (x6 : Int32) (x7 : Int32) (M : A_M) : Option A_M :=
  (chk M x0 7).bind fun _ =>
  (f_X7_forget N x0 x5 M).bind fun M168 =>
  (gI M168 x0 7 3).bind fun v172 =>
  (gR M168 x0 7 17).bind fun v187 =>
  (ldI M168 v187 (1 : Int32)).bind fun v191 =>
  bnd2 (f_X7_least N (x2 + (x7 * v191)) ((v172 - x4) - x6) M168) fun v196 M196 =>
  (gR M196 x0 7 17).bind fun v205 =>
  (ldI M196 v205 (2 : Int32)).bind fun v209 =>
  bnd2 (f_X7_least N (x3 + (x7 * v209)) ((v172 - x4) - x6) M196) fun v214 M214 =>
  (gR M214 x0 7 17).bind fun v222 =>
  (ldI M214 v222 (3 : Int32)).bind fun v226 =>
  bnd2 (f_X7_least N (x7 * v226) ((v172 - x4) - x6) M214) fun v230 M230 =>
  k24 x0 v196 v214 v230 (x4 + x6) (x5 + 1) M230
set_option maxHeartbeats 4000000 in
set_option maxRecDepth 100000 in
theorem ok_X7_layFree_K165 {X : JX} (C : Cx X cX7_layFree RX7 11 none 4 115) (N : Nat) {k24 : Nat → Int32 → Int32 → Int32 → Int32 → Int32 → A_M → Option A_M} (hk24 : ∀ (x0 : Nat) (x1 : Int32) (x2 : Int32) (x3 : Int32) (x4 : Int32) (x5 : Int32) (M : A_M) (M' : A_M), k24 x0 x1 x2 x3 x4 x5 M = some M' → J X 11 24 [(0, .ref x0), (1, .int x1), (2, .int x2), (3, .int x3), (4, .int x4), (5, .int x5)] [] M 0 0 none M') : ∀ (x0 : Nat) (x2 : Int32) (x3 : Int32) (x4 : Int32) (x5 : Int32) (x6 : Int32) (x7 : Int32) (M : A_M) (M' : A_M), f_X7_layFree_K165 N k24 x0 x2 x3 x4 x5 x6 x7 M = some M' → J X 11 165 [(0, .ref x0), (2, .int x2), (3, .int x3), (4, .int x4), (5, .int x5), (6, .int x6), (7, .int x7)] [] M 0 0 none M' := by
  intro x0 x2 x3 x4 x5 x6 x7 M M' h
  unfold f_X7_layFree_K165 at h
  refine J_aload_n (pc' := 166) C 0 dX7_layFree_165 rfl rfl rfl ?_
  refine J_iload (pc' := 168) C 4 dX7_layFree_166 rfl rfl ?_
  obtain ⟨_, q168, h⟩ := bd h
  obtain ⟨M168, e168, h⟩ := bd h
  refine J_cV (pc' := 171) (st := []) (st2 := []) (cs2 := 0) (sl2 := 0) C 7 rfl rfl q168 (ok_X7_forget N e168) mw_X7_forget wq_1189 rfl dX7_layFree_168 rfl rfl (Nat.le_of_ble_eq_true rfl) (by decide) (by decide) rfl rfl rfl (Nat.zero_le _) (Nat.zero_le _) ?_
  refine J_aload_n (pc' := 172) C 0 dX7_layFree_171 rfl rfl rfl ?_
  obtain ⟨v172, e172, h⟩ := bd h
  refine jg_882 (pc' := 175) C dX7_layFree_172 rfl (gI_some e172) ?_
  refine J_iload (pc' := 177) C 3 dX7_layFree_175 rfl rfl ?_
  refine J_isub (pc' := 178) C dX7_layFree_177 rfl ?_
  refine J_iload (pc' := 180) C 5 dX7_layFree_178 rfl rfl ?_
  refine J_isub (pc' := 181) C dX7_layFree_180 rfl ?_
  refine J_istore (pc' := 183) (lv' := [(8, .int ((v172 - x4) - x6)), (0, .ref x0), (2, .int x2), (3, .int x3), (4, .int x4), (5, .int x5), (6, .int x6), (7, .int x7)]) C dX7_layFree_181 rfl (by decide) rfl ?_
  refine J_iload_n (pc' := 184) C 2 dX7_layFree_183 rfl rfl rfl ?_
  refine J_iload (pc' := 186) C 7 dX7_layFree_184 rfl rfl ?_
  refine J_aload_n (pc' := 187) C 1 dX7_layFree_186 rfl rfl rfl ?_
  obtain ⟨v187, e187, h⟩ := bd h
  refine jg_896 (pc' := 190) C dX7_layFree_187 rfl (gR_some e187) ?_
  refine J_iconst (pc' := 191) (v := (1 : Int32)) C dX7_layFree_190 rfl (by decide) ?_
  obtain ⟨v191, e191, h⟩ := bd h
  refine J_iald (pc' := 192) C dX7_layFree_191 rfl e191 ?_
  refine J_imul (pc' := 193) C dX7_layFree_192 rfl ?_
  refine J_iadd (pc' := 194) C dX7_layFree_193 rfl ?_
  refine J_iload (pc' := 196) C 0 dX7_layFree_194 rfl rfl ?_
  obtain ⟨v196, M196, e196, h⟩ := bd2 h
  refine J_cS (pc' := 199) (st := []) (st2 := [.int v196]) (cs2 := 0) (sl2 := 0) C (ok_X7_least N e196) mw_X7_least wq_1148 rfl dX7_layFree_196 rfl rfl (Nat.le_of_ble_eq_true rfl) (by decide) (by decide) rfl rfl rfl (Nat.zero_le _) (Nat.zero_le _) ?_
  refine J_istore (pc' := 201) (lv' := [(9, .int v196), (8, .int ((v172 - x4) - x6)), (0, .ref x0), (2, .int x2), (3, .int x3), (4, .int x4), (5, .int x5), (6, .int x6), (7, .int x7)]) C dX7_layFree_199 rfl (by decide) rfl ?_
  refine J_iload_n (pc' := 202) C 4 dX7_layFree_201 rfl rfl rfl ?_
  refine J_iload (pc' := 204) C 8 dX7_layFree_202 rfl rfl ?_
  refine J_aload_n (pc' := 205) C 2 dX7_layFree_204 rfl rfl rfl ?_
  obtain ⟨v205, e205, h⟩ := bd h
  refine jg_896 (pc' := 208) C dX7_layFree_205 rfl (gR_some e205) ?_
  refine J_iconst (pc' := 209) (v := (2 : Int32)) C dX7_layFree_208 rfl (by decide) ?_
  obtain ⟨v209, e209, h⟩ := bd h
  refine J_iald (pc' := 210) C dX7_layFree_209 rfl e209 ?_
  refine J_imul (pc' := 211) C dX7_layFree_210 rfl ?_
  refine J_iadd (pc' := 212) C dX7_layFree_211 rfl ?_
  refine J_iload (pc' := 214) C 1 dX7_layFree_212 rfl rfl ?_
  obtain ⟨v214, M214, e214, h⟩ := bd2 h
  refine J_cS (pc' := 217) (st := []) (st2 := [.int v214]) (cs2 := 0) (sl2 := 0) C (ok_X7_least N e214) mw_X7_least wq_1148 rfl dX7_layFree_214 rfl rfl (Nat.le_of_ble_eq_true rfl) (by decide) (by decide) rfl rfl rfl (Nat.zero_le _) (Nat.zero_le _) ?_
  refine J_istore (pc' := 219) (lv' := [(10, .int v214), (9, .int v196), (8, .int ((v172 - x4) - x6)), (0, .ref x0), (2, .int x2), (3, .int x3), (4, .int x4), (5, .int x5), (6, .int x6), (7, .int x7)]) C dX7_layFree_217 rfl (by decide) rfl ?_
  refine J_iload (pc' := 221) C 9 dX7_layFree_219 rfl rfl ?_
  refine J_aload_n (pc' := 222) C 3 dX7_layFree_221 rfl rfl rfl ?_
  obtain ⟨v222, e222, h⟩ := bd h
  refine jg_896 (pc' := 225) C dX7_layFree_222 rfl (gR_some e222) ?_
  refine J_iconst (pc' := 226) (v := (3 : Int32)) C dX7_layFree_225 rfl (by decide) ?_
  obtain ⟨v226, e226, h⟩ := bd h
  refine J_iald (pc' := 227) C dX7_layFree_226 rfl e226 ?_
  refine J_imul (pc' := 228) C dX7_layFree_227 rfl ?_
  refine J_iload (pc' := 230) C 2 dX7_layFree_228 rfl rfl ?_
  obtain ⟨v230, M230, e230, h⟩ := bd2 h
  refine J_cS (pc' := 233) (st := []) (st2 := [.int v230]) (cs2 := 0) (sl2 := 0) C (ok_X7_least N e230) mw_X7_least wq_1148 rfl dX7_layFree_230 rfl rfl (Nat.le_of_ble_eq_true rfl) (by decide) (by decide) rfl rfl rfl (Nat.zero_le _) (Nat.zero_le _) ?_
  refine J_istore_n (pc' := 234) (lv' := [(3, .int v230), (10, .int v214), (9, .int v196), (8, .int ((v172 - x4) - x6)), (0, .ref x0), (2, .int x2), (4, .int x4), (5, .int x5), (6, .int x6), (7, .int x7)]) C dX7_layFree_233 rfl rfl (by decide) rfl ?_
  refine J_iload (pc' := 236) C 2 dX7_layFree_234 rfl rfl ?_
  refine J_istore_n (pc' := 237) (lv' := [(1, .int v196), (3, .int v230), (10, .int v214), (9, .int v196), (8, .int ((v172 - x4) - x6)), (0, .ref x0), (2, .int x2), (4, .int x4), (5, .int x5), (6, .int x6), (7, .int x7)]) C dX7_layFree_236 rfl rfl (by decide) rfl ?_
  refine J_iload (pc' := 239) C 2 dX7_layFree_237 rfl rfl ?_
  refine J_istore_n (pc' := 240) (lv' := [(2, .int v214), (1, .int v196), (3, .int v230), (10, .int v214), (9, .int v196), (8, .int ((v172 - x4) - x6)), (0, .ref x0), (4, .int x4), (5, .int x5), (6, .int x6), (7, .int x7)]) C dX7_layFree_239 rfl rfl (by decide) rfl ?_
  refine J_iload (pc' := 242) C 7 dX7_layFree_240 rfl rfl ?_
  refine J_iload (pc' := 244) C 9 dX7_layFree_242 rfl rfl ?_
  refine J_iadd (pc' := 245) C dX7_layFree_244 rfl ?_
  refine J_istore (pc' := 247) (lv' := [(4, .int (x4 + x6)), (2, .int v214), (1, .int v196), (3, .int v230), (10, .int v214), (9, .int v196), (8, .int ((v172 - x4) - x6)), (0, .ref x0), (5, .int x5), (6, .int x6), (7, .int x7)]) C dX7_layFree_245 rfl (by decide) rfl ?_
  refine J_iinc (pc' := 250) (lv' := [(5, .int (x5 + 1)), (4, .int (x4 + x6)), (2, .int v214), (1, .int v196), (3, .int v230), (10, .int v214), (9, .int v196), (8, .int ((v172 - x4) - x6)), (0, .ref x0), (6, .int x6), (7, .int x7)]) C 8 dX7_layFree_247 rfl rfl rfl (by decide) rfl ?_
  refine J_goto (tgt := 24) C dX7_layFree_250 (by decide) ?_
  refine J_sub (lv' := [(0, .ref x0), (1, .int v196), (2, .int v214), (3, .int v230), (4, .int (x4 + x6)), (5, .int (x5 + 1))]) [8, 3, 2, 4, 1, 0] rfl ?_
  exact hk24 _ _ _ _ _ _ _ _ h
def f_X7_layFree_L136 (N : Nat) (k24 : Nat → Int32 → Int32 → Int32 → Int32 → Int32 → A_M → Option A_M) : Nat → Nat → Int32 → Int32 → Int32 → Int32 → Int32 → Int32 → Int32 → A_M → Option A_M
  | 0, _, _, _, _, _, _, _, _, _ => none
  | n + 1, x0, x2, x3, x4, x5, x6, x7, x8, M =>
    if (x6 + x7) ≤ x8 then
    (f_X7_layFree_K165 N k24 x0 x2 x3 x4 x5 x6 x7 M)
    else
    ((gR M x0 7 22).bind fun v148 =>
    (ldI M v148 x8).bind fun v153 =>
    (chk M x0 7).bind fun _ =>
    (f_X7_goOn N x0 v153 x5 M).bind fun M156 =>
    f_X7_layFree_L136 N k24 n x0 x2 x3 x4 x5 x6 x7 (x8 + 1) M156)
set_option maxHeartbeats 4000000 in
set_option maxRecDepth 100000 in
theorem ok_X7_layFree_L136 {X : JX} (C : Cx X cX7_layFree RX7 11 none 4 115) (N : Nat) {k24 : Nat → Int32 → Int32 → Int32 → Int32 → Int32 → A_M → Option A_M} (hk24 : ∀ (x0 : Nat) (x1 : Int32) (x2 : Int32) (x3 : Int32) (x4 : Int32) (x5 : Int32) (M : A_M) (M' : A_M), k24 x0 x1 x2 x3 x4 x5 M = some M' → J X 11 24 [(0, .ref x0), (1, .int x1), (2, .int x2), (3, .int x3), (4, .int x4), (5, .int x5)] [] M 0 0 none M') : ∀ (n : Nat) (x0 : Nat) (x2 : Int32) (x3 : Int32) (x4 : Int32) (x5 : Int32) (x6 : Int32) (x7 : Int32) (x8 : Int32) (M : A_M) (M' : A_M), f_X7_layFree_L136 N k24 n x0 x2 x3 x4 x5 x6 x7 x8 M = some M' → J X 11 136 [(0, .ref x0), (2, .int x2), (3, .int x3), (4, .int x4), (5, .int x5), (6, .int x6), (7, .int x7), (8, .int x8)] [] M 0 0 none M' := by
  intro n
  induction n with
  | zero =>
    intro x0 x2 x3 x4 x5 x6 x7 x8 M M' h
    cases h
  | succ n ih =>
    intro x0 x2 x3 x4 x5 x6 x7 x8 M M' h
    rw [f_X7_layFree_L136] at h
    refine J_iload (pc' := 138) C 7 dX7_layFree_136 rfl rfl ?_
    refine J_iload (pc' := 140) C 5 dX7_layFree_138 rfl rfl ?_
    refine J_iload (pc' := 142) C 6 dX7_layFree_140 rfl rfl ?_
    refine J_iadd (pc' := 143) C dX7_layFree_142 rfl ?_
    refine J_icmp_ge (tgt := 165) (pc' := 146) C dX7_layFree_143 (by decide) rfl (fun c143 => ?_) (fun c143 => ?_)
    · rw [if_pos c143] at h
      refine J_sub (lv' := [(0, .ref x0), (2, .int x2), (3, .int x3), (4, .int x4), (5, .int x5), (6, .int x6), (7, .int x7)]) [0, 1, 2, 3, 4, 5, 6] rfl ?_
      exact ok_X7_layFree_K165 C N hk24 _ _ _ _ _ _ _ _ _ h
    · rw [if_neg c143] at h
      refine J_aload_n (pc' := 147) C 0 dX7_layFree_146 rfl rfl rfl ?_
      refine J_aload_n (pc' := 148) C 0 dX7_layFree_147 rfl rfl rfl ?_
      obtain ⟨v148, e148, h⟩ := bd h
      refine jg_901 (pc' := 151) C dX7_layFree_148 rfl (gR_some e148) ?_
      refine J_iload (pc' := 153) C 7 dX7_layFree_151 rfl rfl ?_
      obtain ⟨v153, e153, h⟩ := bd h
      refine J_iald (pc' := 154) C dX7_layFree_153 rfl e153 ?_
      refine J_iload (pc' := 156) C 4 dX7_layFree_154 rfl rfl ?_
      obtain ⟨_, q156, h⟩ := bd h
      obtain ⟨M156, e156, h⟩ := bd h
      refine J_cV (pc' := 159) (st := []) (st2 := []) (cs2 := 0) (sl2 := 0) C 7 rfl rfl q156 (ok_X7_goOn N e156) mw_X7_goOn wq_1182 rfl dX7_layFree_156 rfl rfl (Nat.le_of_ble_eq_true rfl) (by decide) (by decide) rfl rfl rfl (Nat.zero_le _) (Nat.zero_le _) ?_
      refine J_iinc (pc' := 162) (lv' := [(8, .int (x8 + 1)), (0, .ref x0), (2, .int x2), (3, .int x3), (4, .int x4), (5, .int x5), (6, .int x6), (7, .int x7)]) C 7 dX7_layFree_159 rfl rfl rfl (by decide) rfl ?_
      refine J_goto (tgt := 136) C dX7_layFree_162 (by decide) ?_
      refine J_sub (lv' := [(0, .ref x0), (2, .int x2), (3, .int x3), (4, .int x4), (5, .int x5), (6, .int x6), (7, .int x7), (8, .int (x8 + 1))]) [1, 2, 3, 4, 5, 6, 7, 0] rfl ?_
      exact ih _ _ _ _ _ _ _ _ _ _ h
def f_X7_layFree_K132 (N : Nat) (k24 : Nat → Int32 → Int32 → Int32 → Int32 → Int32 → A_M → Option A_M) (x0 : Nat) (x2 : Int32) (x3 : Int32) (x4 : Int32) (x5 : Int32) (x6 : Int32) (x7 : Int32) (M : A_M) : Option A_M :=
  f_X7_layFree_L136 N k24 N x0 x2 x3 x4 x5 x6 x7 x6 M
set_option maxHeartbeats 4000000 in
set_option maxRecDepth 100000 in
theorem ok_X7_layFree_K132 {X : JX} (C : Cx X cX7_layFree RX7 11 none 4 115) (N : Nat) {k24 : Nat → Int32 → Int32 → Int32 → Int32 → Int32 → A_M → Option A_M} (hk24 : ∀ (x0 : Nat) (x1 : Int32) (x2 : Int32) (x3 : Int32) (x4 : Int32) (x5 : Int32) (M : A_M) (M' : A_M), k24 x0 x1 x2 x3 x4 x5 M = some M' → J X 11 24 [(0, .ref x0), (1, .int x1), (2, .int x2), (3, .int x3), (4, .int x4), (5, .int x5)] [] M 0 0 none M') : ∀ (x0 : Nat) (x2 : Int32) (x3 : Int32) (x4 : Int32) (x5 : Int32) (x6 : Int32) (x7 : Int32) (M : A_M) (M' : A_M), f_X7_layFree_K132 N k24 x0 x2 x3 x4 x5 x6 x7 M = some M' → J X 11 132 [(0, .ref x0), (2, .int x2), (3, .int x3), (4, .int x4), (5, .int x5), (6, .int x6), (7, .int x7)] [] M 0 0 none M' := by
  intro x0 x2 x3 x4 x5 x6 x7 M M' h
  unfold f_X7_layFree_K132 at h
  refine J_iload (pc' := 134) C 5 dX7_layFree_132 rfl rfl ?_
  refine J_istore (pc' := 136) (lv' := [(8, .int x6), (0, .ref x0), (2, .int x2), (3, .int x3), (4, .int x4), (5, .int x5), (6, .int x6), (7, .int x7)]) C dX7_layFree_134 rfl (by decide) rfl ?_
  refine J_sub (lv' := [(0, .ref x0), (2, .int x2), (3, .int x3), (4, .int x4), (5, .int x5), (6, .int x6), (7, .int x7), (8, .int x6)]) [1, 2, 3, 4, 5, 6, 7, 0] rfl ?_
  exact ok_X7_layFree_L136 C N hk24 N _ _ _ _ _ _ _ _ _ _ h
def f_X7_layFree_L65 (N : Nat) (k24 : Nat → Int32 → Int32 → Int32 → Int32 → Int32 → A_M → Option A_M) : Nat → Nat → Int32 → Int32 → Int32 → Int32 → Int32 → Int32 → Int32 → A_M → Option A_M
  | 0, _, _, _, _, _, _, _, _, _ => none
  | n + 1, x0, x2, x3, x4, x5, x6, x7, x8, M =>
    if x6 ≤ x8 then
    (f_X7_layFree_K132 N k24 x0 x2 x3 x4 x5 x6 x7 M)
    else
    ((gR M x0 7 7).bind fun v73 =>
    (gR M x0 7 10).bind fun v77 =>
    (ldI M v77 (x4 + x8)).bind fun v85 =>
    (gR M x0 7 18).bind fun v87 =>
    (gR M x0 7 22).bind fun v91 =>
    (ldI M v91 x8).bind fun v96 =>
    (ldJ M v87 v96).bind fun v97 =>
    (stJ M v73 v85 v97).bind fun M98 =>
    (gR M98 x0 7 8).bind fun v100 =>
    (gR M98 x0 7 10).bind fun v104 =>
    (ldI M98 v104 (x4 + x8)).bind fun v112 =>
    (gR M98 x0 7 19).bind fun v114 =>
    (gR M98 x0 7 22).bind fun v118 =>
    (ldI M98 v118 x8).bind fun v123 =>
    (ldI M98 v114 v123).bind fun v124 =>
    (stI M98 v100 v112 v124).bind fun M125 =>
    f_X7_layFree_L65 N k24 n x0 x2 x3 x4 x5 x6 x7 (x8 + 1) M125)
set_option maxHeartbeats 4000000 in
set_option maxRecDepth 100000 in
theorem ok_X7_layFree_L65 {X : JX} (C : Cx X cX7_layFree RX7 11 none 4 115) (N : Nat) {k24 : Nat → Int32 → Int32 → Int32 → Int32 → Int32 → A_M → Option A_M} (hk24 : ∀ (x0 : Nat) (x1 : Int32) (x2 : Int32) (x3 : Int32) (x4 : Int32) (x5 : Int32) (M : A_M) (M' : A_M), k24 x0 x1 x2 x3 x4 x5 M = some M' → J X 11 24 [(0, .ref x0), (1, .int x1), (2, .int x2), (3, .int x3), (4, .int x4), (5, .int x5)] [] M 0 0 none M') : ∀ (n : Nat) (x0 : Nat) (x2 : Int32) (x3 : Int32) (x4 : Int32) (x5 : Int32) (x6 : Int32) (x7 : Int32) (x8 : Int32) (M : A_M) (M' : A_M), f_X7_layFree_L65 N k24 n x0 x2 x3 x4 x5 x6 x7 x8 M = some M' → J X 11 65 [(0, .ref x0), (2, .int x2), (3, .int x3), (4, .int x4), (5, .int x5), (6, .int x6), (7, .int x7), (8, .int x8)] [] M 0 0 none M' := by
  intro n
  induction n with
  | zero =>
    intro x0 x2 x3 x4 x5 x6 x7 x8 M M' h
    cases h
  | succ n ih =>
    intro x0 x2 x3 x4 x5 x6 x7 x8 M M' h
    rw [f_X7_layFree_L65] at h
    refine J_iload (pc' := 67) C 7 dX7_layFree_65 rfl rfl ?_
    refine J_iload (pc' := 69) C 5 dX7_layFree_67 rfl rfl ?_
    refine J_icmp_ge (tgt := 132) (pc' := 72) C dX7_layFree_69 (by decide) rfl (fun c69 => ?_) (fun c69 => ?_)
    · rw [if_pos c69] at h
      refine J_sub (lv' := [(0, .ref x0), (2, .int x2), (3, .int x3), (4, .int x4), (5, .int x5), (6, .int x6), (7, .int x7)]) [0, 1, 2, 3, 4, 5, 6] rfl ?_
      exact ok_X7_layFree_K132 C N hk24 _ _ _ _ _ _ _ _ _ h
    · rw [if_neg c69] at h
      refine J_aload_n (pc' := 73) C 0 dX7_layFree_72 rfl rfl rfl ?_
      obtain ⟨v73, e73, h⟩ := bd h
      refine jg_886 (pc' := 76) C dX7_layFree_73 rfl (gR_some e73) ?_
      refine J_aload_n (pc' := 77) C 0 dX7_layFree_76 rfl rfl rfl ?_
      obtain ⟨v77, e77, h⟩ := bd h
      refine jg_889 (pc' := 80) C dX7_layFree_77 rfl (gR_some e77) ?_
      refine J_iload (pc' := 82) C 3 dX7_layFree_80 rfl rfl ?_
      refine J_iload (pc' := 84) C 7 dX7_layFree_82 rfl rfl ?_
      refine J_iadd (pc' := 85) C dX7_layFree_84 rfl ?_
      obtain ⟨v85, e85, h⟩ := bd h
      refine J_iald (pc' := 86) C dX7_layFree_85 rfl e85 ?_
      refine J_aload_n (pc' := 87) C 0 dX7_layFree_86 rfl rfl rfl ?_
      obtain ⟨v87, e87, h⟩ := bd h
      refine jg_897 (pc' := 90) C dX7_layFree_87 rfl (gR_some e87) ?_
      refine J_aload_n (pc' := 91) C 0 dX7_layFree_90 rfl rfl rfl ?_
      obtain ⟨v91, e91, h⟩ := bd h
      refine jg_901 (pc' := 94) C dX7_layFree_91 rfl (gR_some e91) ?_
      refine J_iload (pc' := 96) C 7 dX7_layFree_94 rfl rfl ?_
      obtain ⟨v96, e96, h⟩ := bd h
      refine J_iald (pc' := 97) C dX7_layFree_96 rfl e96 ?_
      obtain ⟨v97, e97, h⟩ := bd h
      refine J_lald (pc' := 98) C dX7_layFree_97 rfl e97 ?_
      obtain ⟨M98, e98, h⟩ := bd h
      refine J_last (pc' := 99) C dX7_layFree_98 rfl e98 ?_
      refine J_aload_n (pc' := 100) C 0 dX7_layFree_99 rfl rfl rfl ?_
      obtain ⟨v100, e100, h⟩ := bd h
      refine jg_887 (pc' := 103) C dX7_layFree_100 rfl (gR_some e100) ?_
      refine J_aload_n (pc' := 104) C 0 dX7_layFree_103 rfl rfl rfl ?_
      obtain ⟨v104, e104, h⟩ := bd h
      refine jg_889 (pc' := 107) C dX7_layFree_104 rfl (gR_some e104) ?_
      refine J_iload (pc' := 109) C 3 dX7_layFree_107 rfl rfl ?_
      refine J_iload (pc' := 111) C 7 dX7_layFree_109 rfl rfl ?_
      refine J_iadd (pc' := 112) C dX7_layFree_111 rfl ?_
      obtain ⟨v112, e112, h⟩ := bd h
      refine J_iald (pc' := 113) C dX7_layFree_112 rfl e112 ?_
      refine J_aload_n (pc' := 114) C 0 dX7_layFree_113 rfl rfl rfl ?_
      obtain ⟨v114, e114, h⟩ := bd h
      refine jg_898 (pc' := 117) C dX7_layFree_114 rfl (gR_some e114) ?_
      refine J_aload_n (pc' := 118) C 0 dX7_layFree_117 rfl rfl rfl ?_
      obtain ⟨v118, e118, h⟩ := bd h
      refine jg_901 (pc' := 121) C dX7_layFree_118 rfl (gR_some e118) ?_
      refine J_iload (pc' := 123) C 7 dX7_layFree_121 rfl rfl ?_
      obtain ⟨v123, e123, h⟩ := bd h
      refine J_iald (pc' := 124) C dX7_layFree_123 rfl e123 ?_
      obtain ⟨v124, e124, h⟩ := bd h
      refine J_iald (pc' := 125) C dX7_layFree_124 rfl e124 ?_
      obtain ⟨M125, e125, h⟩ := bd h
      refine J_iast (pc' := 126) C dX7_layFree_125 rfl e125 ?_
      refine J_iinc (pc' := 129) (lv' := [(8, .int (x8 + 1)), (0, .ref x0), (2, .int x2), (3, .int x3), (4, .int x4), (5, .int x5), (6, .int x6), (7, .int x7)]) C 7 dX7_layFree_126 rfl rfl rfl (by decide) rfl ?_
      refine J_goto (tgt := 65) C dX7_layFree_129 (by decide) ?_
      refine J_sub (lv' := [(0, .ref x0), (2, .int x2), (3, .int x3), (4, .int x4), (5, .int x5), (6, .int x6), (7, .int x7), (8, .int (x8 + 1))]) [1, 2, 3, 4, 5, 6, 7, 0] rfl ?_
      exact ih _ _ _ _ _ _ _ _ _ _ h
def f_X7_layFree_L24 (N : Nat) : Nat → Nat → Int32 → Int32 → Int32 → Int32 → Int32 → A_M → Option A_M
  | 0, _, _, _, _, _, _, _ => none
  | n + 1, x0, x1, x2, x3, x4, x5, M =>
    (gI M x0 7 3).bind fun v27 =>
    if v27 ≤ x4 then
    (some M)
    else
    ((chk M x0 7).bind fun _ =>
    (f_X7_findTurn N x0 x5 M).bind fun M36 =>
    (chk M36 x0 7).bind fun _ =>
    (f_X7_choose N x0 x5 x1 x2 x3 x4 M36).bind fun M47 =>
    (gI M47 x0 7 25).bind fun v51 =>
    (gI M47 x0 7 26).bind fun v57 =>
    f_X7_layFree_L65 N (f_X7_layFree_L24 N n) N x0 x2 x3 x4 x5 v51 v57 (0 : Int32) M47)
set_option maxHeartbeats 4000000 in
set_option maxRecDepth 100000 in
theorem ok_X7_layFree_L24 {X : JX} (C : Cx X cX7_layFree RX7 11 none 4 115) (N : Nat) : ∀ (n : Nat) (x0 : Nat) (x1 : Int32) (x2 : Int32) (x3 : Int32) (x4 : Int32) (x5 : Int32) (M : A_M) (M' : A_M), f_X7_layFree_L24 N n x0 x1 x2 x3 x4 x5 M = some M' → J X 11 24 [(0, .ref x0), (1, .int x1), (2, .int x2), (3, .int x3), (4, .int x4), (5, .int x5)] [] M 0 0 none M' := by
  intro n
  induction n with
  | zero =>
    intro x0 x1 x2 x3 x4 x5 M M' h
    cases h
  | succ n ih =>
    intro x0 x1 x2 x3 x4 x5 M M' h
    rw [f_X7_layFree_L24] at h
    refine J_iload (pc' := 26) C 4 dX7_layFree_24 rfl rfl ?_
    refine J_aload_n (pc' := 27) C 0 dX7_layFree_26 rfl rfl rfl ?_
    obtain ⟨v27, e27, h⟩ := bd h
    refine jg_882 (pc' := 30) C dX7_layFree_27 rfl (gI_some e27) ?_
    refine J_icmp_ge (tgt := 253) (pc' := 33) C dX7_layFree_30 (by decide) rfl (fun c30 => ?_) (fun c30 => ?_)
    · rw [if_pos c30] at h
      obtain rfl := rt1 h
      exact J_vret C dX7_layFree_253 (Nat.zero_le _) (Nat.zero_le _)
    · rw [if_neg c30] at h
      refine J_aload_n (pc' := 34) C 0 dX7_layFree_33 rfl rfl rfl ?_
      refine J_iload (pc' := 36) C 5 dX7_layFree_34 rfl rfl ?_
      obtain ⟨_, q36, h⟩ := bd h
      obtain ⟨M36, e36, h⟩ := bd h
      refine J_cV (pc' := 39) (st := []) (st2 := []) (cs2 := 0) (sl2 := 0) C 7 rfl rfl q36 (ok_X7_findTurn N e36) mw_X7_findTurn wq_1171 rfl dX7_layFree_36 rfl rfl (Nat.le_of_ble_eq_true rfl) (by decide) (by decide) rfl rfl rfl (Nat.zero_le _) (Nat.zero_le _) ?_
      refine J_aload_n (pc' := 40) C 0 dX7_layFree_39 rfl rfl rfl ?_
      refine J_iload (pc' := 42) C 5 dX7_layFree_40 rfl rfl ?_
      refine J_iload_n (pc' := 43) C 1 dX7_layFree_42 rfl rfl rfl ?_
      refine J_iload_n (pc' := 44) C 2 dX7_layFree_43 rfl rfl rfl ?_
      refine J_iload_n (pc' := 45) C 3 dX7_layFree_44 rfl rfl rfl ?_
      refine J_iload (pc' := 47) C 4 dX7_layFree_45 rfl rfl ?_
      obtain ⟨_, q47, h⟩ := bd h
      obtain ⟨M47, e47, h⟩ := bd h
      refine J_cV (pc' := 50) (st := []) (st2 := []) (cs2 := 0) (sl2 := 0) C 7 rfl rfl q47 (ok_X7_choose N e47) mw_X7_choose wq_1178 rfl dX7_layFree_47 rfl rfl (Nat.le_of_ble_eq_true rfl) (by decide) (by decide) rfl rfl rfl (Nat.zero_le _) (Nat.zero_le _) ?_
      refine J_aload_n (pc' := 51) C 0 dX7_layFree_50 rfl rfl rfl ?_
      obtain ⟨v51, e51, h⟩ := bd h
      refine jg_904 (pc' := 54) C dX7_layFree_51 rfl (gI_some e51) ?_
      refine J_istore (pc' := 56) (lv' := [(6, .int v51), (0, .ref x0), (1, .int x1), (2, .int x2), (3, .int x3), (4, .int x4), (5, .int x5)]) C dX7_layFree_54 rfl (by decide) rfl ?_
      refine J_aload_n (pc' := 57) C 1 dX7_layFree_56 rfl rfl rfl ?_
      obtain ⟨v57, e57, h⟩ := bd h
      refine jg_905 (pc' := 60) C dX7_layFree_57 rfl (gI_some e57) ?_
      refine J_istore (pc' := 62) (lv' := [(7, .int v57), (6, .int v51), (0, .ref x0), (1, .int x1), (2, .int x2), (3, .int x3), (4, .int x4), (5, .int x5)]) C dX7_layFree_60 rfl (by decide) rfl ?_
      refine J_iconst (pc' := 63) (v := (0 : Int32)) C dX7_layFree_62 rfl (by decide) ?_
      refine J_istore (pc' := 65) (lv' := [(8, .int (0 : Int32)), (7, .int v57), (6, .int v51), (0, .ref x0), (1, .int x1), (2, .int x2), (3, .int x3), (4, .int x4), (5, .int x5)]) C dX7_layFree_63 rfl (by decide) rfl ?_
      refine J_sub (lv' := [(0, .ref x0), (2, .int x2), (3, .int x3), (4, .int x4), (5, .int x5), (6, .int v51), (7, .int v57), (8, .int (0 : Int32))]) [3, 5, 6, 7, 8, 2, 1, 0] rfl ?_
      exact ok_X7_layFree_L65 C N ih N _ _ _ _ _ _ _ _ _ _ h
def f_X7_layFree (N : Nat) (a0 : Nat) (M : A_M) : Option A_M :=
  (pV M a0 7 21 (.int (0 : Int32))).bind fun M2 =>
  (chk M2 a0 7).bind fun _ =>
  (f_X7_open N a0 (0 : Int64) (0 : Int32) (0 : Int32) M2).bind fun M9 =>
  f_X7_layFree_L24 N N a0 (1 : Int32) (0 : Int32) (0 : Int32) (0 : Int32) (0 : Int32) M9
set_option maxHeartbeats 4000000 in
set_option maxRecDepth 100000 in
theorem ok_X7_layFree (N : Nat) {a0 : Nat} {M : A_M} {M' : A_M} (h : f_X7_layFree N a0 M = some M') : Runs yX7_layFree cX7_layFree 11 none 4 115 0 0 [.ref a0] M none M' := by
  refine Runs.intro (by decide) (Nat.le_of_ble_eq_true rfl) (fun X C hnm hMC hMS => ?_)
  have C : Cx X cX7_layFree RX7 11 none 4 115 := C
  show J X 11 0 [(0, .ref a0)] [] M 0 0 none M'
  unfold f_X7_layFree at h
  refine J_aload_n (pc' := 1) C 0 dX7_layFree_0 rfl rfl rfl ?_
  refine J_iconst (pc' := 2) (v := (0 : Int32)) C dX7_layFree_1 rfl (by decide) ?_
  obtain ⟨M2, e2, h⟩ := bd h
  refine jp_900 (pc' := 5) C (fun _ => ⟨rfl, rfl⟩) dX7_layFree_2 rfl e2 ?_
  refine J_aload_n (pc' := 6) C 0 dX7_layFree_5 rfl rfl rfl ?_
  refine J_lconst (pc' := 7) (v := (0 : Int64)) C dX7_layFree_6 rfl (by decide) ?_
  refine J_iconst (pc' := 8) (v := (0 : Int32)) C dX7_layFree_7 rfl (by decide) ?_
  refine J_iconst (pc' := 9) (v := (0 : Int32)) C dX7_layFree_8 rfl (by decide) ?_
  obtain ⟨_, q9, h⟩ := bd h
  obtain ⟨M9, e9, h⟩ := bd h
  refine J_cV (pc' := 12) (st := []) (st2 := []) (cs2 := 0) (sl2 := 0) C 7 rfl rfl q9 (ok_X7_open N e9) mw_X7_open wq_1167 rfl dX7_layFree_9 rfl rfl (Nat.le_of_ble_eq_true rfl) (by decide) (by decide) rfl rfl rfl (Nat.zero_le _) (Nat.zero_le _) ?_
  refine J_iconst (pc' := 13) (v := (1 : Int32)) C dX7_layFree_12 rfl (by decide) ?_
  refine J_istore_n (pc' := 14) (lv' := [(1, .int (1 : Int32)), (0, .ref a0)]) C dX7_layFree_13 rfl rfl (by decide) rfl ?_
  refine J_iconst (pc' := 15) (v := (0 : Int32)) C dX7_layFree_14 rfl (by decide) ?_
  refine J_istore_n (pc' := 16) (lv' := [(2, .int (0 : Int32)), (1, .int (1 : Int32)), (0, .ref a0)]) C dX7_layFree_15 rfl rfl (by decide) rfl ?_
  refine J_iconst (pc' := 17) (v := (0 : Int32)) C dX7_layFree_16 rfl (by decide) ?_
  refine J_istore_n (pc' := 18) (lv' := [(3, .int (0 : Int32)), (2, .int (0 : Int32)), (1, .int (1 : Int32)), (0, .ref a0)]) C dX7_layFree_17 rfl rfl (by decide) rfl ?_
  refine J_iconst (pc' := 19) (v := (0 : Int32)) C dX7_layFree_18 rfl (by decide) ?_
  refine J_istore (pc' := 21) (lv' := [(4, .int (0 : Int32)), (3, .int (0 : Int32)), (2, .int (0 : Int32)), (1, .int (1 : Int32)), (0, .ref a0)]) C dX7_layFree_19 rfl (by decide) rfl ?_
  refine J_iconst (pc' := 22) (v := (0 : Int32)) C dX7_layFree_21 rfl (by decide) ?_
  refine J_istore (pc' := 24) (lv' := [(5, .int (0 : Int32)), (4, .int (0 : Int32)), (3, .int (0 : Int32)), (2, .int (0 : Int32)), (1, .int (1 : Int32)), (0, .ref a0)]) C dX7_layFree_22 rfl (by decide) rfl ?_
  refine J_sub (lv' := [(0, .ref a0), (1, .int (1 : Int32)), (2, .int (0 : Int32)), (3, .int (0 : Int32)), (4, .int (0 : Int32)), (5, .int (0 : Int32))]) [5, 4, 3, 2, 1, 0] rfl ?_
  exact ok_X7_layFree_L24 C N N _ _ _ _ _ _ _ _ h
def f_X7_buildFree_K97 (N : Nat) (k68 : Nat → Nat → Int32 → A_M → Option (Int32 × A_M)) (x0 : Nat) (x1 : Nat) (x3 : Int32) (s0 : Int32) (s1 : Nat) (M : A_M) : Option (Int32 × A_M) :=
  (ldI M s1 s0).bind fun v98 =>
  (stI M s1 s0 (v98 + (1 : Int32))).bind fun M101 =>
  k68 x0 x1 (x3 + 1) M101
set_option maxHeartbeats 4000000 in
set_option maxRecDepth 100000 in
theorem ok_X7_buildFree_K97 {X : JX} (C : Cx X cX7_buildFree RX7 5 (some .boolean) 5 148) (N : Nat) {k68 : Nat → Nat → Int32 → A_M → Option (Int32 × A_M)} (hk68 : ∀ (x0 : Nat) (x1 : Nat) (x3 : Int32) (M : A_M) (r : Int32) (M' : A_M), k68 x0 x1 x3 M = some (r, M') → J X 5 68 [(0, .ref x0), (1, .ref x1), (3, .int x3)] [] M 0 0 (some (.int r)) M') : ∀ (x0 : Nat) (x1 : Nat) (x3 : Int32) (s0 : Int32) (s1 : Nat) (M : A_M) (r : Int32) (M' : A_M), f_X7_buildFree_K97 N k68 x0 x1 x3 s0 s1 M = some (r, M') → J X 5 97 [(0, .ref x0), (1, .ref x1), (3, .int x3)] [.int s0, .ref s1] M 0 0 (some (.int r)) M' := by
  intro x0 x1 x3 s0 s1 M r M' h
  unfold f_X7_buildFree_K97 at h
  refine J_dup2 (pc' := 98) C dX7_buildFree_97 rfl rfl rfl ?_
  obtain ⟨v98, e98, h⟩ := bd h
  refine J_iald (pc' := 99) C dX7_buildFree_98 rfl e98 ?_
  refine J_iconst (pc' := 100) (v := (1 : Int32)) C dX7_buildFree_99 rfl (by decide) ?_
  refine J_iadd (pc' := 101) C dX7_buildFree_100 rfl ?_
  obtain ⟨M101, e101, h⟩ := bd h
  refine J_iast (pc' := 102) C dX7_buildFree_101 rfl e101 ?_
  refine J_iinc (pc' := 105) (lv' := [(3, .int (x3 + 1)), (0, .ref x0), (1, .ref x1)]) C 2 dX7_buildFree_102 rfl rfl rfl (by decide) rfl ?_
  refine J_goto (tgt := 68) C dX7_buildFree_105 (by decide) ?_
  refine J_sub (lv' := [(0, .ref x0), (1, .ref x1), (3, .int (x3 + 1))]) [1, 2, 0] rfl ?_
  exact hk68 _ _ _ _ _ _ h
def f_X7_buildFree_K263 (N : Nat) (x0 : Nat) (M : A_M) : Option (Int32 × A_M) :=
  (gR M x0 7 11).bind fun v264 =>
  (chk M x0 7).bind fun _ =>
  bnd2 (f_X7_at N x0 (0 : Int32) (1 : Int32) (0 : Int32) (0 : Int32) (0 : Int32) M) fun v273 M273 =>
  (ldJ M273 v264 v273).bind fun v276 =>
  if (lg_cmp v276 (1152921504606846976 : Int64)) < 0 then
  ((chk M273 x0 7).bind fun _ =>
  (f_X7_layFree N x0 M273).bind fun M287 =>
  some ((1 : Int32), M287))
  else
  (some ((0 : Int32), M273))
set_option maxHeartbeats 4000000 in
set_option maxRecDepth 100000 in
theorem ok_X7_buildFree_K263 {X : JX} (C : Cx X cX7_buildFree RX7 5 (some .boolean) 5 148) (N : Nat) : ∀ (x0 : Nat) (M : A_M) (r : Int32) (M' : A_M), f_X7_buildFree_K263 N x0 M = some (r, M') → J X 5 263 [(0, .ref x0)] [] M 0 0 (some (.int r)) M' := by
  intro x0 M r M' h
  unfold f_X7_buildFree_K263 at h
  refine J_aload_n (pc' := 264) C 0 dX7_buildFree_263 rfl rfl rfl ?_
  obtain ⟨v264, e264, h⟩ := bd h
  refine jg_890 (pc' := 267) C dX7_buildFree_264 rfl (gR_some e264) ?_
  refine J_aload_n (pc' := 268) C 0 dX7_buildFree_267 rfl rfl rfl ?_
  refine J_iconst (pc' := 269) (v := (0 : Int32)) C dX7_buildFree_268 rfl (by decide) ?_
  refine J_iconst (pc' := 270) (v := (1 : Int32)) C dX7_buildFree_269 rfl (by decide) ?_
  refine J_iconst (pc' := 271) (v := (0 : Int32)) C dX7_buildFree_270 rfl (by decide) ?_
  refine J_iconst (pc' := 272) (v := (0 : Int32)) C dX7_buildFree_271 rfl (by decide) ?_
  refine J_iconst (pc' := 273) (v := (0 : Int32)) C dX7_buildFree_272 rfl (by decide) ?_
  obtain ⟨_, q273, h⟩ := bd h
  obtain ⟨v273, M273, e273, h⟩ := bd2 h
  refine J_cV (pc' := 276) (st := [.ref v264]) (st2 := [.int v273, .ref v264]) (cs2 := 0) (sl2 := 0) C 7 rfl rfl q273 (ok_X7_at N e273) mw_X7_at wq_1136 rfl dX7_buildFree_273 rfl rfl (Nat.le_of_ble_eq_true rfl) (by decide) (by decide) rfl rfl rfl (Nat.zero_le _) (Nat.zero_le _) ?_
  obtain ⟨v276, e276, h⟩ := bd h
  refine J_lald (pc' := 277) C dX7_buildFree_276 rfl e276 ?_
  refine J_ldc2 (pc' := 280) C dX7_buildFree_277 rfl wq_1092 ?_
  refine J_lcmp (pc' := 281) C dX7_buildFree_280 rfl ?_
  refine J_if_lt (tgt := 286) (pc' := 284) C dX7_buildFree_281 (by decide) rfl (fun c281 => ?_) (fun c281 => ?_)
  · rw [if_pos c281] at h
    refine J_aload_n (pc' := 287) C 0 dX7_buildFree_286 rfl rfl rfl ?_
    obtain ⟨_, q287, h⟩ := bd h
    obtain ⟨M287, e287, h⟩ := bd h
    refine J_cV (pc' := 290) (st := []) (st2 := []) (cs2 := 0) (sl2 := 0) C 7 rfl rfl q287 (ok_X7_layFree N e287) mw_X7_layFree wq_1163 rfl dX7_buildFree_287 rfl rfl (Nat.le_of_ble_eq_true rfl) (by decide) (by decide) rfl rfl rfl (Nat.zero_le _) (Nat.zero_le _) ?_
    refine J_iconst (pc' := 291) (v := (1 : Int32)) C dX7_buildFree_290 rfl (by decide) ?_
    obtain ⟨rfl, rfl⟩ := rt2 h
    exact J_zret C rfl dX7_buildFree_291 (Nat.zero_le _) (Nat.zero_le _)
  · rw [if_neg c281] at h
    refine J_iconst (pc' := 285) (v := (0 : Int32)) C dX7_buildFree_284 rfl (by decide) ?_
    obtain ⟨rfl, rfl⟩ := rt2 h
    exact J_zret C rfl dX7_buildFree_285 (Nat.zero_le _) (Nat.zero_le _)
def f_X7_buildFree_L245 (N : Nat) : Nat → Nat → Int32 → A_M → Option (Int32 × A_M)
  | 0, _, _, _ => none
  | n + 1, x0, x4, M =>
    if x4 < 0 then
    (f_X7_buildFree_K263 N x0 M)
    else
    ((chk M x0 7).bind fun _ =>
    (f_X7_goThrough N x0 x4 (0 : Int32) M).bind fun M254 =>
    f_X7_buildFree_L245 N n x0 (x4 + (-1)) M254)
set_option maxHeartbeats 4000000 in
set_option maxRecDepth 100000 in
theorem ok_X7_buildFree_L245 {X : JX} (C : Cx X cX7_buildFree RX7 5 (some .boolean) 5 148) (N : Nat) : ∀ (n : Nat) (x0 : Nat) (x4 : Int32) (M : A_M) (r : Int32) (M' : A_M), f_X7_buildFree_L245 N n x0 x4 M = some (r, M') → J X 5 245 [(0, .ref x0), (4, .int x4)] [] M 0 0 (some (.int r)) M' := by
  intro n
  induction n with
  | zero =>
    intro x0 x4 M r M' h
    cases h
  | succ n ih =>
    intro x0 x4 M r M' h
    rw [f_X7_buildFree_L245] at h
    refine J_iload (pc' := 247) C 1 dX7_buildFree_245 rfl rfl ?_
    refine J_if_lt (tgt := 263) (pc' := 250) C dX7_buildFree_247 (by decide) rfl (fun c247 => ?_) (fun c247 => ?_)
    · rw [if_pos c247] at h
      refine J_sub (lv' := [(0, .ref x0)]) [0] rfl ?_
      exact ok_X7_buildFree_K263 C N _ _ _ _ h
    · rw [if_neg c247] at h
      refine J_aload_n (pc' := 251) C 0 dX7_buildFree_250 rfl rfl rfl ?_
      refine J_iload (pc' := 253) C 1 dX7_buildFree_251 rfl rfl ?_
      refine J_iconst (pc' := 254) (v := (0 : Int32)) C dX7_buildFree_253 rfl (by decide) ?_
      obtain ⟨_, q254, h⟩ := bd h
      obtain ⟨M254, e254, h⟩ := bd h
      refine J_cV (pc' := 257) (st := []) (st2 := []) (cs2 := 0) (sl2 := 0) C 7 rfl rfl q254 (ok_X7_goThrough N e254) mw_X7_goThrough wq_1140 rfl dX7_buildFree_254 rfl rfl (Nat.le_of_ble_eq_true rfl) (by decide) (by decide) rfl rfl rfl (Nat.zero_le _) (Nat.zero_le _) ?_
      refine J_iinc (pc' := 260) (lv' := [(4, .int (x4 + (-1))), (0, .ref x0)]) C 1 dX7_buildFree_257 rfl rfl rfl (by decide) rfl ?_
      refine J_goto (tgt := 245) C dX7_buildFree_260 (by decide) ?_
      refine J_sub (lv' := [(0, .ref x0), (4, .int (x4 + (-1)))]) [1, 0] rfl ?_
      exact ih _ _ _ _ _ h
def f_X7_buildFree_K239 (N : Nat) (x0 : Nat) (M : A_M) : Option (Int32 × A_M) :=
  (gI M x0 7 16).bind fun v240 =>
  f_X7_buildFree_L245 N N x0 v240 M
set_option maxHeartbeats 4000000 in
set_option maxRecDepth 100000 in
theorem ok_X7_buildFree_K239 {X : JX} (C : Cx X cX7_buildFree RX7 5 (some .boolean) 5 148) (N : Nat) : ∀ (x0 : Nat) (M : A_M) (r : Int32) (M' : A_M), f_X7_buildFree_K239 N x0 M = some (r, M') → J X 5 239 [(0, .ref x0)] [] M 0 0 (some (.int r)) M' := by
  intro x0 M r M' h
  unfold f_X7_buildFree_K239 at h
  refine J_aload_n (pc' := 240) C 0 dX7_buildFree_239 rfl rfl rfl ?_
  obtain ⟨v240, e240, h⟩ := bd h
  refine jg_895 (pc' := 243) C dX7_buildFree_240 rfl (gI_some e240) ?_
  refine J_istore (pc' := 245) (lv' := [(4, .int v240), (0, .ref x0)]) C dX7_buildFree_243 rfl (by decide) rfl ?_
  refine J_sub (lv' := [(0, .ref x0), (4, .int v240)]) [1, 0] rfl ?_
  exact ok_X7_buildFree_L245 C N N _ _ _ _ _ h
def f_X7_buildFree_L217 (N : Nat) : Nat → Nat → Int32 → A_M → Option (Int32 × A_M)
  | 0, _, _, _ => none
  | n + 1, x0, x4, M =>
    (gI M x0 7 16).bind fun v220 =>
    if v220 ≤ x4 then
    (f_X7_buildFree_K239 N x0 M)
    else
    ((chk M x0 7).bind fun _ =>
    (f_X7_goThrough N x0 x4 (1 : Int32) M).bind fun M230 =>
    f_X7_buildFree_L217 N n x0 (x4 + 1) M230)
set_option maxHeartbeats 4000000 in
set_option maxRecDepth 100000 in
theorem ok_X7_buildFree_L217 {X : JX} (C : Cx X cX7_buildFree RX7 5 (some .boolean) 5 148) (N : Nat) : ∀ (n : Nat) (x0 : Nat) (x4 : Int32) (M : A_M) (r : Int32) (M' : A_M), f_X7_buildFree_L217 N n x0 x4 M = some (r, M') → J X 5 217 [(0, .ref x0), (4, .int x4)] [] M 0 0 (some (.int r)) M' := by
  intro n
  induction n with
  | zero =>
    intro x0 x4 M r M' h
    cases h
  | succ n ih =>
    intro x0 x4 M r M' h
    rw [f_X7_buildFree_L217] at h
    refine J_iload (pc' := 219) C 1 dX7_buildFree_217 rfl rfl ?_
    refine J_aload_n (pc' := 220) C 0 dX7_buildFree_219 rfl rfl rfl ?_
    obtain ⟨v220, e220, h⟩ := bd h
    refine jg_895 (pc' := 223) C dX7_buildFree_220 rfl (gI_some e220) ?_
    refine J_icmp_ge (tgt := 239) (pc' := 226) C dX7_buildFree_223 (by decide) rfl (fun c223 => ?_) (fun c223 => ?_)
    · rw [if_pos c223] at h
      refine J_sub (lv' := [(0, .ref x0)]) [0] rfl ?_
      exact ok_X7_buildFree_K239 C N _ _ _ _ h
    · rw [if_neg c223] at h
      refine J_aload_n (pc' := 227) C 0 dX7_buildFree_226 rfl rfl rfl ?_
      refine J_iload (pc' := 229) C 1 dX7_buildFree_227 rfl rfl ?_
      refine J_iconst (pc' := 230) (v := (1 : Int32)) C dX7_buildFree_229 rfl (by decide) ?_
      obtain ⟨_, q230, h⟩ := bd h
      obtain ⟨M230, e230, h⟩ := bd h
      refine J_cV (pc' := 233) (st := []) (st2 := []) (cs2 := 0) (sl2 := 0) C 7 rfl rfl q230 (ok_X7_goThrough N e230) mw_X7_goThrough wq_1140 rfl dX7_buildFree_230 rfl rfl (Nat.le_of_ble_eq_true rfl) (by decide) (by decide) rfl rfl rfl (Nat.zero_le _) (Nat.zero_le _) ?_
      refine J_iinc (pc' := 236) (lv' := [(4, .int (x4 + 1)), (0, .ref x0)]) C 1 dX7_buildFree_233 rfl rfl rfl (by decide) rfl ?_
      refine J_goto (tgt := 217) C dX7_buildFree_236 (by decide) ?_
      refine J_sub (lv' := [(0, .ref x0), (4, .int (x4 + 1))]) [1, 0] rfl ?_
      exact ih _ _ _ _ _ h
def f_X7_buildFree_K199 (N : Nat) (x0 : Nat) (M : A_M) : Option (Int32 × A_M) :=
  (gR M x0 7 12).bind fun v200 =>
  (chk M x0 7).bind fun _ =>
  bnd2 (f_X7_at N x0 (0 : Int32) (1 : Int32) (0 : Int32) (0 : Int32) (0 : Int32) M) fun v209 M209 =>
  (stZ M209 v200 v209 (1 : Int32)).bind fun M213 =>
  f_X7_buildFree_L217 N N x0 (0 : Int32) M213
set_option maxHeartbeats 4000000 in
set_option maxRecDepth 100000 in
theorem ok_X7_buildFree_K199 {X : JX} (C : Cx X cX7_buildFree RX7 5 (some .boolean) 5 148) (N : Nat) : ∀ (x0 : Nat) (M : A_M) (r : Int32) (M' : A_M), f_X7_buildFree_K199 N x0 M = some (r, M') → J X 5 199 [(0, .ref x0)] [] M 0 0 (some (.int r)) M' := by
  intro x0 M r M' h
  unfold f_X7_buildFree_K199 at h
  refine J_aload_n (pc' := 200) C 0 dX7_buildFree_199 rfl rfl rfl ?_
  obtain ⟨v200, e200, h⟩ := bd h
  refine jg_891 (pc' := 203) C dX7_buildFree_200 rfl (gR_some e200) ?_
  refine J_aload_n (pc' := 204) C 0 dX7_buildFree_203 rfl rfl rfl ?_
  refine J_iconst (pc' := 205) (v := (0 : Int32)) C dX7_buildFree_204 rfl (by decide) ?_
  refine J_iconst (pc' := 206) (v := (1 : Int32)) C dX7_buildFree_205 rfl (by decide) ?_
  refine J_iconst (pc' := 207) (v := (0 : Int32)) C dX7_buildFree_206 rfl (by decide) ?_
  refine J_iconst (pc' := 208) (v := (0 : Int32)) C dX7_buildFree_207 rfl (by decide) ?_
  refine J_iconst (pc' := 209) (v := (0 : Int32)) C dX7_buildFree_208 rfl (by decide) ?_
  obtain ⟨_, q209, h⟩ := bd h
  obtain ⟨v209, M209, e209, h⟩ := bd2 h
  refine J_cV (pc' := 212) (st := [.ref v200]) (st2 := [.int v209, .ref v200]) (cs2 := 0) (sl2 := 0) C 7 rfl rfl q209 (ok_X7_at N e209) mw_X7_at wq_1136 rfl dX7_buildFree_209 rfl rfl (Nat.le_of_ble_eq_true rfl) (by decide) (by decide) rfl rfl rfl (Nat.zero_le _) (Nat.zero_le _) ?_
  refine J_iconst (pc' := 213) (v := (1 : Int32)) C dX7_buildFree_212 rfl (by decide) ?_
  obtain ⟨M213, e213, h⟩ := bd h
  refine J_zast (pc' := 214) C dX7_buildFree_213 rfl e213 ?_
  refine J_iconst (pc' := 215) (v := (0 : Int32)) C dX7_buildFree_214 rfl (by decide) ?_
  refine J_istore (pc' := 217) (lv' := [(4, .int (0 : Int32)), (0, .ref x0)]) C dX7_buildFree_215 rfl (by decide) rfl ?_
  refine J_sub (lv' := [(0, .ref x0), (4, .int (0 : Int32))]) [1, 0] rfl ?_
  exact ok_X7_buildFree_L217 C N N _ _ _ _ _ h
def f_X7_buildFree_L179 (N : Nat) : Nat → Nat → Int32 → Int32 → A_M → Option (Int32 × A_M)
  | 0, _, _, _, _ => none
  | n + 1, x0, x3, x4, M =>
    if x3 ≤ x4 then
    (f_X7_buildFree_K199 N x0 M)
    else
    ((gR M x0 7 12).bind fun v186 =>
    (stZ M v186 x4 (0 : Int32)).bind fun M192 =>
    f_X7_buildFree_L179 N n x0 x3 (x4 + 1) M192)
set_option maxHeartbeats 4000000 in
set_option maxRecDepth 100000 in
theorem ok_X7_buildFree_L179 {X : JX} (C : Cx X cX7_buildFree RX7 5 (some .boolean) 5 148) (N : Nat) : ∀ (n : Nat) (x0 : Nat) (x3 : Int32) (x4 : Int32) (M : A_M) (r : Int32) (M' : A_M), f_X7_buildFree_L179 N n x0 x3 x4 M = some (r, M') → J X 5 179 [(0, .ref x0), (3, .int x3), (4, .int x4)] [] M 0 0 (some (.int r)) M' := by
  intro n
  induction n with
  | zero =>
    intro x0 x3 x4 M r M' h
    cases h
  | succ n ih =>
    intro x0 x3 x4 M r M' h
    rw [f_X7_buildFree_L179] at h
    refine J_iload (pc' := 181) C 2 dX7_buildFree_179 rfl rfl ?_
    refine J_iload_n (pc' := 182) C 1 dX7_buildFree_181 rfl rfl rfl ?_
    refine J_icmp_ge (tgt := 199) (pc' := 185) C dX7_buildFree_182 (by decide) rfl (fun c182 => ?_) (fun c182 => ?_)
    · rw [if_pos c182] at h
      refine J_sub (lv' := [(0, .ref x0)]) [0] rfl ?_
      exact ok_X7_buildFree_K199 C N _ _ _ _ h
    · rw [if_neg c182] at h
      refine J_aload_n (pc' := 186) C 0 dX7_buildFree_185 rfl rfl rfl ?_
      obtain ⟨v186, e186, h⟩ := bd h
      refine jg_891 (pc' := 189) C dX7_buildFree_186 rfl (gR_some e186) ?_
      refine J_iload (pc' := 191) C 2 dX7_buildFree_189 rfl rfl ?_
      refine J_iconst (pc' := 192) (v := (0 : Int32)) C dX7_buildFree_191 rfl (by decide) ?_
      obtain ⟨M192, e192, h⟩ := bd h
      refine J_zast (pc' := 193) C dX7_buildFree_192 rfl e192 ?_
      refine J_iinc (pc' := 196) (lv' := [(4, .int (x4 + 1)), (0, .ref x0), (3, .int x3)]) C 2 dX7_buildFree_193 rfl rfl rfl (by decide) rfl ?_
      refine J_goto (tgt := 179) C dX7_buildFree_196 (by decide) ?_
      refine J_sub (lv' := [(0, .ref x0), (3, .int x3), (4, .int (x4 + 1))]) [1, 2, 0] rfl ?_
      exact ih _ _ _ _ _ _ h
def f_X7_buildFree_K175 (N : Nat) (x0 : Nat) (s0 : Int32) (M : A_M) : Option (Int32 × A_M) :=
  f_X7_buildFree_L179 N N x0 s0 (0 : Int32) M
set_option maxHeartbeats 4000000 in
set_option maxRecDepth 100000 in
theorem ok_X7_buildFree_K175 {X : JX} (C : Cx X cX7_buildFree RX7 5 (some .boolean) 5 148) (N : Nat) : ∀ (x0 : Nat) (s0 : Int32) (M : A_M) (r : Int32) (M' : A_M), f_X7_buildFree_K175 N x0 s0 M = some (r, M') → J X 5 175 [(0, .ref x0)] [.int s0] M 0 0 (some (.int r)) M' := by
  intro x0 s0 M r M' h
  unfold f_X7_buildFree_K175 at h
  refine J_istore_n (pc' := 176) (lv' := [(3, .int s0), (0, .ref x0)]) C dX7_buildFree_175 rfl rfl (by decide) rfl ?_
  refine J_iconst (pc' := 177) (v := (0 : Int32)) C dX7_buildFree_176 rfl (by decide) ?_
  refine J_istore (pc' := 179) (lv' := [(4, .int (0 : Int32)), (3, .int s0), (0, .ref x0)]) C dX7_buildFree_177 rfl (by decide) rfl ?_
  refine J_sub (lv' := [(0, .ref x0), (3, .int s0), (4, .int (0 : Int32))]) [2, 1, 0] rfl ?_
  exact ok_X7_buildFree_L179 C N N _ _ _ _ _ _ h
def f_X7_buildFree_K160 (N : Nat) (x0 : Nat) (M : A_M) : Option (Int32 × A_M) :=
  (gI M x0 7 14).bind fun v161 =>
  if v161 = 0 then
  (f_X7_buildFree_K175 N x0 (216600 : Int32) M)
  else
  (f_X7_buildFree_K175 N x0 (15625 : Int32) M)
set_option maxHeartbeats 4000000 in
set_option maxRecDepth 100000 in
theorem ok_X7_buildFree_K160 {X : JX} (C : Cx X cX7_buildFree RX7 5 (some .boolean) 5 148) (N : Nat) : ∀ (x0 : Nat) (M : A_M) (r : Int32) (M' : A_M), f_X7_buildFree_K160 N x0 M = some (r, M') → J X 5 160 [(0, .ref x0)] [] M 0 0 (some (.int r)) M' := by
  intro x0 M r M' h
  unfold f_X7_buildFree_K160 at h
  refine J_aload_n (pc' := 161) C 0 dX7_buildFree_160 rfl rfl rfl ?_
  obtain ⟨v161, e161, h⟩ := bd h
  refine jg_893 (pc' := 164) C dX7_buildFree_161 rfl (gI_some e161) ?_
  refine J_if_eq (tgt := 173) (pc' := 167) C dX7_buildFree_164 (by decide) rfl (fun c164 => ?_) (fun c164 => ?_)
  · rw [if_pos c164] at h
    refine J_ldc (pc' := 175) C dX7_buildFree_173 rfl wq_878 ?_
    refine J_sub (lv' := [(0, .ref x0)]) [0] rfl ?_
    exact ok_X7_buildFree_K175 C N _ _ _ _ _ h
  · rw [if_neg c164] at h
    refine J_sipush (pc' := 170) (v := (15625 : Int32)) C dX7_buildFree_167 rfl (by decide) ?_
    refine J_goto (tgt := 175) C dX7_buildFree_170 (by decide) ?_
    refine J_sub (lv' := [(0, .ref x0)]) [0] rfl ?_
    exact ok_X7_buildFree_K175 C N _ _ _ _ _ h
def f_X7_buildFree_L122 (N : Nat) : Nat → Nat → Nat → Int32 → A_M → Option (Int32 × A_M)
  | 0, _, _, _, _ => none
  | n + 1, x0, x1, x3, M =>
    (gI M x0 7 3).bind fun v124 =>
    if v124 ≤ x3 then
    (f_X7_buildFree_K160 N x0 M)
    else
    ((gR M x0 7 13).bind fun v131 =>
    (gR M x0 7 13).bind fun v138 =>
    (ldJ M v138 x3).bind fun v142 =>
    (gR M x0 7 10).bind fun v145 =>
    (ldI M v145 x3).bind fun v149 =>
    (ldI M x1 v149).bind fun v150 =>
    (stJ M v131 (x3 + (1 : Int32)) (v142 + (v150.toInt64))).bind fun M153 =>
    f_X7_buildFree_L122 N n x0 x1 (x3 + 1) M153)
set_option maxHeartbeats 4000000 in
set_option maxRecDepth 100000 in
theorem ok_X7_buildFree_L122 {X : JX} (C : Cx X cX7_buildFree RX7 5 (some .boolean) 5 148) (N : Nat) : ∀ (n : Nat) (x0 : Nat) (x1 : Nat) (x3 : Int32) (M : A_M) (r : Int32) (M' : A_M), f_X7_buildFree_L122 N n x0 x1 x3 M = some (r, M') → J X 5 122 [(0, .ref x0), (1, .ref x1), (3, .int x3)] [] M 0 0 (some (.int r)) M' := by
  intro n
  induction n with
  | zero =>
    intro x0 x1 x3 M r M' h
    cases h
  | succ n ih =>
    intro x0 x1 x3 M r M' h
    rw [f_X7_buildFree_L122] at h
    refine J_iload_n (pc' := 123) C 2 dX7_buildFree_122 rfl rfl rfl ?_
    refine J_aload_n (pc' := 124) C 0 dX7_buildFree_123 rfl rfl rfl ?_
    obtain ⟨v124, e124, h⟩ := bd h
    refine jg_882 (pc' := 127) C dX7_buildFree_124 rfl (gI_some e124) ?_
    refine J_icmp_ge (tgt := 160) (pc' := 130) C dX7_buildFree_127 (by decide) rfl (fun c127 => ?_) (fun c127 => ?_)
    · rw [if_pos c127] at h
      refine J_sub (lv' := [(0, .ref x0)]) [0] rfl ?_
      exact ok_X7_buildFree_K160 C N _ _ _ _ h
    · rw [if_neg c127] at h
      refine J_aload_n (pc' := 131) C 0 dX7_buildFree_130 rfl rfl rfl ?_
      obtain ⟨v131, e131, h⟩ := bd h
      refine jg_892 (pc' := 134) C dX7_buildFree_131 rfl (gR_some e131) ?_
      refine J_iload_n (pc' := 135) C 2 dX7_buildFree_134 rfl rfl rfl ?_
      refine J_iconst (pc' := 136) (v := (1 : Int32)) C dX7_buildFree_135 rfl (by decide) ?_
      refine J_iadd (pc' := 137) C dX7_buildFree_136 rfl ?_
      refine J_aload_n (pc' := 138) C 0 dX7_buildFree_137 rfl rfl rfl ?_
      obtain ⟨v138, e138, h⟩ := bd h
      refine jg_892 (pc' := 141) C dX7_buildFree_138 rfl (gR_some e138) ?_
      refine J_iload_n (pc' := 142) C 2 dX7_buildFree_141 rfl rfl rfl ?_
      obtain ⟨v142, e142, h⟩ := bd h
      refine J_lald (pc' := 143) C dX7_buildFree_142 rfl e142 ?_
      refine J_aload_n (pc' := 144) C 1 dX7_buildFree_143 rfl rfl rfl ?_
      refine J_aload_n (pc' := 145) C 0 dX7_buildFree_144 rfl rfl rfl ?_
      obtain ⟨v145, e145, h⟩ := bd h
      refine jg_889 (pc' := 148) C dX7_buildFree_145 rfl (gR_some e145) ?_
      refine J_iload_n (pc' := 149) C 2 dX7_buildFree_148 rfl rfl rfl ?_
      obtain ⟨v149, e149, h⟩ := bd h
      refine J_iald (pc' := 150) C dX7_buildFree_149 rfl e149 ?_
      obtain ⟨v150, e150, h⟩ := bd h
      refine J_iald (pc' := 151) C dX7_buildFree_150 rfl e150 ?_
      refine J_i2l (pc' := 152) C dX7_buildFree_151 rfl ?_
      refine J_ladd (pc' := 153) C dX7_buildFree_152 rfl ?_
      obtain ⟨M153, e153, h⟩ := bd h
      refine J_last (pc' := 154) C dX7_buildFree_153 rfl e153 ?_
      refine J_iinc (pc' := 157) (lv' := [(3, .int (x3 + 1)), (0, .ref x0), (1, .ref x1)]) C 2 dX7_buildFree_154 rfl rfl rfl (by decide) rfl ?_
      refine J_goto (tgt := 122) C dX7_buildFree_157 (by decide) ?_
      refine J_sub (lv' := [(0, .ref x0), (1, .ref x1), (3, .int (x3 + 1))]) [1, 2, 0] rfl ?_
      exact ih _ _ _ _ _ _ h
def f_X7_buildFree_K108 (N : Nat) (x0 : Nat) (x1 : Nat) (M : A_M) : Option (Int32 × A_M) :=
  (chk M x0 7).bind fun _ =>
  (f_X7_rankBy N x0 x1 M).bind fun M110 =>
  (gR M110 x0 7 13).bind fun v114 =>
  (stJ M110 v114 (0 : Int32) (0 : Int64)).bind fun M119 =>
  f_X7_buildFree_L122 N N x0 x1 (0 : Int32) M119
set_option maxHeartbeats 4000000 in
set_option maxRecDepth 100000 in
theorem ok_X7_buildFree_K108 {X : JX} (C : Cx X cX7_buildFree RX7 5 (some .boolean) 5 148) (N : Nat) : ∀ (x0 : Nat) (x1 : Nat) (M : A_M) (r : Int32) (M' : A_M), f_X7_buildFree_K108 N x0 x1 M = some (r, M') → J X 5 108 [(0, .ref x0), (1, .ref x1)] [] M 0 0 (some (.int r)) M' := by
  intro x0 x1 M r M' h
  unfold f_X7_buildFree_K108 at h
  refine J_aload_n (pc' := 109) C 0 dX7_buildFree_108 rfl rfl rfl ?_
  refine J_aload_n (pc' := 110) C 1 dX7_buildFree_109 rfl rfl rfl ?_
  obtain ⟨_, q110, h⟩ := bd h
  obtain ⟨M110, e110, h⟩ := bd h
  refine J_cV (pc' := 113) (st := []) (st2 := []) (cs2 := 0) (sl2 := 0) C 7 rfl rfl q110 (ok_X7_rankBy N e110) mw_X7_rankBy wq_1132 rfl dX7_buildFree_110 rfl rfl (Nat.le_of_ble_eq_true rfl) (by decide) (by decide) rfl rfl rfl (Nat.zero_le _) (Nat.zero_le _) ?_
  refine J_aload_n (pc' := 114) C 0 dX7_buildFree_113 rfl rfl rfl ?_
  obtain ⟨v114, e114, h⟩ := bd h
  refine jg_892 (pc' := 117) C dX7_buildFree_114 rfl (gR_some e114) ?_
  refine J_iconst (pc' := 118) (v := (0 : Int32)) C dX7_buildFree_117 rfl (by decide) ?_
  refine J_lconst (pc' := 119) (v := (0 : Int64)) C dX7_buildFree_118 rfl (by decide) ?_
  obtain ⟨M119, e119, h⟩ := bd h
  refine J_last (pc' := 120) C dX7_buildFree_119 rfl e119 ?_
  refine J_iconst (pc' := 121) (v := (0 : Int32)) C dX7_buildFree_120 rfl (by decide) ?_
  refine J_istore_n (pc' := 122) (lv' := [(3, .int (0 : Int32)), (0, .ref x0), (1, .ref x1)]) C dX7_buildFree_121 rfl rfl (by decide) rfl ?_
  refine J_sub (lv' := [(0, .ref x0), (1, .ref x1), (3, .int (0 : Int32))]) [1, 2, 0] rfl ?_
  exact ok_X7_buildFree_L122 C N N _ _ _ _ _ _ h
def f_X7_buildFree_L68 (N : Nat) : Nat → Nat → Nat → Int32 → A_M → Option (Int32 × A_M)
  | 0, _, _, _, _ => none
  | n + 1, x0, x1, x3, M =>
    (gI M x0 7 1).bind fun v70 =>
    if v70 ≤ x3 then
    (f_X7_buildFree_K108 N x0 x1 M)
    else
    ((gR M x0 7 17).bind fun v77 =>
    (gI M x0 7 14).bind fun v81 =>
    if v81 = 0 then
    ((gR M x0 7 0).bind fun v92 =>
    (ldI M v92 x3).bind fun v96 =>
    f_X7_buildFree_K97 N (f_X7_buildFree_L68 N n) x0 x1 x3 v96 v77 M)
    else
    (f_X7_buildFree_K97 N (f_X7_buildFree_L68 N n) x0 x1 x3 (1 : Int32) v77 M))
set_option maxHeartbeats 4000000 in
set_option maxRecDepth 100000 in
theorem ok_X7_buildFree_L68 {X : JX} (C : Cx X cX7_buildFree RX7 5 (some .boolean) 5 148) (N : Nat) : ∀ (n : Nat) (x0 : Nat) (x1 : Nat) (x3 : Int32) (M : A_M) (r : Int32) (M' : A_M), f_X7_buildFree_L68 N n x0 x1 x3 M = some (r, M') → J X 5 68 [(0, .ref x0), (1, .ref x1), (3, .int x3)] [] M 0 0 (some (.int r)) M' := by
  intro n
  induction n with
  | zero =>
    intro x0 x1 x3 M r M' h
    cases h
  | succ n ih =>
    intro x0 x1 x3 M r M' h
    rw [f_X7_buildFree_L68] at h
    refine J_iload_n (pc' := 69) C 2 dX7_buildFree_68 rfl rfl rfl ?_
    refine J_aload_n (pc' := 70) C 0 dX7_buildFree_69 rfl rfl rfl ?_
    obtain ⟨v70, e70, h⟩ := bd h
    refine jg_880 (pc' := 73) C dX7_buildFree_70 rfl (gI_some e70) ?_
    refine J_icmp_ge (tgt := 108) (pc' := 76) C dX7_buildFree_73 (by decide) rfl (fun c73 => ?_) (fun c73 => ?_)
    · rw [if_pos c73] at h
      refine J_sub (lv' := [(0, .ref x0), (1, .ref x1)]) [0, 1] rfl ?_
      exact ok_X7_buildFree_K108 C N _ _ _ _ _ h
    · rw [if_neg c73] at h
      refine J_aload_n (pc' := 77) C 0 dX7_buildFree_76 rfl rfl rfl ?_
      obtain ⟨v77, e77, h⟩ := bd h
      refine jg_896 (pc' := 80) C dX7_buildFree_77 rfl (gR_some e77) ?_
      refine J_aload_n (pc' := 81) C 0 dX7_buildFree_80 rfl rfl rfl ?_
      obtain ⟨v81, e81, h⟩ := bd h
      refine jg_893 (pc' := 84) C dX7_buildFree_81 rfl (gI_some e81) ?_
      refine J_if_eq (tgt := 91) (pc' := 87) C dX7_buildFree_84 (by decide) rfl (fun c84 => ?_) (fun c84 => ?_)
      · rw [if_pos c84] at h
        refine J_aload_n (pc' := 92) C 0 dX7_buildFree_91 rfl rfl rfl ?_
        obtain ⟨v92, e92, h⟩ := bd h
        refine jg_879 (pc' := 95) C dX7_buildFree_92 rfl (gR_some e92) ?_
        refine J_iload_n (pc' := 96) C 2 dX7_buildFree_95 rfl rfl rfl ?_
        obtain ⟨v96, e96, h⟩ := bd h
        refine J_iald (pc' := 97) C dX7_buildFree_96 rfl e96 ?_
        refine J_sub (lv' := [(0, .ref x0), (1, .ref x1), (3, .int x3)]) [0, 1, 2] rfl ?_
        exact ok_X7_buildFree_K97 C N ih _ _ _ _ _ _ _ _ h
      · rw [if_neg c84] at h
        refine J_iconst (pc' := 88) (v := (1 : Int32)) C dX7_buildFree_87 rfl (by decide) ?_
        refine J_goto (tgt := 97) C dX7_buildFree_88 (by decide) ?_
        refine J_sub (lv' := [(0, .ref x0), (1, .ref x1), (3, .int x3)]) [0, 1, 2] rfl ?_
        exact ok_X7_buildFree_K97 C N ih _ _ _ _ _ _ _ _ h
def f_X7_buildFree_K66 (N : Nat) (x0 : Nat) (x1 : Nat) (M : A_M) : Option (Int32 × A_M) :=
  f_X7_buildFree_L68 N N x0 x1 (0 : Int32) M
set_option maxHeartbeats 4000000 in
set_option maxRecDepth 100000 in
theorem ok_X7_buildFree_K66 {X : JX} (C : Cx X cX7_buildFree RX7 5 (some .boolean) 5 148) (N : Nat) : ∀ (x0 : Nat) (x1 : Nat) (M : A_M) (r : Int32) (M' : A_M), f_X7_buildFree_K66 N x0 x1 M = some (r, M') → J X 5 66 [(0, .ref x0), (1, .ref x1)] [] M 0 0 (some (.int r)) M' := by
  intro x0 x1 M r M' h
  unfold f_X7_buildFree_K66 at h
  refine J_iconst (pc' := 67) (v := (0 : Int32)) C dX7_buildFree_66 rfl (by decide) ?_
  refine J_istore_n (pc' := 68) (lv' := [(3, .int (0 : Int32)), (0, .ref x0), (1, .ref x1)]) C dX7_buildFree_67 rfl rfl (by decide) rfl ?_
  refine J_sub (lv' := [(0, .ref x0), (1, .ref x1), (3, .int (0 : Int32))]) [1, 2, 0] rfl ?_
  exact ok_X7_buildFree_L68 C N N _ _ _ _ _ _ h
def f_X7_buildFree_L48 (N : Nat) : Nat → Nat → Nat → Int32 → A_M → Option (Int32 × A_M)
  | 0, _, _, _, _ => none
  | n + 1, x0, x1, x3, M =>
    if (4 : Int32) ≤ x3 then
    (f_X7_buildFree_K66 N x0 x1 M)
    else
    ((gR M x0 7 17).bind fun v54 =>
    (stI M v54 x3 (0 : Int32)).bind fun M59 =>
    f_X7_buildFree_L48 N n x0 x1 (x3 + 1) M59)
set_option maxHeartbeats 4000000 in
set_option maxRecDepth 100000 in
theorem ok_X7_buildFree_L48 {X : JX} (C : Cx X cX7_buildFree RX7 5 (some .boolean) 5 148) (N : Nat) : ∀ (n : Nat) (x0 : Nat) (x1 : Nat) (x3 : Int32) (M : A_M) (r : Int32) (M' : A_M), f_X7_buildFree_L48 N n x0 x1 x3 M = some (r, M') → J X 5 48 [(0, .ref x0), (1, .ref x1), (3, .int x3)] [] M 0 0 (some (.int r)) M' := by
  intro n
  induction n with
  | zero =>
    intro x0 x1 x3 M r M' h
    cases h
  | succ n ih =>
    intro x0 x1 x3 M r M' h
    rw [f_X7_buildFree_L48] at h
    refine J_iload_n (pc' := 49) C 2 dX7_buildFree_48 rfl rfl rfl ?_
    refine J_iconst (pc' := 50) (v := (4 : Int32)) C dX7_buildFree_49 rfl (by decide) ?_
    refine J_icmp_ge (tgt := 66) (pc' := 53) C dX7_buildFree_50 (by decide) rfl (fun c50 => ?_) (fun c50 => ?_)
    · rw [if_pos c50] at h
      refine J_sub (lv' := [(0, .ref x0), (1, .ref x1)]) [0, 1] rfl ?_
      exact ok_X7_buildFree_K66 C N _ _ _ _ _ h
    · rw [if_neg c50] at h
      refine J_aload_n (pc' := 54) C 0 dX7_buildFree_53 rfl rfl rfl ?_
      obtain ⟨v54, e54, h⟩ := bd h
      refine jg_896 (pc' := 57) C dX7_buildFree_54 rfl (gR_some e54) ?_
      refine J_iload_n (pc' := 58) C 2 dX7_buildFree_57 rfl rfl rfl ?_
      refine J_iconst (pc' := 59) (v := (0 : Int32)) C dX7_buildFree_58 rfl (by decide) ?_
      obtain ⟨M59, e59, h⟩ := bd h
      refine J_iast (pc' := 60) C dX7_buildFree_59 rfl e59 ?_
      refine J_iinc (pc' := 63) (lv' := [(3, .int (x3 + 1)), (0, .ref x0), (1, .ref x1)]) C 2 dX7_buildFree_60 rfl rfl rfl (by decide) rfl ?_
      refine J_goto (tgt := 48) C dX7_buildFree_63 (by decide) ?_
      refine J_sub (lv' := [(0, .ref x0), (1, .ref x1), (3, .int (x3 + 1))]) [1, 2, 0] rfl ?_
      exact ih _ _ _ _ _ _ h
def f_X7_buildFree_K43 (N : Nat) (x0 : Nat) (x1 : Nat) (s0 : Int32) (s1 : Nat) (M : A_M) : Option (Int32 × A_M) :=
  (pV M s1 7 16 (.int s0)).bind fun M43 =>
  f_X7_buildFree_L48 N N x0 x1 (0 : Int32) M43
set_option maxHeartbeats 4000000 in
set_option maxRecDepth 100000 in
theorem ok_X7_buildFree_K43 {X : JX} (C : Cx X cX7_buildFree RX7 5 (some .boolean) 5 148) (N : Nat) : ∀ (x0 : Nat) (x1 : Nat) (s0 : Int32) (s1 : Nat) (M : A_M) (r : Int32) (M' : A_M), f_X7_buildFree_K43 N x0 x1 s0 s1 M = some (r, M') → J X 5 43 [(0, .ref x0), (1, .ref x1)] [.int s0, .ref s1] M 0 0 (some (.int r)) M' := by
  intro x0 x1 s0 s1 M r M' h
  unfold f_X7_buildFree_K43 at h
  obtain ⟨M43, e43, h⟩ := bd h
  refine jp_895 (pc' := 46) C (fun _ => ⟨rfl, rfl⟩) dX7_buildFree_43 rfl e43 ?_
  refine J_iconst (pc' := 47) (v := (0 : Int32)) C dX7_buildFree_46 rfl (by decide) ?_
  refine J_istore_n (pc' := 48) (lv' := [(3, .int (0 : Int32)), (0, .ref x0), (1, .ref x1)]) C dX7_buildFree_47 rfl rfl (by decide) rfl ?_
  refine J_sub (lv' := [(0, .ref x0), (1, .ref x1), (3, .int (0 : Int32))]) [1, 2, 0] rfl ?_
  exact ok_X7_buildFree_L48 C N N _ _ _ _ _ _ h
def f_X7_buildFree_K26 (N : Nat) (x0 : Nat) (x1 : Nat) (x2 : Int32) (s0 : Int32) (s1 : Nat) (M : A_M) : Option (Int32 × A_M) :=
  (pV M s1 7 15 (.int s0)).bind fun M26 =>
  (gI M26 x0 7 14).bind fun v31 =>
  if v31 = 0 then
  (f_X7_buildFree_K43 N x0 x1 (31 : Int32) x0 M26)
  else
  (f_X7_buildFree_K43 N x0 x1 x2 x0 M26)
set_option maxHeartbeats 4000000 in
set_option maxRecDepth 100000 in
theorem ok_X7_buildFree_K26 {X : JX} (C : Cx X cX7_buildFree RX7 5 (some .boolean) 5 148) (N : Nat) : ∀ (x0 : Nat) (x1 : Nat) (x2 : Int32) (s0 : Int32) (s1 : Nat) (M : A_M) (r : Int32) (M' : A_M), f_X7_buildFree_K26 N x0 x1 x2 s0 s1 M = some (r, M') → J X 5 26 [(0, .ref x0), (1, .ref x1), (2, .int x2)] [.int s0, .ref s1] M 0 0 (some (.int r)) M' := by
  intro x0 x1 x2 s0 s1 M r M' h
  unfold f_X7_buildFree_K26 at h
  obtain ⟨M26, e26, h⟩ := bd h
  refine jp_894 (pc' := 29) C (fun _ => ⟨rfl, rfl⟩) dX7_buildFree_26 rfl e26 ?_
  refine J_aload_n (pc' := 30) C 0 dX7_buildFree_29 rfl rfl rfl ?_
  refine J_aload_n (pc' := 31) C 0 dX7_buildFree_30 rfl rfl rfl ?_
  obtain ⟨v31, e31, h⟩ := bd h
  refine jg_893 (pc' := 34) C dX7_buildFree_31 rfl (gI_some e31) ?_
  refine J_if_eq (tgt := 41) (pc' := 37) C dX7_buildFree_34 (by decide) rfl (fun c34 => ?_) (fun c34 => ?_)
  · rw [if_pos c34] at h
    refine J_bipush (pc' := 43) (v := (31 : Int32)) C dX7_buildFree_41 rfl (by decide) ?_
    refine J_sub (lv' := [(0, .ref x0), (1, .ref x1)]) [0, 1] rfl ?_
    exact ok_X7_buildFree_K43 C N _ _ _ _ _ _ _ h
  · rw [if_neg c34] at h
    refine J_iload_n (pc' := 38) C 2 dX7_buildFree_37 rfl rfl rfl ?_
    refine J_goto (tgt := 43) C dX7_buildFree_38 (by decide) ?_
    refine J_sub (lv' := [(0, .ref x0), (1, .ref x1)]) [0, 1] rfl ?_
    exact ok_X7_buildFree_K43 C N _ _ _ _ _ _ _ h
def f_X7_buildFree (N : Nat) (a0 : Nat) (a1 : Nat) (a2 : Int32) (M : A_M) : Option (Int32 × A_M) :=
  (chk M a0 7).bind fun _ =>
  bnd2 (f_X7_arePricesAlike N a0 M) fun v2 M2 =>
  (zb v2).bind fun _ =>
  (pV M2 a0 7 14 (.int v2)).bind fun M5 =>
  (gI M5 a0 7 14).bind fun v10 =>
  if v10 = 0 then
  (f_X7_buildFree_K26 N a0 a1 a2 (1 : Int32) a0 M5)
  else
  ((gR M5 a0 7 0).bind fun v17 =>
  (ldI M5 v17 (0 : Int32)).bind fun v21 =>
  f_X7_buildFree_K26 N a0 a1 a2 v21 a0 M5)
set_option maxHeartbeats 4000000 in
set_option maxRecDepth 100000 in
theorem ok_X7_buildFree (N : Nat) {a0 : Nat} {a1 : Nat} {a2 : Int32} {M : A_M} {r : Int32} {M' : A_M} (h : f_X7_buildFree N a0 a1 a2 M = some (r, M')) : Runs yX7_buildFree cX7_buildFree 5 (some .boolean) 5 148 0 0 [.ref a0, .ref a1, .int a2] M (some (.int r)) M' := by
  refine Runs.intro (by decide) (Nat.le_of_ble_eq_true rfl) (fun X C hnm hMC hMS => ?_)
  have C : Cx X cX7_buildFree RX7 5 (some .boolean) 5 148 := C
  show J X 5 0 [(0, .ref a0), (1, .ref a1), (2, .int a2)] [] M 0 0 (some (.int r)) M'
  unfold f_X7_buildFree at h
  refine J_aload_n (pc' := 1) C 0 dX7_buildFree_0 rfl rfl rfl ?_
  refine J_aload_n (pc' := 2) C 0 dX7_buildFree_1 rfl rfl rfl ?_
  obtain ⟨_, q2, h⟩ := bd h
  obtain ⟨v2, M2, e2, h⟩ := bd2 h
  refine J_cV (pc' := 5) (st := [.ref a0]) (st2 := [.int v2, .ref a0]) (cs2 := 0) (sl2 := 0) C 7 rfl rfl q2 (ok_X7_arePricesAlike N e2) mw_X7_arePricesAlike wq_1124 rfl dX7_buildFree_2 rfl rfl (Nat.le_of_ble_eq_true rfl) (by decide) (by decide) rfl rfl rfl (Nat.zero_le _) (Nat.zero_le _) ?_
  obtain ⟨_, z5, h⟩ := bd h
  obtain ⟨M5, e5, h⟩ := bd h
  refine jp_893 (pc' := 8) C (zb_ok (zb_some z5)) dX7_buildFree_5 rfl e5 ?_
  refine J_aload_n (pc' := 9) C 0 dX7_buildFree_8 rfl rfl rfl ?_
  refine J_aload_n (pc' := 10) C 0 dX7_buildFree_9 rfl rfl rfl ?_
  obtain ⟨v10, e10, h⟩ := bd h
  refine jg_893 (pc' := 13) C dX7_buildFree_10 rfl (gI_some e10) ?_
  refine J_if_eq (tgt := 25) (pc' := 16) C dX7_buildFree_13 (by decide) rfl (fun c13 => ?_) (fun c13 => ?_)
  · rw [if_pos c13] at h
    refine J_iconst (pc' := 26) (v := (1 : Int32)) C dX7_buildFree_25 rfl (by decide) ?_
    refine J_sub (lv' := [(0, .ref a0), (1, .ref a1), (2, .int a2)]) [0, 1, 2] rfl ?_
    exact ok_X7_buildFree_K26 C N _ _ _ _ _ _ _ _ h
  · rw [if_neg c13] at h
    refine J_aload_n (pc' := 17) C 0 dX7_buildFree_16 rfl rfl rfl ?_
    obtain ⟨v17, e17, h⟩ := bd h
    refine jg_879 (pc' := 20) C dX7_buildFree_17 rfl (gR_some e17) ?_
    refine J_iconst (pc' := 21) (v := (0 : Int32)) C dX7_buildFree_20 rfl (by decide) ?_
    obtain ⟨v21, e21, h⟩ := bd h
    refine J_iald (pc' := 22) C dX7_buildFree_21 rfl e21 ?_
    refine J_goto (tgt := 26) C dX7_buildFree_22 (by decide) ?_
    refine J_sub (lv' := [(0, .ref a0), (1, .ref a1), (2, .int a2)]) [0, 1, 2] rfl ?_
    exact ok_X7_buildFree_K26 C N _ _ _ _ _ _ _ _ h
def f_X7_countsOf_L5 (N : Nat) : Nat → Nat → Int32 → Int64 → Int32 → A_M → Option (Int64 × A_M)
  | 0, _, _, _, _, _ => none
  | n + 1, x0, x2, x3, x5, M =>
    if x2 ≤ x5 then
    (some (x3, M))
    else
    ((gR M x0 7 2).bind fun v13 =>
    (ldI M v13 x5).bind fun v18 =>
    f_X7_countsOf_L5 N n x0 x2 (x3 + (v18.toInt64)) (x5 + 1) M)
set_option maxHeartbeats 4000000 in
set_option maxRecDepth 100000 in
theorem ok_X7_countsOf_L5 {X : JX} (C : Cx X cX7_countsOf RX7 6 (some .long) 0 0) (N : Nat) : ∀ (n : Nat) (x0 : Nat) (x2 : Int32) (x3 : Int64) (x5 : Int32) (M : A_M) (r : Int64) (M' : A_M), f_X7_countsOf_L5 N n x0 x2 x3 x5 M = some (r, M') → J X 6 5 [(0, .ref x0), (2, .int x2), (3, .long x3), (5, .int x5)] [] M 0 0 (some (.long r)) M' := by
  intro n
  induction n with
  | zero =>
    intro x0 x2 x3 x5 M r M' h
    cases h
  | succ n ih =>
    intro x0 x2 x3 x5 M r M' h
    rw [f_X7_countsOf_L5] at h
    refine J_iload (pc' := 7) C 3 dX7_countsOf_5 rfl rfl ?_
    refine J_iload_n (pc' := 8) C 1 dX7_countsOf_7 rfl rfl rfl ?_
    refine J_icmp_ge (tgt := 28) (pc' := 11) C dX7_countsOf_8 (by decide) rfl (fun c8 => ?_) (fun c8 => ?_)
    · rw [if_pos c8] at h
      refine J_lload_n (pc' := 29) C 2 dX7_countsOf_28 rfl rfl rfl ?_
      obtain ⟨rfl, rfl⟩ := rt2 h
      exact J_lret C dX7_countsOf_29 (Nat.zero_le _) (Nat.zero_le _)
    · rw [if_neg c8] at h
      refine J_lload_n (pc' := 12) C 2 dX7_countsOf_11 rfl rfl rfl ?_
      refine J_aload_n (pc' := 13) C 0 dX7_countsOf_12 rfl rfl rfl ?_
      obtain ⟨v13, e13, h⟩ := bd h
      refine jg_881 (pc' := 16) C dX7_countsOf_13 rfl (gR_some e13) ?_
      refine J_iload (pc' := 18) C 3 dX7_countsOf_16 rfl rfl ?_
      obtain ⟨v18, e18, h⟩ := bd h
      refine J_iald (pc' := 19) C dX7_countsOf_18 rfl e18 ?_
      refine J_i2l (pc' := 20) C dX7_countsOf_19 rfl ?_
      refine J_ladd (pc' := 21) C dX7_countsOf_20 rfl ?_
      refine J_lstore_n (pc' := 22) (lv' := [(3, .long (x3 + (v18.toInt64))), (0, .ref x0), (2, .int x2), (5, .int x5)]) C dX7_countsOf_21 rfl rfl (by decide) rfl ?_
      refine J_iinc (pc' := 25) (lv' := [(5, .int (x5 + 1)), (3, .long (x3 + (v18.toInt64))), (0, .ref x0), (2, .int x2)]) C 3 dX7_countsOf_22 rfl rfl rfl (by decide) rfl ?_
      refine J_goto (tgt := 5) C dX7_countsOf_25 (by decide) ?_
      refine J_sub (lv' := [(0, .ref x0), (2, .int x2), (3, .long (x3 + (v18.toInt64))), (5, .int (x5 + 1))]) [2, 3, 1, 0] rfl ?_
      exact ih _ _ _ _ _ _ _ h
def f_X7_countsOf (N : Nat) (a0 : Nat) (a1 : Int32) (a2 : Int32) (M : A_M) : Option (Int64 × A_M) :=
  f_X7_countsOf_L5 N N a0 a2 (0 : Int64) a1 M
set_option maxHeartbeats 4000000 in
set_option maxRecDepth 100000 in
theorem ok_X7_countsOf (N : Nat) {a0 : Nat} {a1 : Int32} {a2 : Int32} {M : A_M} {r : Int64} {M' : A_M} (h : f_X7_countsOf N a0 a1 a2 M = some (r, M')) : Runs yX7_countsOf cX7_countsOf 6 (some .long) 0 0 0 0 [.ref a0, .int a1, .int a2] M (some (.long r)) M' := by
  refine Runs.intro (by decide) (Nat.le_of_ble_eq_true rfl) (fun X C hnm hMC hMS => ?_)
  have C : Cx X cX7_countsOf RX7 6 (some .long) 0 0 := C
  show J X 6 0 [(0, .ref a0), (1, .int a1), (2, .int a2)] [] M 0 0 (some (.long r)) M'
  unfold f_X7_countsOf at h
  refine J_lconst (pc' := 1) (v := (0 : Int64)) C dX7_countsOf_0 rfl (by decide) ?_
  refine J_lstore_n (pc' := 2) (lv' := [(3, .long (0 : Int64)), (0, .ref a0), (1, .int a1), (2, .int a2)]) C dX7_countsOf_1 rfl rfl (by decide) rfl ?_
  refine J_iload_n (pc' := 3) C 2 dX7_countsOf_2 rfl rfl rfl ?_
  refine J_istore (pc' := 5) (lv' := [(5, .int a1), (3, .long (0 : Int64)), (0, .ref a0), (1, .int a1), (2, .int a2)]) C dX7_countsOf_3 rfl (by decide) rfl ?_
  refine J_sub (lv' := [(0, .ref a0), (2, .int a2), (3, .long (0 : Int64)), (5, .int a1)]) [2, 4, 1, 0] rfl ?_
  exact ok_X7_countsOf_L5 C N N _ _ _ _ _ _ _ h
def f_X7_costOfNode (N : Nat) (a0 : Nat) (a1 : Int32) (a2 : Int32) (M : A_M) : Option (Int64 × A_M) :=
  if (2 : Int32) ≤ (a2 - a1) then
  ((gR M a0 7 27).bind fun v12 =>
  (ldJ M v12 ((((24 : Int32) * a1) + a2) - (1 : Int32))).bind fun v23 =>
  some (v23, M))
  else
  (some ((0 : Int64), M))
set_option maxHeartbeats 4000000 in
set_option maxRecDepth 100000 in
theorem ok_X7_costOfNode (N : Nat) {a0 : Nat} {a1 : Int32} {a2 : Int32} {M : A_M} {r : Int64} {M' : A_M} (h : f_X7_costOfNode N a0 a1 a2 M = some (r, M')) : Runs yX7_costOfNode cX7_costOfNode 3 (some .long) 0 0 0 0 [.ref a0, .int a1, .int a2] M (some (.long r)) M' := by
  refine Runs.intro (by decide) (Nat.le_of_ble_eq_true rfl) (fun X C hnm hMC hMS => ?_)
  have C : Cx X cX7_costOfNode RX7 3 (some .long) 0 0 := C
  show J X 3 0 [(0, .ref a0), (1, .int a1), (2, .int a2)] [] M 0 0 (some (.long r)) M'
  unfold f_X7_costOfNode at h
  refine J_iload_n (pc' := 1) C 2 dX7_costOfNode_0 rfl rfl rfl ?_
  refine J_iload_n (pc' := 2) C 1 dX7_costOfNode_1 rfl rfl rfl ?_
  refine J_isub (pc' := 3) C dX7_costOfNode_2 rfl ?_
  refine J_iconst (pc' := 4) (v := (2 : Int32)) C dX7_costOfNode_3 rfl (by decide) ?_
  refine J_icmp_ge (tgt := 11) (pc' := 7) C dX7_costOfNode_4 (by decide) rfl (fun c4 => ?_) (fun c4 => ?_)
  · rw [if_pos c4] at h
    refine J_aload_n (pc' := 12) C 0 dX7_costOfNode_11 rfl rfl rfl ?_
    obtain ⟨v12, e12, h⟩ := bd h
    refine jg_906 (pc' := 15) C dX7_costOfNode_12 rfl (gR_some e12) ?_
    refine J_bipush (pc' := 17) (v := (24 : Int32)) C dX7_costOfNode_15 rfl (by decide) ?_
    refine J_iload_n (pc' := 18) C 1 dX7_costOfNode_17 rfl rfl rfl ?_
    refine J_imul (pc' := 19) C dX7_costOfNode_18 rfl ?_
    refine J_iload_n (pc' := 20) C 2 dX7_costOfNode_19 rfl rfl rfl ?_
    refine J_iadd (pc' := 21) C dX7_costOfNode_20 rfl ?_
    refine J_iconst (pc' := 22) (v := (1 : Int32)) C dX7_costOfNode_21 rfl (by decide) ?_
    refine J_isub (pc' := 23) C dX7_costOfNode_22 rfl ?_
    obtain ⟨v23, e23, h⟩ := bd h
    refine J_lald (pc' := 24) C dX7_costOfNode_23 rfl e23 ?_
    obtain ⟨rfl, rfl⟩ := rt2 h
    exact J_lret C dX7_costOfNode_24 (Nat.zero_le _) (Nat.zero_le _)
  · rw [if_neg c4] at h
    refine J_lconst (pc' := 8) (v := (0 : Int64)) C dX7_costOfNode_7 rfl (by decide) ?_
    refine J_goto (tgt := 24) C dX7_costOfNode_8 (by decide) ?_
    obtain ⟨rfl, rfl⟩ := rt2 h
    exact J_lret C dX7_costOfNode_24 (Nat.zero_le _) (Nat.zero_le _)
def f_X7_dealt (N : Nat) (a0 : Nat) (a1 : Int32) (a2 : Int32) (a3 : Int32) (a4 : Int32) (a5 : Int32) (M : A_M) : Option (Int64 × A_M) :=
  (gR M a0 7 28).bind fun v1 =>
  (ldJ M v1 (((30 : Int32) * (a3 + (1 : Int32))) + a5)).bind fun v13 =>
  if (a5 - a4) = ((a2 - a1) + (1 : Int32)) then
  (some ((1152921504606846976 : Int64), M))
  else
  (if (lg_cmp v13 (1152921504606846976 : Int64)) < 0 then
  ((gR M a0 7 0).bind fun v43 =>
  (ldI M v43 a3).bind fun v47 =>
  (chk M a0 7).bind fun _ =>
  bnd2 (f_X7_countsOf N a0 a4 a5 M) fun v54 M54 =>
  (chk M54 a0 7).bind fun _ =>
  bnd2 (f_X7_costOfNode N a0 a4 a5 M54) fun v63 M63 =>
  some (((((v47.toInt64) * v54) + v63) + v13), M63))
  else
  (some ((1152921504606846976 : Int64), M)))
set_option maxHeartbeats 4000000 in
set_option maxRecDepth 100000 in
theorem ok_X7_dealt (N : Nat) {a0 : Nat} {a1 : Int32} {a2 : Int32} {a3 : Int32} {a4 : Int32} {a5 : Int32} {M : A_M} {r : Int64} {M' : A_M} (h : f_X7_dealt N a0 a1 a2 a3 a4 a5 M = some (r, M')) : Runs yX7_dealt cX7_dealt 8 (some .long) 1 25 0 0 [.ref a0, .int a1, .int a2, .int a3, .int a4, .int a5] M (some (.long r)) M' := by
  refine Runs.intro (by decide) (Nat.le_of_ble_eq_true rfl) (fun X C hnm hMC hMS => ?_)
  have C : Cx X cX7_dealt RX7 8 (some .long) 1 25 := C
  show J X 8 0 [(0, .ref a0), (1, .int a1), (2, .int a2), (3, .int a3), (4, .int a4), (5, .int a5)] [] M 0 0 (some (.long r)) M'
  unfold f_X7_dealt at h
  refine J_aload_n (pc' := 1) C 0 dX7_dealt_0 rfl rfl rfl ?_
  obtain ⟨v1, e1, h⟩ := bd h
  refine jg_907 (pc' := 4) C dX7_dealt_1 rfl (gR_some e1) ?_
  refine J_bipush (pc' := 6) (v := (30 : Int32)) C dX7_dealt_4 rfl (by decide) ?_
  refine J_iload_n (pc' := 7) C 3 dX7_dealt_6 rfl rfl rfl ?_
  refine J_iconst (pc' := 8) (v := (1 : Int32)) C dX7_dealt_7 rfl (by decide) ?_
  refine J_iadd (pc' := 9) C dX7_dealt_8 rfl ?_
  refine J_imul (pc' := 10) C dX7_dealt_9 rfl ?_
  refine J_iload (pc' := 12) C 5 dX7_dealt_10 rfl rfl ?_
  refine J_iadd (pc' := 13) C dX7_dealt_12 rfl ?_
  obtain ⟨v13, e13, h⟩ := bd h
  refine J_lald (pc' := 14) C dX7_dealt_13 rfl e13 ?_
  refine J_lstore (pc' := 16) (lv' := [(6, .long v13), (0, .ref a0), (1, .int a1), (2, .int a2), (3, .int a3), (4, .int a4), (5, .int a5)]) C dX7_dealt_14 rfl (by decide) rfl ?_
  refine J_iload (pc' := 18) C 6 dX7_dealt_16 rfl rfl ?_
  refine J_iload (pc' := 20) C 5 dX7_dealt_18 rfl rfl ?_
  refine J_isub (pc' := 21) C dX7_dealt_20 rfl ?_
  refine J_iload_n (pc' := 22) C 3 dX7_dealt_21 rfl rfl rfl ?_
  refine J_iload_n (pc' := 23) C 2 dX7_dealt_22 rfl rfl rfl ?_
  refine J_isub (pc' := 24) C dX7_dealt_23 rfl ?_
  refine J_iconst (pc' := 25) (v := (1 : Int32)) C dX7_dealt_24 rfl (by decide) ?_
  refine J_iadd (pc' := 26) C dX7_dealt_25 rfl ?_
  refine J_icmp_eq (tgt := 38) (pc' := 29) C dX7_dealt_26 (by decide) rfl (fun c26 => ?_) (fun c26 => ?_)
  · rw [if_pos c26] at h
    refine J_ldc2 (pc' := 41) C dX7_dealt_38 rfl wq_1092 ?_
    obtain ⟨rfl, rfl⟩ := rt2 h
    exact J_lret C dX7_dealt_41 (Nat.zero_le _) (Nat.zero_le _)
  · rw [if_neg c26] at h
    refine J_lload (pc' := 31) C 0 dX7_dealt_29 rfl rfl ?_
    refine J_ldc2 (pc' := 34) C dX7_dealt_31 rfl wq_1092 ?_
    refine J_lcmp (pc' := 35) C dX7_dealt_34 rfl ?_
    refine J_if_lt (tgt := 42) (pc' := 38) C dX7_dealt_35 (by decide) rfl (fun c35 => ?_) (fun c35 => ?_)
    · rw [if_pos c35] at h
      refine J_aload_n (pc' := 43) C 1 dX7_dealt_42 rfl rfl rfl ?_
      obtain ⟨v43, e43, h⟩ := bd h
      refine jg_879 (pc' := 46) C dX7_dealt_43 rfl (gR_some e43) ?_
      refine J_iload_n (pc' := 47) C 4 dX7_dealt_46 rfl rfl rfl ?_
      obtain ⟨v47, e47, h⟩ := bd h
      refine J_iald (pc' := 48) C dX7_dealt_47 rfl e47 ?_
      refine J_i2l (pc' := 49) C dX7_dealt_48 rfl ?_
      refine J_aload_n (pc' := 50) C 1 dX7_dealt_49 rfl rfl rfl ?_
      refine J_iload (pc' := 52) C 5 dX7_dealt_50 rfl rfl ?_
      refine J_iload (pc' := 54) C 6 dX7_dealt_52 rfl rfl ?_
      obtain ⟨_, q54, h⟩ := bd h
      obtain ⟨v54, M54, e54, h⟩ := bd2 h
      refine J_cV (pc' := 57) (st := [.long (v47.toInt64)]) (st2 := [.long v54, .long (v47.toInt64)]) (cs2 := 0) (sl2 := 0) C 7 rfl rfl q54 (ok_X7_countsOf N e54) mw_X7_countsOf wq_1097 rfl dX7_dealt_54 rfl rfl (Nat.le_of_ble_eq_true rfl) (by decide) (by decide) rfl rfl rfl (Nat.zero_le _) (Nat.zero_le _) ?_
      refine J_lmul (pc' := 58) C dX7_dealt_57 rfl ?_
      refine J_aload_n (pc' := 59) C 1 dX7_dealt_58 rfl rfl rfl ?_
      refine J_iload (pc' := 61) C 5 dX7_dealt_59 rfl rfl ?_
      refine J_iload (pc' := 63) C 6 dX7_dealt_61 rfl rfl ?_
      obtain ⟨_, q63, h⟩ := bd h
      obtain ⟨v63, M63, e63, h⟩ := bd2 h
      refine J_cV (pc' := 66) (st := [.long ((v47.toInt64) * v54)]) (st2 := [.long v63, .long ((v47.toInt64) * v54)]) (cs2 := 0) (sl2 := 0) C 7 rfl rfl q63 (ok_X7_costOfNode N e63) mw_X7_costOfNode wq_1101 rfl dX7_dealt_63 rfl rfl (Nat.le_of_ble_eq_true rfl) (by decide) (by decide) rfl rfl rfl (Nat.zero_le _) (Nat.zero_le _) ?_
      refine J_ladd (pc' := 67) C dX7_dealt_66 rfl ?_
      refine J_lload (pc' := 69) C 0 dX7_dealt_67 rfl rfl ?_
      refine J_ladd (pc' := 70) C dX7_dealt_69 rfl ?_
      obtain ⟨rfl, rfl⟩ := rt2 h
      exact J_lret C dX7_dealt_70 (Nat.zero_le _) (Nat.zero_le _)
    · rw [if_neg c35] at h
      refine J_ldc2 (pc' := 41) C dX7_dealt_38 rfl wq_1092 ?_
      obtain ⟨rfl, rfl⟩ := rt2 h
      exact J_lret C dX7_dealt_41 (Nat.zero_le _) (Nat.zero_le _)
def f_X7_findDeals_K36 (N : Nat) (k2 : Nat → Int32 → Int32 → Int32 → A_M → Option A_M) (x0 : Nat) (x1 : Int32) (x2 : Int32) (x3 : Int32) (s0 : Int64) (s1 : Int32) (s2 : Nat) (M : A_M) : Option A_M :=
  (stJ M s2 s1 s0).bind fun M36 =>
  k2 x0 x1 x2 (x3 + 1) M36
set_option maxHeartbeats 4000000 in
set_option maxRecDepth 100000 in
theorem ok_X7_findDeals_K36 {X : JX} (C : Cx X cX7_findDeals RX7 10 none 2 52) (N : Nat) {k2 : Nat → Int32 → Int32 → Int32 → A_M → Option A_M} (hk2 : ∀ (x0 : Nat) (x1 : Int32) (x2 : Int32) (x3 : Int32) (M : A_M) (M' : A_M), k2 x0 x1 x2 x3 M = some M' → J X 10 2 [(0, .ref x0), (1, .int x1), (2, .int x2), (3, .int x3)] [] M 0 0 none M') : ∀ (x0 : Nat) (x1 : Int32) (x2 : Int32) (x3 : Int32) (s0 : Int64) (s1 : Int32) (s2 : Nat) (M : A_M) (M' : A_M), f_X7_findDeals_K36 N k2 x0 x1 x2 x3 s0 s1 s2 M = some M' → J X 10 36 [(0, .ref x0), (1, .int x1), (2, .int x2), (3, .int x3)] [.long s0, .int s1, .ref s2] M 0 0 none M' := by
  intro x0 x1 x2 x3 s0 s1 s2 M M' h
  unfold f_X7_findDeals_K36 at h
  obtain ⟨M36, e36, h⟩ := bd h
  refine J_last (pc' := 37) C dX7_findDeals_36 rfl e36 ?_
  refine J_iinc (pc' := 40) (lv' := [(3, .int (x3 + 1)), (0, .ref x0), (1, .int x1), (2, .int x2)]) C 3 dX7_findDeals_37 rfl rfl rfl (by decide) rfl ?_
  refine J_goto (tgt := 2) C dX7_findDeals_40 (by decide) ?_
  refine J_sub (lv' := [(0, .ref x0), (1, .int x1), (2, .int x2), (3, .int (x3 + 1))]) [1, 2, 3, 0] rfl ?_
  exact hk2 _ _ _ _ _ _ h
def f_X7_findDeals_K110 (N : Nat) (k50 : Nat → Int32 → Int32 → Int32 → A_M → Option A_M) (k57 : Nat → Int32 → Int32 → Int32 → Int32 → A_M → Option A_M) (k74 : Nat → Int32 → Int32 → Int32 → Int32 → Int64 → Int32 → A_M → Option A_M) (x0 : Nat) (x1 : Int32) (x2 : Int32) (x3 : Int32) (x4 : Int32) (x7 : Int32) (s0 : Int64) (M : A_M) : Option A_M :=
  k74 x0 x1 x2 x3 x4 s0 (x7 + 1) M
set_option maxHeartbeats 4000000 in
set_option maxRecDepth 100000 in
theorem ok_X7_findDeals_K110 {X : JX} (C : Cx X cX7_findDeals RX7 10 none 2 52) (N : Nat) {k50 : Nat → Int32 → Int32 → Int32 → A_M → Option A_M} (hk50 : ∀ (x0 : Nat) (x1 : Int32) (x2 : Int32) (x3 : Int32) (M : A_M) (M' : A_M), k50 x0 x1 x2 x3 M = some M' → J X 10 50 [(0, .ref x0), (1, .int x1), (2, .int x2), (3, .int x3)] [] M 0 0 none M') {k57 : Nat → Int32 → Int32 → Int32 → Int32 → A_M → Option A_M} (hk57 : ∀ (x0 : Nat) (x1 : Int32) (x2 : Int32) (x3 : Int32) (x4 : Int32) (M : A_M) (M' : A_M), k57 x0 x1 x2 x3 x4 M = some M' → J X 10 57 [(0, .ref x0), (1, .int x1), (2, .int x2), (3, .int x3), (4, .int x4)] [] M 0 0 none M') {k74 : Nat → Int32 → Int32 → Int32 → Int32 → Int64 → Int32 → A_M → Option A_M} (hk74 : ∀ (x0 : Nat) (x1 : Int32) (x2 : Int32) (x3 : Int32) (x4 : Int32) (x5 : Int64) (x7 : Int32) (M : A_M) (M' : A_M), k74 x0 x1 x2 x3 x4 x5 x7 M = some M' → J X 10 74 [(0, .ref x0), (1, .int x1), (2, .int x2), (3, .int x3), (4, .int x4), (5, .long x5), (7, .int x7)] [] M 0 0 none M') : ∀ (x0 : Nat) (x1 : Int32) (x2 : Int32) (x3 : Int32) (x4 : Int32) (x7 : Int32) (s0 : Int64) (M : A_M) (M' : A_M), f_X7_findDeals_K110 N k50 k57 k74 x0 x1 x2 x3 x4 x7 s0 M = some M' → J X 10 110 [(0, .ref x0), (1, .int x1), (2, .int x2), (3, .int x3), (4, .int x4), (7, .int x7)] [.long s0] M 0 0 none M' := by
  intro x0 x1 x2 x3 x4 x7 s0 M M' h
  unfold f_X7_findDeals_K110 at h
  refine J_lstore (pc' := 112) (lv' := [(5, .long s0), (0, .ref x0), (1, .int x1), (2, .int x2), (3, .int x3), (4, .int x4), (7, .int x7)]) C dX7_findDeals_110 rfl (by decide) rfl ?_
  refine J_iinc (pc' := 115) (lv' := [(7, .int (x7 + 1)), (5, .long s0), (0, .ref x0), (1, .int x1), (2, .int x2), (3, .int x3), (4, .int x4)]) C 6 dX7_findDeals_112 rfl rfl rfl (by decide) rfl ?_
  refine J_goto (tgt := 74) C dX7_findDeals_115 (by decide) ?_
  refine J_sub (lv' := [(0, .ref x0), (1, .int x1), (2, .int x2), (3, .int x3), (4, .int x4), (5, .long s0), (7, .int (x7 + 1))]) [2, 3, 4, 5, 6, 1, 0] rfl ?_
  exact hk74 _ _ _ _ _ _ _ _ _ h
def f_X7_findDeals_K118 (N : Nat) (k50 : Nat → Int32 → Int32 → Int32 → A_M → Option A_M) (k57 : Nat → Int32 → Int32 → Int32 → Int32 → A_M → Option A_M) (x0 : Nat) (x1 : Int32) (x2 : Int32) (x3 : Int32) (x4 : Int32) (x5 : Int64) (M : A_M) : Option A_M :=
  (gR M x0 7 28).bind fun v119 =>
  (stJ M v119 (((30 : Int32) * x3) + x4) x5).bind fun M131 =>
  k57 x0 x1 x2 x3 (x4 + 1) M131
set_option maxHeartbeats 4000000 in
set_option maxRecDepth 100000 in
theorem ok_X7_findDeals_K118 {X : JX} (C : Cx X cX7_findDeals RX7 10 none 2 52) (N : Nat) {k50 : Nat → Int32 → Int32 → Int32 → A_M → Option A_M} (hk50 : ∀ (x0 : Nat) (x1 : Int32) (x2 : Int32) (x3 : Int32) (M : A_M) (M' : A_M), k50 x0 x1 x2 x3 M = some M' → J X 10 50 [(0, .ref x0), (1, .int x1), (2, .int x2), (3, .int x3)] [] M 0 0 none M') {k57 : Nat → Int32 → Int32 → Int32 → Int32 → A_M → Option A_M} (hk57 : ∀ (x0 : Nat) (x1 : Int32) (x2 : Int32) (x3 : Int32) (x4 : Int32) (M : A_M) (M' : A_M), k57 x0 x1 x2 x3 x4 M = some M' → J X 10 57 [(0, .ref x0), (1, .int x1), (2, .int x2), (3, .int x3), (4, .int x4)] [] M 0 0 none M') : ∀ (x0 : Nat) (x1 : Int32) (x2 : Int32) (x3 : Int32) (x4 : Int32) (x5 : Int64) (M : A_M) (M' : A_M), f_X7_findDeals_K118 N k50 k57 x0 x1 x2 x3 x4 x5 M = some M' → J X 10 118 [(0, .ref x0), (1, .int x1), (2, .int x2), (3, .int x3), (4, .int x4), (5, .long x5)] [] M 0 0 none M' := by
  intro x0 x1 x2 x3 x4 x5 M M' h
  unfold f_X7_findDeals_K118 at h
  refine J_aload_n (pc' := 119) C 0 dX7_findDeals_118 rfl rfl rfl ?_
  obtain ⟨v119, e119, h⟩ := bd h
  refine jg_907 (pc' := 122) C dX7_findDeals_119 rfl (gR_some e119) ?_
  refine J_bipush (pc' := 124) (v := (30 : Int32)) C dX7_findDeals_122 rfl (by decide) ?_
  refine J_iload_n (pc' := 125) C 3 dX7_findDeals_124 rfl rfl rfl ?_
  refine J_imul (pc' := 126) C dX7_findDeals_125 rfl ?_
  refine J_iload (pc' := 128) C 4 dX7_findDeals_126 rfl rfl ?_
  refine J_iadd (pc' := 129) C dX7_findDeals_128 rfl ?_
  refine J_lload (pc' := 131) C 5 dX7_findDeals_129 rfl rfl ?_
  obtain ⟨M131, e131, h⟩ := bd h
  refine J_last (pc' := 132) C dX7_findDeals_131 rfl e131 ?_
  refine J_iinc (pc' := 135) (lv' := [(4, .int (x4 + 1)), (0, .ref x0), (1, .int x1), (2, .int x2), (3, .int x3), (5, .long x5)]) C 4 dX7_findDeals_132 rfl rfl rfl (by decide) rfl ?_
  refine J_goto (tgt := 57) C dX7_findDeals_135 (by decide) ?_
  refine J_sub (lv' := [(0, .ref x0), (1, .int x1), (2, .int x2), (3, .int x3), (4, .int (x4 + 1))]) [1, 2, 3, 4, 0] rfl ?_
  exact hk57 _ _ _ _ _ _ _ h
def f_X7_findDeals_L74 (N : Nat) (k50 : Nat → Int32 → Int32 → Int32 → A_M → Option A_M) (k57 : Nat → Int32 → Int32 → Int32 → Int32 → A_M → Option A_M) : Nat → Nat → Int32 → Int32 → Int32 → Int32 → Int64 → Int32 → A_M → Option A_M
  | 0, _, _, _, _, _, _, _, _ => none
  | n + 1, x0, x1, x2, x3, x4, x5, x7, M =>
    if (x2 + (1 : Int32)) < x7 then
    (f_X7_findDeals_K118 N k50 k57 x0 x1 x2 x3 x4 x5 M)
    else
    ((chk M x0 7).bind fun _ =>
    bnd2 (f_X7_dealt N x0 x1 x2 x3 x4 x7 M) fun v90 M90 =>
    if 0 ≤ (lg_cmp v90 x5) then
    (f_X7_findDeals_K110 N k50 k57 (f_X7_findDeals_L74 N k50 k57 n) x0 x1 x2 x3 x4 x7 x5 M90)
    else
    (f_X7_findDeals_K110 N k50 k57 (f_X7_findDeals_L74 N k50 k57 n) x0 x1 x2 x3 x4 x7 v90 M90))
set_option maxHeartbeats 4000000 in
set_option maxRecDepth 100000 in
theorem ok_X7_findDeals_L74 {X : JX} (C : Cx X cX7_findDeals RX7 10 none 2 52) (N : Nat) {k50 : Nat → Int32 → Int32 → Int32 → A_M → Option A_M} (hk50 : ∀ (x0 : Nat) (x1 : Int32) (x2 : Int32) (x3 : Int32) (M : A_M) (M' : A_M), k50 x0 x1 x2 x3 M = some M' → J X 10 50 [(0, .ref x0), (1, .int x1), (2, .int x2), (3, .int x3)] [] M 0 0 none M') {k57 : Nat → Int32 → Int32 → Int32 → Int32 → A_M → Option A_M} (hk57 : ∀ (x0 : Nat) (x1 : Int32) (x2 : Int32) (x3 : Int32) (x4 : Int32) (M : A_M) (M' : A_M), k57 x0 x1 x2 x3 x4 M = some M' → J X 10 57 [(0, .ref x0), (1, .int x1), (2, .int x2), (3, .int x3), (4, .int x4)] [] M 0 0 none M') : ∀ (n : Nat) (x0 : Nat) (x1 : Int32) (x2 : Int32) (x3 : Int32) (x4 : Int32) (x5 : Int64) (x7 : Int32) (M : A_M) (M' : A_M), f_X7_findDeals_L74 N k50 k57 n x0 x1 x2 x3 x4 x5 x7 M = some M' → J X 10 74 [(0, .ref x0), (1, .int x1), (2, .int x2), (3, .int x3), (4, .int x4), (5, .long x5), (7, .int x7)] [] M 0 0 none M' := by
  intro n
  induction n with
  | zero =>
    intro x0 x1 x2 x3 x4 x5 x7 M M' h
    cases h
  | succ n ih =>
    intro x0 x1 x2 x3 x4 x5 x7 M M' h
    rw [f_X7_findDeals_L74] at h
    refine J_iload (pc' := 76) C 6 dX7_findDeals_74 rfl rfl ?_
    refine J_iload_n (pc' := 77) C 2 dX7_findDeals_76 rfl rfl rfl ?_
    refine J_iconst (pc' := 78) (v := (1 : Int32)) C dX7_findDeals_77 rfl (by decide) ?_
    refine J_iadd (pc' := 79) C dX7_findDeals_78 rfl ?_
    refine J_icmp_gt (tgt := 118) (pc' := 82) C dX7_findDeals_79 (by decide) rfl (fun c79 => ?_) (fun c79 => ?_)
    · rw [if_pos c79] at h
      refine J_sub (lv' := [(0, .ref x0), (1, .int x1), (2, .int x2), (3, .int x3), (4, .int x4), (5, .long x5)]) [0, 1, 2, 3, 4, 5] rfl ?_
      exact ok_X7_findDeals_K118 C N hk50 hk57 _ _ _ _ _ _ _ _ h
    · rw [if_neg c79] at h
      refine J_aload_n (pc' := 83) C 0 dX7_findDeals_82 rfl rfl rfl ?_
      refine J_iload_n (pc' := 84) C 1 dX7_findDeals_83 rfl rfl rfl ?_
      refine J_iload_n (pc' := 85) C 2 dX7_findDeals_84 rfl rfl rfl ?_
      refine J_iload_n (pc' := 86) C 3 dX7_findDeals_85 rfl rfl rfl ?_
      refine J_iload (pc' := 88) C 4 dX7_findDeals_86 rfl rfl ?_
      refine J_iload (pc' := 90) C 6 dX7_findDeals_88 rfl rfl ?_
      obtain ⟨_, q90, h⟩ := bd h
      obtain ⟨v90, M90, e90, h⟩ := bd2 h
      refine J_cV (pc' := 93) (st := []) (st2 := [.long v90]) (cs2 := 0) (sl2 := 0) C 7 rfl rfl q90 (ok_X7_dealt N e90) mw_X7_dealt wq_1093 rfl dX7_findDeals_90 rfl rfl (Nat.le_of_ble_eq_true rfl) (by decide) (by decide) rfl rfl rfl (Nat.zero_le _) (Nat.zero_le _) ?_
      refine J_lstore (pc' := 95) (lv' := [(8, .long v90), (0, .ref x0), (1, .int x1), (2, .int x2), (3, .int x3), (4, .int x4), (5, .long x5), (7, .int x7)]) C dX7_findDeals_93 rfl (by decide) rfl ?_
      refine J_lload (pc' := 97) C 0 dX7_findDeals_95 rfl rfl ?_
      refine J_lload (pc' := 99) C 6 dX7_findDeals_97 rfl rfl ?_
      refine J_lcmp (pc' := 100) C dX7_findDeals_99 rfl ?_
      refine J_if_ge (tgt := 108) (pc' := 103) C dX7_findDeals_100 (by decide) rfl (fun c100 => ?_) (fun c100 => ?_)
      · rw [if_pos c100] at h
        refine J_lload (pc' := 110) C 6 dX7_findDeals_108 rfl rfl ?_
        refine J_sub (lv' := [(0, .ref x0), (1, .int x1), (2, .int x2), (3, .int x3), (4, .int x4), (7, .int x7)]) [1, 2, 3, 4, 5, 7] rfl ?_
        exact ok_X7_findDeals_K110 C N hk50 hk57 ih _ _ _ _ _ _ _ _ _ h
      · rw [if_neg c100] at h
        refine J_lload (pc' := 105) C 0 dX7_findDeals_103 rfl rfl ?_
        refine J_goto (tgt := 110) C dX7_findDeals_105 (by decide) ?_
        refine J_sub (lv' := [(0, .ref x0), (1, .int x1), (2, .int x2), (3, .int x3), (4, .int x4), (7, .int x7)]) [1, 2, 3, 4, 5, 7] rfl ?_
        exact ok_X7_findDeals_K110 C N hk50 hk57 ih _ _ _ _ _ _ _ _ _ h
def f_X7_findDeals_K138 (N : Nat) (k50 : Nat → Int32 → Int32 → Int32 → A_M → Option A_M) (x0 : Nat) (x1 : Int32) (x2 : Int32) (x3 : Int32) (M : A_M) : Option A_M :=
  k50 x0 x1 x2 (x3 + (-1)) M
set_option maxHeartbeats 4000000 in
set_option maxRecDepth 100000 in
theorem ok_X7_findDeals_K138 {X : JX} (C : Cx X cX7_findDeals RX7 10 none 2 52) (N : Nat) {k50 : Nat → Int32 → Int32 → Int32 → A_M → Option A_M} (hk50 : ∀ (x0 : Nat) (x1 : Int32) (x2 : Int32) (x3 : Int32) (M : A_M) (M' : A_M), k50 x0 x1 x2 x3 M = some M' → J X 10 50 [(0, .ref x0), (1, .int x1), (2, .int x2), (3, .int x3)] [] M 0 0 none M') : ∀ (x0 : Nat) (x1 : Int32) (x2 : Int32) (x3 : Int32) (M : A_M) (M' : A_M), f_X7_findDeals_K138 N k50 x0 x1 x2 x3 M = some M' → J X 10 138 [(0, .ref x0), (1, .int x1), (2, .int x2), (3, .int x3)] [] M 0 0 none M' := by
  intro x0 x1 x2 x3 M M' h
  unfold f_X7_findDeals_K138 at h
  refine J_iinc (pc' := 141) (lv' := [(3, .int (x3 + (-1))), (0, .ref x0), (1, .int x1), (2, .int x2)]) C 3 dX7_findDeals_138 rfl rfl rfl (by decide) rfl ?_
  refine J_goto (tgt := 50) C dX7_findDeals_141 (by decide) ?_
  refine J_sub (lv' := [(0, .ref x0), (1, .int x1), (2, .int x2), (3, .int (x3 + (-1)))]) [1, 2, 3, 0] rfl ?_
  exact hk50 _ _ _ _ _ _ h
def f_X7_findDeals_L57 (N : Nat) (k50 : Nat → Int32 → Int32 → Int32 → A_M → Option A_M) : Nat → Nat → Int32 → Int32 → Int32 → Int32 → A_M → Option A_M
  | 0, _, _, _, _, _, _ => none
  | n + 1, x0, x1, x2, x3, x4, M =>
    if (x2 + (1 : Int32)) < x4 then
    (f_X7_findDeals_K138 N k50 x0 x1 x2 x3 M)
    else
    (f_X7_findDeals_L74 N k50 (f_X7_findDeals_L57 N k50 n) N x0 x1 x2 x3 x4 (1152921504606846976 : Int64) x4 M)
set_option maxHeartbeats 4000000 in
set_option maxRecDepth 100000 in
theorem ok_X7_findDeals_L57 {X : JX} (C : Cx X cX7_findDeals RX7 10 none 2 52) (N : Nat) {k50 : Nat → Int32 → Int32 → Int32 → A_M → Option A_M} (hk50 : ∀ (x0 : Nat) (x1 : Int32) (x2 : Int32) (x3 : Int32) (M : A_M) (M' : A_M), k50 x0 x1 x2 x3 M = some M' → J X 10 50 [(0, .ref x0), (1, .int x1), (2, .int x2), (3, .int x3)] [] M 0 0 none M') : ∀ (n : Nat) (x0 : Nat) (x1 : Int32) (x2 : Int32) (x3 : Int32) (x4 : Int32) (M : A_M) (M' : A_M), f_X7_findDeals_L57 N k50 n x0 x1 x2 x3 x4 M = some M' → J X 10 57 [(0, .ref x0), (1, .int x1), (2, .int x2), (3, .int x3), (4, .int x4)] [] M 0 0 none M' := by
  intro n
  induction n with
  | zero =>
    intro x0 x1 x2 x3 x4 M M' h
    cases h
  | succ n ih =>
    intro x0 x1 x2 x3 x4 M M' h
    rw [f_X7_findDeals_L57] at h
    refine J_iload (pc' := 59) C 4 dX7_findDeals_57 rfl rfl ?_
    refine J_iload_n (pc' := 60) C 2 dX7_findDeals_59 rfl rfl rfl ?_
    refine J_iconst (pc' := 61) (v := (1 : Int32)) C dX7_findDeals_60 rfl (by decide) ?_
    refine J_iadd (pc' := 62) C dX7_findDeals_61 rfl ?_
    refine J_icmp_gt (tgt := 138) (pc' := 65) C dX7_findDeals_62 (by decide) rfl (fun c62 => ?_) (fun c62 => ?_)
    · rw [if_pos c62] at h
      refine J_sub (lv' := [(0, .ref x0), (1, .int x1), (2, .int x2), (3, .int x3)]) [0, 1, 2, 3] rfl ?_
      exact ok_X7_findDeals_K138 C N hk50 _ _ _ _ _ _ h
    · rw [if_neg c62] at h
      refine J_ldc2 (pc' := 68) C dX7_findDeals_65 rfl wq_1092 ?_
      refine J_lstore (pc' := 70) (lv' := [(5, .long (1152921504606846976 : Int64)), (0, .ref x0), (1, .int x1), (2, .int x2), (3, .int x3), (4, .int x4)]) C dX7_findDeals_68 rfl (by decide) rfl ?_
      refine J_iload (pc' := 72) C 5 dX7_findDeals_70 rfl rfl ?_
      refine J_istore (pc' := 74) (lv' := [(7, .int x4), (5, .long (1152921504606846976 : Int64)), (0, .ref x0), (1, .int x1), (2, .int x2), (3, .int x3), (4, .int x4)]) C dX7_findDeals_72 rfl (by decide) rfl ?_
      refine J_sub (lv' := [(0, .ref x0), (1, .int x1), (2, .int x2), (3, .int x3), (4, .int x4), (5, .long (1152921504606846976 : Int64)), (7, .int x4)]) [2, 3, 4, 5, 6, 1, 0] rfl ?_
      exact ok_X7_findDeals_L74 C N hk50 ih N _ _ _ _ _ _ _ _ _ h
def f_X7_findDeals_L50 (N : Nat) : Nat → Nat → Int32 → Int32 → Int32 → A_M → Option A_M
  | 0, _, _, _, _, _ => none
  | n + 1, x0, x1, x2, x3, M =>
    if x3 < 0 then
    (some M)
    else
    (f_X7_findDeals_L57 N (f_X7_findDeals_L50 N n) N x0 x1 x2 x3 x1 M)
set_option maxHeartbeats 4000000 in
set_option maxRecDepth 100000 in
theorem ok_X7_findDeals_L50 {X : JX} (C : Cx X cX7_findDeals RX7 10 none 2 52) (N : Nat) : ∀ (n : Nat) (x0 : Nat) (x1 : Int32) (x2 : Int32) (x3 : Int32) (M : A_M) (M' : A_M), f_X7_findDeals_L50 N n x0 x1 x2 x3 M = some M' → J X 10 50 [(0, .ref x0), (1, .int x1), (2, .int x2), (3, .int x3)] [] M 0 0 none M' := by
  intro n
  induction n with
  | zero =>
    intro x0 x1 x2 x3 M M' h
    cases h
  | succ n ih =>
    intro x0 x1 x2 x3 M M' h
    rw [f_X7_findDeals_L50] at h
    refine J_iload_n (pc' := 51) C 3 dX7_findDeals_50 rfl rfl rfl ?_
    refine J_if_lt (tgt := 144) (pc' := 54) C dX7_findDeals_51 (by decide) rfl (fun c51 => ?_) (fun c51 => ?_)
    · rw [if_pos c51] at h
      obtain rfl := rt1 h
      exact J_vret C dX7_findDeals_144 (Nat.zero_le _) (Nat.zero_le _)
    · rw [if_neg c51] at h
      refine J_iload_n (pc' := 55) C 1 dX7_findDeals_54 rfl rfl rfl ?_
      refine J_istore (pc' := 57) (lv' := [(4, .int x1), (0, .ref x0), (1, .int x1), (2, .int x2), (3, .int x3)]) C dX7_findDeals_55 rfl (by decide) rfl ?_
      refine J_sub (lv' := [(0, .ref x0), (1, .int x1), (2, .int x2), (3, .int x3), (4, .int x1)]) [1, 2, 3, 4, 0] rfl ?_
      exact ok_X7_findDeals_L57 C N ih N _ _ _ _ _ _ _ h
def f_X7_findDeals_K43 (N : Nat) (x0 : Nat) (x1 : Int32) (x2 : Int32) (M : A_M) : Option A_M :=
  (gI M x0 7 1).bind fun v44 =>
  f_X7_findDeals_L50 N N x0 x1 x2 (v44 - (1 : Int32)) M
set_option maxHeartbeats 4000000 in
set_option maxRecDepth 100000 in
theorem ok_X7_findDeals_K43 {X : JX} (C : Cx X cX7_findDeals RX7 10 none 2 52) (N : Nat) : ∀ (x0 : Nat) (x1 : Int32) (x2 : Int32) (M : A_M) (M' : A_M), f_X7_findDeals_K43 N x0 x1 x2 M = some M' → J X 10 43 [(0, .ref x0), (1, .int x1), (2, .int x2)] [] M 0 0 none M' := by
  intro x0 x1 x2 M M' h
  unfold f_X7_findDeals_K43 at h
  refine J_aload_n (pc' := 44) C 0 dX7_findDeals_43 rfl rfl rfl ?_
  obtain ⟨v44, e44, h⟩ := bd h
  refine jg_880 (pc' := 47) C dX7_findDeals_44 rfl (gI_some e44) ?_
  refine J_iconst (pc' := 48) (v := (1 : Int32)) C dX7_findDeals_47 rfl (by decide) ?_
  refine J_isub (pc' := 49) C dX7_findDeals_48 rfl ?_
  refine J_istore_n (pc' := 50) (lv' := [(3, .int (v44 - (1 : Int32))), (0, .ref x0), (1, .int x1), (2, .int x2)]) C dX7_findDeals_49 rfl rfl (by decide) rfl ?_
  refine J_sub (lv' := [(0, .ref x0), (1, .int x1), (2, .int x2), (3, .int (v44 - (1 : Int32)))]) [1, 2, 3, 0] rfl ?_
  exact ok_X7_findDeals_L50 C N N _ _ _ _ _ _ h
def f_X7_findDeals_L2 (N : Nat) : Nat → Nat → Int32 → Int32 → Int32 → A_M → Option A_M
  | 0, _, _, _, _, _ => none
  | n + 1, x0, x1, x2, x3, M =>
    if (x2 + (1 : Int32)) < x3 then
    (f_X7_findDeals_K43 N x0 x1 x2 M)
    else
    ((gR M x0 7 28).bind fun v10 =>
    (gI M x0 7 1).bind fun v16 =>
    if x3 = (x2 + (1 : Int32)) then
    (f_X7_findDeals_K36 N (f_X7_findDeals_L2 N n) x0 x1 x2 x3 (0 : Int64) (((30 : Int32) * v16) + x3) v10 M)
    else
    (f_X7_findDeals_K36 N (f_X7_findDeals_L2 N n) x0 x1 x2 x3 (1152921504606846976 : Int64) (((30 : Int32) * v16) + x3) v10 M))
set_option maxHeartbeats 4000000 in
set_option maxRecDepth 100000 in
theorem ok_X7_findDeals_L2 {X : JX} (C : Cx X cX7_findDeals RX7 10 none 2 52) (N : Nat) : ∀ (n : Nat) (x0 : Nat) (x1 : Int32) (x2 : Int32) (x3 : Int32) (M : A_M) (M' : A_M), f_X7_findDeals_L2 N n x0 x1 x2 x3 M = some M' → J X 10 2 [(0, .ref x0), (1, .int x1), (2, .int x2), (3, .int x3)] [] M 0 0 none M' := by
  intro n
  induction n with
  | zero =>
    intro x0 x1 x2 x3 M M' h
    cases h
  | succ n ih =>
    intro x0 x1 x2 x3 M M' h
    rw [f_X7_findDeals_L2] at h
    refine J_iload_n (pc' := 3) C 3 dX7_findDeals_2 rfl rfl rfl ?_
    refine J_iload_n (pc' := 4) C 2 dX7_findDeals_3 rfl rfl rfl ?_
    refine J_iconst (pc' := 5) (v := (1 : Int32)) C dX7_findDeals_4 rfl (by decide) ?_
    refine J_iadd (pc' := 6) C dX7_findDeals_5 rfl ?_
    refine J_icmp_gt (tgt := 43) (pc' := 9) C dX7_findDeals_6 (by decide) rfl (fun c6 => ?_) (fun c6 => ?_)
    · rw [if_pos c6] at h
      refine J_sub (lv' := [(0, .ref x0), (1, .int x1), (2, .int x2)]) [0, 1, 2] rfl ?_
      exact ok_X7_findDeals_K43 C N _ _ _ _ _ h
    · rw [if_neg c6] at h
      refine J_aload_n (pc' := 10) C 0 dX7_findDeals_9 rfl rfl rfl ?_
      obtain ⟨v10, e10, h⟩ := bd h
      refine jg_907 (pc' := 13) C dX7_findDeals_10 rfl (gR_some e10) ?_
      refine J_bipush (pc' := 15) (v := (30 : Int32)) C dX7_findDeals_13 rfl (by decide) ?_
      refine J_aload_n (pc' := 16) C 0 dX7_findDeals_15 rfl rfl rfl ?_
      obtain ⟨v16, e16, h⟩ := bd h
      refine jg_880 (pc' := 19) C dX7_findDeals_16 rfl (gI_some e16) ?_
      refine J_imul (pc' := 20) C dX7_findDeals_19 rfl ?_
      refine J_iload_n (pc' := 21) C 3 dX7_findDeals_20 rfl rfl rfl ?_
      refine J_iadd (pc' := 22) C dX7_findDeals_21 rfl ?_
      refine J_iload_n (pc' := 23) C 3 dX7_findDeals_22 rfl rfl rfl ?_
      refine J_iload_n (pc' := 24) C 2 dX7_findDeals_23 rfl rfl rfl ?_
      refine J_iconst (pc' := 25) (v := (1 : Int32)) C dX7_findDeals_24 rfl (by decide) ?_
      refine J_iadd (pc' := 26) C dX7_findDeals_25 rfl ?_
      refine J_icmp_ne (tgt := 33) (pc' := 29) C dX7_findDeals_26 (by decide) rfl (fun c26 => ?_) (fun c26 => ?_)
      · rw [if_neg c26] at h
        refine J_ldc2 (pc' := 36) C dX7_findDeals_33 rfl wq_1092 ?_
        refine J_sub (lv' := [(0, .ref x0), (1, .int x1), (2, .int x2), (3, .int x3)]) [0, 1, 2, 3] rfl ?_
        exact ok_X7_findDeals_K36 C N ih _ _ _ _ _ _ _ _ _ h
      · rw [if_pos c26] at h
        refine J_lconst (pc' := 30) (v := (0 : Int64)) C dX7_findDeals_29 rfl (by decide) ?_
        refine J_goto (tgt := 36) C dX7_findDeals_30 (by decide) ?_
        refine J_sub (lv' := [(0, .ref x0), (1, .int x1), (2, .int x2), (3, .int x3)]) [0, 1, 2, 3] rfl ?_
        exact ok_X7_findDeals_K36 C N ih _ _ _ _ _ _ _ _ _ h
def f_X7_findDeals (N : Nat) (a0 : Nat) (a1 : Int32) (a2 : Int32) (M : A_M) : Option A_M :=
  f_X7_findDeals_L2 N N a0 a1 a2 a1 M
set_option maxHeartbeats 4000000 in
set_option maxRecDepth 100000 in
theorem ok_X7_findDeals (N : Nat) {a0 : Nat} {a1 : Int32} {a2 : Int32} {M : A_M} {M' : A_M} (h : f_X7_findDeals N a0 a1 a2 M = some M') : Runs yX7_findDeals cX7_findDeals 10 none 2 52 0 0 [.ref a0, .int a1, .int a2] M none M' := by
  refine Runs.intro (by decide) (Nat.le_of_ble_eq_true rfl) (fun X C hnm hMC hMS => ?_)
  have C : Cx X cX7_findDeals RX7 10 none 2 52 := C
  show J X 10 0 [(0, .ref a0), (1, .int a1), (2, .int a2)] [] M 0 0 none M'
  unfold f_X7_findDeals at h
  refine J_iload_n (pc' := 1) C 1 dX7_findDeals_0 rfl rfl rfl ?_
  refine J_istore_n (pc' := 2) (lv' := [(3, .int a1), (0, .ref a0), (1, .int a1), (2, .int a2)]) C dX7_findDeals_1 rfl rfl (by decide) rfl ?_
  refine J_sub (lv' := [(0, .ref a0), (1, .int a1), (2, .int a2), (3, .int a1)]) [1, 2, 3, 0] rfl ?_
  exact ok_X7_findDeals_L2 C N N _ _ _ _ _ _ h
