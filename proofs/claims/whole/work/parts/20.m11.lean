def f_X7_findNodes_K59 (N : Nat) (k2 : Nat → Int32 → A_M → Option A_M) (x0 : Nat) (x1 : Int32) (M : A_M) : Option A_M :=
  k2 x0 (x1 + 1) M
set_option maxHeartbeats 4000000 in
set_option maxRecDepth 100000 in
theorem ok_X7_findNodes_K59 {X : JX} (C : Cx X cX7_findNodes RX7 3 none 3 81) (N : Nat) {k2 : Nat → Int32 → A_M → Option A_M} (hk2 : ∀ (x0 : Nat) (x1 : Int32) (M : A_M) (M' : A_M), k2 x0 x1 M = some M' → J X 3 2 [(0, .ref x0), (1, .int x1)] [] M 0 0 none M') : ∀ (x0 : Nat) (x1 : Int32) (M : A_M) (M' : A_M), f_X7_findNodes_K59 N k2 x0 x1 M = some M' → J X 3 59 [(0, .ref x0), (1, .int x1)] [] M 0 0 none M' := by
  intro x0 x1 M M' h
  unfold f_X7_findNodes_K59 at h
  refine J_iinc (pc' := 62) (lv' := [(1, .int (x1 + 1)), (0, .ref x0)]) C 1 dX7_findNodes_59 rfl rfl rfl (by decide) rfl ?_
  refine J_goto (tgt := 2) C dX7_findNodes_62 (by decide) ?_
  refine J_sub (lv' := [(0, .ref x0), (1, .int (x1 + 1))]) [1, 0] rfl ?_
  exact hk2 _ _ _ _ h
def f_X7_findNodes_L12 (N : Nat) (k2 : Nat → Int32 → A_M → Option A_M) : Nat → Nat → Int32 → Int32 → A_M → Option A_M
  | 0, _, _, _, _ => none
  | n + 1, x0, x1, x2, M =>
    (gI M x0 7 3).bind fun v16 =>
    if v16 < (x2 + x1) then
    (f_X7_findNodes_K59 N k2 x0 x1 M)
    else
    ((chk M x0 7).bind fun _ =>
    (f_X7_findDeals N x0 x2 ((x2 + x1) - (1 : Int32)) M).bind fun M29 =>
    (gR M29 x0 7 27).bind fun v33 =>
    (gR M29 x0 7 28).bind fun v47 =>
    (ldJ M29 v47 x2).bind fun v51 =>
    (stJ M29 v33 (((((24 : Int32) * x2) + x2) + x1) - (1 : Int32)) v51).bind fun M52 =>
    f_X7_findNodes_L12 N k2 n x0 x1 (x2 + 1) M52)
set_option maxHeartbeats 4000000 in
set_option maxRecDepth 100000 in
theorem ok_X7_findNodes_L12 {X : JX} (C : Cx X cX7_findNodes RX7 3 none 3 81) (N : Nat) {k2 : Nat → Int32 → A_M → Option A_M} (hk2 : ∀ (x0 : Nat) (x1 : Int32) (M : A_M) (M' : A_M), k2 x0 x1 M = some M' → J X 3 2 [(0, .ref x0), (1, .int x1)] [] M 0 0 none M') : ∀ (n : Nat) (x0 : Nat) (x1 : Int32) (x2 : Int32) (M : A_M) (M' : A_M), f_X7_findNodes_L12 N k2 n x0 x1 x2 M = some M' → J X 3 12 [(0, .ref x0), (1, .int x1), (2, .int x2)] [] M 0 0 none M' := by
  intro n
  induction n with
  | zero =>
    intro x0 x1 x2 M M' h
    cases h
  | succ n ih =>
    intro x0 x1 x2 M M' h
    rw [f_X7_findNodes_L12] at h
    refine J_iload_n (pc' := 13) C 2 dX7_findNodes_12 rfl rfl rfl ?_
    refine J_iload_n (pc' := 14) C 1 dX7_findNodes_13 rfl rfl rfl ?_
    refine J_iadd (pc' := 15) C dX7_findNodes_14 rfl ?_
    refine J_aload_n (pc' := 16) C 0 dX7_findNodes_15 rfl rfl rfl ?_
    obtain ⟨v16, e16, h⟩ := bd h
    refine jg_882 (pc' := 19) C dX7_findNodes_16 rfl (gI_some e16) ?_
    refine J_icmp_gt (tgt := 59) (pc' := 22) C dX7_findNodes_19 (by decide) rfl (fun c19 => ?_) (fun c19 => ?_)
    · rw [if_pos c19] at h
      refine J_sub (lv' := [(0, .ref x0), (1, .int x1)]) [0, 1] rfl ?_
      exact ok_X7_findNodes_K59 C N hk2 _ _ _ _ h
    · rw [if_neg c19] at h
      refine J_aload_n (pc' := 23) C 0 dX7_findNodes_22 rfl rfl rfl ?_
      refine J_iload_n (pc' := 24) C 2 dX7_findNodes_23 rfl rfl rfl ?_
      refine J_iload_n (pc' := 25) C 2 dX7_findNodes_24 rfl rfl rfl ?_
      refine J_iload_n (pc' := 26) C 1 dX7_findNodes_25 rfl rfl rfl ?_
      refine J_iadd (pc' := 27) C dX7_findNodes_26 rfl ?_
      refine J_iconst (pc' := 28) (v := (1 : Int32)) C dX7_findNodes_27 rfl (by decide) ?_
      refine J_isub (pc' := 29) C dX7_findNodes_28 rfl ?_
      obtain ⟨_, q29, h⟩ := bd h
      obtain ⟨M29, e29, h⟩ := bd h
      refine J_cV (pc' := 32) (st := []) (st2 := []) (cs2 := 0) (sl2 := 0) C 7 rfl rfl q29 (ok_X7_findDeals N e29) mw_X7_findDeals wq_1088 rfl dX7_findNodes_29 rfl rfl (Nat.le_of_ble_eq_true rfl) (by decide) (by decide) rfl rfl rfl (Nat.zero_le _) (Nat.zero_le _) ?_
      refine J_aload_n (pc' := 33) C 0 dX7_findNodes_32 rfl rfl rfl ?_
      obtain ⟨v33, e33, h⟩ := bd h
      refine jg_906 (pc' := 36) C dX7_findNodes_33 rfl (gR_some e33) ?_
      refine J_bipush (pc' := 38) (v := (24 : Int32)) C dX7_findNodes_36 rfl (by decide) ?_
      refine J_iload_n (pc' := 39) C 2 dX7_findNodes_38 rfl rfl rfl ?_
      refine J_imul (pc' := 40) C dX7_findNodes_39 rfl ?_
      refine J_iload_n (pc' := 41) C 2 dX7_findNodes_40 rfl rfl rfl ?_
      refine J_iadd (pc' := 42) C dX7_findNodes_41 rfl ?_
      refine J_iload_n (pc' := 43) C 1 dX7_findNodes_42 rfl rfl rfl ?_
      refine J_iadd (pc' := 44) C dX7_findNodes_43 rfl ?_
      refine J_iconst (pc' := 45) (v := (1 : Int32)) C dX7_findNodes_44 rfl (by decide) ?_
      refine J_isub (pc' := 46) C dX7_findNodes_45 rfl ?_
      refine J_aload_n (pc' := 47) C 0 dX7_findNodes_46 rfl rfl rfl ?_
      obtain ⟨v47, e47, h⟩ := bd h
      refine jg_907 (pc' := 50) C dX7_findNodes_47 rfl (gR_some e47) ?_
      refine J_iload_n (pc' := 51) C 2 dX7_findNodes_50 rfl rfl rfl ?_
      obtain ⟨v51, e51, h⟩ := bd h
      refine J_lald (pc' := 52) C dX7_findNodes_51 rfl e51 ?_
      obtain ⟨M52, e52, h⟩ := bd h
      refine J_last (pc' := 53) C dX7_findNodes_52 rfl e52 ?_
      refine J_iinc (pc' := 56) (lv' := [(2, .int (x2 + 1)), (0, .ref x0), (1, .int x1)]) C 2 dX7_findNodes_53 rfl rfl rfl (by decide) rfl ?_
      refine J_goto (tgt := 12) C dX7_findNodes_56 (by decide) ?_
      refine J_sub (lv' := [(0, .ref x0), (1, .int x1), (2, .int (x2 + 1))]) [1, 2, 0] rfl ?_
      exact ih _ _ _ _ _ h
def f_X7_findNodes_L2 (N : Nat) : Nat → Nat → Int32 → A_M → Option A_M
  | 0, _, _, _ => none
  | n + 1, x0, x1, M =>
    (gI M x0 7 3).bind fun v4 =>
    if v4 < x1 then
    (some M)
    else
    (f_X7_findNodes_L12 N (f_X7_findNodes_L2 N n) N x0 x1 (0 : Int32) M)
set_option maxHeartbeats 4000000 in
set_option maxRecDepth 100000 in
theorem ok_X7_findNodes_L2 {X : JX} (C : Cx X cX7_findNodes RX7 3 none 3 81) (N : Nat) : ∀ (n : Nat) (x0 : Nat) (x1 : Int32) (M : A_M) (M' : A_M), f_X7_findNodes_L2 N n x0 x1 M = some M' → J X 3 2 [(0, .ref x0), (1, .int x1)] [] M 0 0 none M' := by
  intro n
  induction n with
  | zero =>
    intro x0 x1 M M' h
    cases h
  | succ n ih =>
    intro x0 x1 M M' h
    rw [f_X7_findNodes_L2] at h
    refine J_iload_n (pc' := 3) C 1 dX7_findNodes_2 rfl rfl rfl ?_
    refine J_aload_n (pc' := 4) C 0 dX7_findNodes_3 rfl rfl rfl ?_
    obtain ⟨v4, e4, h⟩ := bd h
    refine jg_882 (pc' := 7) C dX7_findNodes_4 rfl (gI_some e4) ?_
    refine J_icmp_gt (tgt := 65) (pc' := 10) C dX7_findNodes_7 (by decide) rfl (fun c7 => ?_) (fun c7 => ?_)
    · rw [if_pos c7] at h
      obtain rfl := rt1 h
      exact J_vret C dX7_findNodes_65 (Nat.zero_le _) (Nat.zero_le _)
    · rw [if_neg c7] at h
      refine J_iconst (pc' := 11) (v := (0 : Int32)) C dX7_findNodes_10 rfl (by decide) ?_
      refine J_istore_n (pc' := 12) (lv' := [(2, .int (0 : Int32)), (0, .ref x0), (1, .int x1)]) C dX7_findNodes_11 rfl rfl (by decide) rfl ?_
      refine J_sub (lv' := [(0, .ref x0), (1, .int x1), (2, .int (0 : Int32))]) [1, 2, 0] rfl ?_
      exact ok_X7_findNodes_L12 C N ih N _ _ _ _ _ h
def f_X7_findNodes (N : Nat) (a0 : Nat) (M : A_M) : Option A_M :=
  f_X7_findNodes_L2 N N a0 (2 : Int32) M
set_option maxHeartbeats 4000000 in
set_option maxRecDepth 100000 in
theorem ok_X7_findNodes (N : Nat) {a0 : Nat} {M : A_M} {M' : A_M} (h : f_X7_findNodes N a0 M = some M') : Runs yX7_findNodes cX7_findNodes 3 none 3 81 0 0 [.ref a0] M none M' := by
  refine Runs.intro (by decide) (Nat.le_of_ble_eq_true rfl) (fun X C hnm hMC hMS => ?_)
  have C : Cx X cX7_findNodes RX7 3 none 3 81 := C
  show J X 3 0 [(0, .ref a0)] [] M 0 0 none M'
  unfold f_X7_findNodes at h
  refine J_iconst (pc' := 1) (v := (2 : Int32)) C dX7_findNodes_0 rfl (by decide) ?_
  refine J_istore_n (pc' := 2) (lv' := [(1, .int (2 : Int32)), (0, .ref a0)]) C dX7_findNodes_1 rfl rfl (by decide) rfl ?_
  refine J_sub (lv' := [(0, .ref a0), (1, .int (2 : Int32))]) [1, 0] rfl ?_
  exact ok_X7_findNodes_L2 C N N _ _ _ _ h
def f_X7_wait (N : Nat) (a0 : Nat) (a1 : Int32) (a2 : Int32) (a3 : Int64) (a5 : Int32) (M : A_M) : Option A_M :=
  (gR M a0 7 29).bind fun v1 =>
  (gI M a0 7 33).bind fun v5 =>
  (stI M v1 v5 a1).bind fun M9 =>
  (gR M9 a0 7 30).bind fun v11 =>
  (gI M9 a0 7 33).bind fun v15 =>
  (stI M9 v11 v15 a2).bind fun M19 =>
  (gR M19 a0 7 31).bind fun v21 =>
  (gI M19 a0 7 33).bind fun v25 =>
  (stJ M19 v21 v25 a3).bind fun M29 =>
  (gR M29 a0 7 32).bind fun v31 =>
  (gI M29 a0 7 33).bind fun v35 =>
  (stI M29 v31 v35 a5).bind fun M40 =>
  (gI M40 a0 7 33).bind fun v43 =>
  (pV M40 a0 7 33 (.int (v43 + (1 : Int32)))).bind fun M48 =>
  some M48
set_option maxHeartbeats 4000000 in
set_option maxRecDepth 100000 in
theorem ok_X7_wait (N : Nat) {a0 : Nat} {a1 : Int32} {a2 : Int32} {a3 : Int64} {a5 : Int32} {M : A_M} {M' : A_M} (h : f_X7_wait N a0 a1 a2 a3 a5 M = some M') : Runs yX7_wait cX7_wait 6 none 0 0 0 0 [.ref a0, .int a1, .int a2, .long a3, .int a5] M none M' := by
  refine Runs.intro (by decide) (Nat.le_of_ble_eq_true rfl) (fun X C hnm hMC hMS => ?_)
  have C : Cx X cX7_wait RX7 6 none 0 0 := C
  show J X 6 0 [(0, .ref a0), (1, .int a1), (2, .int a2), (3, .long a3), (5, .int a5)] [] M 0 0 none M'
  unfold f_X7_wait at h
  refine J_aload_n (pc' := 1) C 0 dX7_wait_0 rfl rfl rfl ?_
  obtain ⟨v1, e1, h⟩ := bd h
  refine jg_908 (pc' := 4) C dX7_wait_1 rfl (gR_some e1) ?_
  refine J_aload_n (pc' := 5) C 0 dX7_wait_4 rfl rfl rfl ?_
  obtain ⟨v5, e5, h⟩ := bd h
  refine jg_912 (pc' := 8) C dX7_wait_5 rfl (gI_some e5) ?_
  refine J_iload_n (pc' := 9) C 1 dX7_wait_8 rfl rfl rfl ?_
  obtain ⟨M9, e9, h⟩ := bd h
  refine J_iast (pc' := 10) C dX7_wait_9 rfl e9 ?_
  refine J_aload_n (pc' := 11) C 0 dX7_wait_10 rfl rfl rfl ?_
  obtain ⟨v11, e11, h⟩ := bd h
  refine jg_909 (pc' := 14) C dX7_wait_11 rfl (gR_some e11) ?_
  refine J_aload_n (pc' := 15) C 0 dX7_wait_14 rfl rfl rfl ?_
  obtain ⟨v15, e15, h⟩ := bd h
  refine jg_912 (pc' := 18) C dX7_wait_15 rfl (gI_some e15) ?_
  refine J_iload_n (pc' := 19) C 2 dX7_wait_18 rfl rfl rfl ?_
  obtain ⟨M19, e19, h⟩ := bd h
  refine J_iast (pc' := 20) C dX7_wait_19 rfl e19 ?_
  refine J_aload_n (pc' := 21) C 0 dX7_wait_20 rfl rfl rfl ?_
  obtain ⟨v21, e21, h⟩ := bd h
  refine jg_910 (pc' := 24) C dX7_wait_21 rfl (gR_some e21) ?_
  refine J_aload_n (pc' := 25) C 0 dX7_wait_24 rfl rfl rfl ?_
  obtain ⟨v25, e25, h⟩ := bd h
  refine jg_912 (pc' := 28) C dX7_wait_25 rfl (gI_some e25) ?_
  refine J_lload_n (pc' := 29) C 3 dX7_wait_28 rfl rfl rfl ?_
  obtain ⟨M29, e29, h⟩ := bd h
  refine J_last (pc' := 30) C dX7_wait_29 rfl e29 ?_
  refine J_aload_n (pc' := 31) C 0 dX7_wait_30 rfl rfl rfl ?_
  obtain ⟨v31, e31, h⟩ := bd h
  refine jg_911 (pc' := 34) C dX7_wait_31 rfl (gR_some e31) ?_
  refine J_aload_n (pc' := 35) C 0 dX7_wait_34 rfl rfl rfl ?_
  obtain ⟨v35, e35, h⟩ := bd h
  refine jg_912 (pc' := 38) C dX7_wait_35 rfl (gI_some e35) ?_
  refine J_iload (pc' := 40) C 4 dX7_wait_38 rfl rfl ?_
  obtain ⟨M40, e40, h⟩ := bd h
  refine J_iast (pc' := 41) C dX7_wait_40 rfl e40 ?_
  refine J_aload_n (pc' := 42) C 0 dX7_wait_41 rfl rfl rfl ?_
  refine J_dup (pc' := 43) C dX7_wait_42 rfl rfl ?_
  obtain ⟨v43, e43, h⟩ := bd h
  refine jg_912 (pc' := 46) C dX7_wait_43 rfl (gI_some e43) ?_
  refine J_iconst (pc' := 47) (v := (1 : Int32)) C dX7_wait_46 rfl (by decide) ?_
  refine J_iadd (pc' := 48) C dX7_wait_47 rfl ?_
  obtain ⟨M48, e48, h⟩ := bd h
  refine jp_912 (pc' := 51) C (fun _ => ⟨rfl, rfl⟩) dX7_wait_48 rfl e48 ?_
  obtain rfl := rt1 h
  exact J_vret C dX7_wait_51 (Nat.zero_le _) (Nat.zero_le _)
def f_X7_deal_K125 (N : Nat) (k12 : Nat → Int32 → Int32 → Int64 → Int32 → Int32 → Int32 → A_M → Option A_M) (x0 : Nat) (x1 : Int32) (x2 : Int32) (x3 : Int64) (x5 : Int32) (x7 : Int32) (x8 : Int32) (M : A_M) : Option A_M :=
  k12 x0 x1 x2 x3 x5 x8 (x7 + 1) M
set_option maxHeartbeats 4000000 in
set_option maxRecDepth 100000 in
theorem ok_X7_deal_K125 {X : JX} (C : Cx X cX7_deal RX7 11 none 3 81) (N : Nat) {k12 : Nat → Int32 → Int32 → Int64 → Int32 → Int32 → Int32 → A_M → Option A_M} (hk12 : ∀ (x0 : Nat) (x1 : Int32) (x2 : Int32) (x3 : Int64) (x5 : Int32) (x6 : Int32) (x7 : Int32) (M : A_M) (M' : A_M), k12 x0 x1 x2 x3 x5 x6 x7 M = some M' → J X 11 12 [(0, .ref x0), (1, .int x1), (2, .int x2), (3, .long x3), (5, .int x5), (6, .int x6), (7, .int x7)] [] M 0 0 none M') : ∀ (x0 : Nat) (x1 : Int32) (x2 : Int32) (x3 : Int64) (x5 : Int32) (x7 : Int32) (x8 : Int32) (M : A_M) (M' : A_M), f_X7_deal_K125 N k12 x0 x1 x2 x3 x5 x7 x8 M = some M' → J X 11 125 [(0, .ref x0), (1, .int x1), (2, .int x2), (3, .long x3), (5, .int x5), (7, .int x7), (8, .int x8)] [] M 0 0 none M' := by
  intro x0 x1 x2 x3 x5 x7 x8 M M' h
  unfold f_X7_deal_K125 at h
  refine J_iload (pc' := 127) C 6 dX7_deal_125 rfl rfl ?_
  refine J_istore (pc' := 129) (lv' := [(6, .int x8), (0, .ref x0), (1, .int x1), (2, .int x2), (3, .long x3), (5, .int x5), (7, .int x7), (8, .int x8)]) C dX7_deal_127 rfl (by decide) rfl ?_
  refine J_iinc (pc' := 132) (lv' := [(7, .int (x7 + 1)), (6, .int x8), (0, .ref x0), (1, .int x1), (2, .int x2), (3, .long x3), (5, .int x5), (8, .int x8)]) C 6 dX7_deal_129 rfl rfl rfl (by decide) rfl ?_
  refine J_goto (tgt := 12) C dX7_deal_132 (by decide) ?_
  refine J_sub (lv' := [(0, .ref x0), (1, .int x1), (2, .int x2), (3, .long x3), (5, .int x5), (6, .int x8), (7, .int (x7 + 1))]) [2, 3, 4, 5, 6, 1, 0] rfl ?_
  exact hk12 _ _ _ _ _ _ _ _ _ h
def f_X7_deal_K60 (N : Nat) (k12 : Nat → Int32 → Int32 → Int64 → Int32 → Int32 → Int32 → A_M → Option A_M) (x0 : Nat) (x1 : Int32) (x2 : Int32) (x3 : Int64) (x5 : Int32) (x6 : Int32) (x7 : Int32) (x8 : Int32) (M : A_M) : Option A_M :=
  bnd2 (f_X7_with N x3 x5 x7 M) fun v65 M65 =>
  if (x8 - x6) = (1 : Int32) then
  ((gR M65 x0 7 7).bind fun v80 =>
  (stJ M65 v80 x6 v65).bind fun M87 =>
  (gR M87 x0 7 8).bind fun v89 =>
  (stI M87 v89 x6 (x5 + (1 : Int32))).bind fun M98 =>
  f_X7_deal_K125 N k12 x0 x1 x2 x3 x5 x7 x8 M98)
  else
  (if x8 ≤ x6 then
  (f_X7_deal_K125 N k12 x0 x1 x2 x3 x5 x7 x8 M65)
  else
  ((chk M65 x0 7).bind fun _ =>
  (f_X7_wait N x0 x6 (x8 - (1 : Int32)) v65 (x5 + (1 : Int32)) M65).bind fun M122 =>
  f_X7_deal_K125 N k12 x0 x1 x2 x3 x5 x7 x8 M122))
set_option maxHeartbeats 4000000 in
set_option maxRecDepth 100000 in
theorem ok_X7_deal_K60 {X : JX} (C : Cx X cX7_deal RX7 11 none 3 81) (N : Nat) {k12 : Nat → Int32 → Int32 → Int64 → Int32 → Int32 → Int32 → A_M → Option A_M} (hk12 : ∀ (x0 : Nat) (x1 : Int32) (x2 : Int32) (x3 : Int64) (x5 : Int32) (x6 : Int32) (x7 : Int32) (M : A_M) (M' : A_M), k12 x0 x1 x2 x3 x5 x6 x7 M = some M' → J X 11 12 [(0, .ref x0), (1, .int x1), (2, .int x2), (3, .long x3), (5, .int x5), (6, .int x6), (7, .int x7)] [] M 0 0 none M') : ∀ (x0 : Nat) (x1 : Int32) (x2 : Int32) (x3 : Int64) (x5 : Int32) (x6 : Int32) (x7 : Int32) (x8 : Int32) (M : A_M) (M' : A_M), f_X7_deal_K60 N k12 x0 x1 x2 x3 x5 x6 x7 x8 M = some M' → J X 11 60 [(0, .ref x0), (1, .int x1), (2, .int x2), (3, .long x3), (5, .int x5), (6, .int x6), (7, .int x7), (8, .int x8)] [] M 0 0 none M' := by
  intro x0 x1 x2 x3 x5 x6 x7 x8 M M' h
  unfold f_X7_deal_K60 at h
  refine J_lload_n (pc' := 61) C 3 dX7_deal_60 rfl rfl rfl ?_
  refine J_iload (pc' := 63) C 4 dX7_deal_61 rfl rfl ?_
  refine J_iload (pc' := 65) C 6 dX7_deal_63 rfl rfl ?_
  obtain ⟨v65, M65, e65, h⟩ := bd2 h
  refine J_cS (pc' := 68) (st := []) (st2 := [.long v65]) (cs2 := 0) (sl2 := 0) C (ok_X7_with N e65) mw_X7_with wq_1186 rfl dX7_deal_65 rfl rfl (Nat.le_of_ble_eq_true rfl) (by decide) (by decide) rfl rfl rfl (Nat.zero_le _) (Nat.zero_le _) ?_
  refine J_lstore (pc' := 70) (lv' := [(9, .long v65), (0, .ref x0), (1, .int x1), (2, .int x2), (3, .long x3), (5, .int x5), (6, .int x6), (7, .int x7), (8, .int x8)]) C dX7_deal_68 rfl (by decide) rfl ?_
  refine J_iload (pc' := 72) C 8 dX7_deal_70 rfl rfl ?_
  refine J_iload (pc' := 74) C 6 dX7_deal_72 rfl rfl ?_
  refine J_isub (pc' := 75) C dX7_deal_74 rfl ?_
  refine J_iconst (pc' := 76) (v := (1 : Int32)) C dX7_deal_75 rfl (by decide) ?_
  refine J_icmp_ne (tgt := 102) (pc' := 79) C dX7_deal_76 (by decide) rfl (fun c76 => ?_) (fun c76 => ?_)
  · rw [if_neg c76] at h
    refine J_iload (pc' := 104) C 8 dX7_deal_102 rfl rfl ?_
    refine J_iload (pc' := 106) C 6 dX7_deal_104 rfl rfl ?_
    refine J_icmp_le (tgt := 125) (pc' := 109) C dX7_deal_106 (by decide) rfl (fun c106 => ?_) (fun c106 => ?_)
    · rw [if_pos c106] at h
      refine J_sub (lv' := [(0, .ref x0), (1, .int x1), (2, .int x2), (3, .long x3), (5, .int x5), (7, .int x7), (8, .int x8)]) [1, 2, 3, 4, 5, 7, 8] rfl ?_
      exact ok_X7_deal_K125 C N hk12 _ _ _ _ _ _ _ _ _ h
    · rw [if_neg c106] at h
      refine J_aload_n (pc' := 110) C 1 dX7_deal_109 rfl rfl rfl ?_
      refine J_iload (pc' := 112) C 6 dX7_deal_110 rfl rfl ?_
      refine J_iload (pc' := 114) C 8 dX7_deal_112 rfl rfl ?_
      refine J_iconst (pc' := 115) (v := (1 : Int32)) C dX7_deal_114 rfl (by decide) ?_
      refine J_isub (pc' := 116) C dX7_deal_115 rfl ?_
      refine J_lload (pc' := 118) C 0 dX7_deal_116 rfl rfl ?_
      refine J_iload (pc' := 120) C 5 dX7_deal_118 rfl rfl ?_
      refine J_iconst (pc' := 121) (v := (1 : Int32)) C dX7_deal_120 rfl (by decide) ?_
      refine J_iadd (pc' := 122) C dX7_deal_121 rfl ?_
      obtain ⟨_, q122, h⟩ := bd h
      obtain ⟨M122, e122, h⟩ := bd h
      refine J_cV (pc' := 125) (st := []) (st2 := []) (cs2 := 0) (sl2 := 0) C 7 rfl rfl q122 (ok_X7_wait N e122) mw_X7_wait wq_1198 rfl dX7_deal_122 rfl rfl (Nat.le_of_ble_eq_true rfl) (by decide) (by decide) rfl rfl rfl (Nat.zero_le _) (Nat.zero_le _) ?_
      refine J_sub (lv' := [(0, .ref x0), (1, .int x1), (2, .int x2), (3, .long x3), (5, .int x5), (7, .int x7), (8, .int x8)]) [1, 2, 3, 4, 5, 7, 8] rfl ?_
      exact ok_X7_deal_K125 C N hk12 _ _ _ _ _ _ _ _ _ h
  · rw [if_pos c76] at h
    refine J_aload_n (pc' := 80) C 1 dX7_deal_79 rfl rfl rfl ?_
    obtain ⟨v80, e80, h⟩ := bd h
    refine jg_886 (pc' := 83) C dX7_deal_80 rfl (gR_some e80) ?_
    refine J_iload (pc' := 85) C 6 dX7_deal_83 rfl rfl ?_
    refine J_lload (pc' := 87) C 0 dX7_deal_85 rfl rfl ?_
    obtain ⟨M87, e87, h⟩ := bd h
    refine J_last (pc' := 88) C dX7_deal_87 rfl e87 ?_
    refine J_aload_n (pc' := 89) C 1 dX7_deal_88 rfl rfl rfl ?_
    obtain ⟨v89, e89, h⟩ := bd h
    refine jg_887 (pc' := 92) C dX7_deal_89 rfl (gR_some e89) ?_
    refine J_iload (pc' := 94) C 6 dX7_deal_92 rfl rfl ?_
    refine J_iload (pc' := 96) C 5 dX7_deal_94 rfl rfl ?_
    refine J_iconst (pc' := 97) (v := (1 : Int32)) C dX7_deal_96 rfl (by decide) ?_
    refine J_iadd (pc' := 98) C dX7_deal_97 rfl ?_
    obtain ⟨M98, e98, h⟩ := bd h
    refine J_iast (pc' := 99) C dX7_deal_98 rfl e98 ?_
    refine J_goto (tgt := 125) C dX7_deal_99 (by decide) ?_
    refine J_sub (lv' := [(0, .ref x0), (1, .int x1), (2, .int x2), (3, .long x3), (5, .int x5), (7, .int x7), (8, .int x8)]) [1, 2, 3, 4, 5, 7, 8] rfl ?_
    exact ok_X7_deal_K125 C N hk12 _ _ _ _ _ _ _ _ _ h
def f_X7_deal_L25 (N : Nat) (k12 : Nat → Int32 → Int32 → Int64 → Int32 → Int32 → Int32 → A_M → Option A_M) : Nat → Nat → Int32 → Int32 → Int64 → Int32 → Int32 → Int32 → Int32 → A_M → Option A_M
  | 0, _, _, _, _, _, _, _, _, _ => none
  | n + 1, x0, x1, x2, x3, x5, x6, x7, x8, M =>
    (chk M x0 7).bind fun _ =>
    bnd2 (f_X7_dealt N x0 x1 x2 x7 x6 x8 M) fun v34 M34 =>
    (gR M34 x0 7 28).bind fun v38 =>
    (ldJ M34 v38 (((30 : Int32) * x7) + x6)).bind fun v49 =>
    if (lg_cmp v34 v49) = 0 then
    (f_X7_deal_K60 N k12 x0 x1 x2 x3 x5 x6 x7 x8 M34)
    else
    (f_X7_deal_L25 N k12 n x0 x1 x2 x3 x5 x6 x7 (x8 + 1) M34)
set_option maxHeartbeats 4000000 in
set_option maxRecDepth 100000 in
theorem ok_X7_deal_L25 {X : JX} (C : Cx X cX7_deal RX7 11 none 3 81) (N : Nat) {k12 : Nat → Int32 → Int32 → Int64 → Int32 → Int32 → Int32 → A_M → Option A_M} (hk12 : ∀ (x0 : Nat) (x1 : Int32) (x2 : Int32) (x3 : Int64) (x5 : Int32) (x6 : Int32) (x7 : Int32) (M : A_M) (M' : A_M), k12 x0 x1 x2 x3 x5 x6 x7 M = some M' → J X 11 12 [(0, .ref x0), (1, .int x1), (2, .int x2), (3, .long x3), (5, .int x5), (6, .int x6), (7, .int x7)] [] M 0 0 none M') : ∀ (n : Nat) (x0 : Nat) (x1 : Int32) (x2 : Int32) (x3 : Int64) (x5 : Int32) (x6 : Int32) (x7 : Int32) (x8 : Int32) (M : A_M) (M' : A_M), f_X7_deal_L25 N k12 n x0 x1 x2 x3 x5 x6 x7 x8 M = some M' → J X 11 25 [(0, .ref x0), (1, .int x1), (2, .int x2), (3, .long x3), (5, .int x5), (6, .int x6), (7, .int x7), (8, .int x8)] [] M 0 0 none M' := by
  intro n
  induction n with
  | zero =>
    intro x0 x1 x2 x3 x5 x6 x7 x8 M M' h
    cases h
  | succ n ih =>
    intro x0 x1 x2 x3 x5 x6 x7 x8 M M' h
    rw [f_X7_deal_L25] at h
    refine J_aload_n (pc' := 26) C 0 dX7_deal_25 rfl rfl rfl ?_
    refine J_iload_n (pc' := 27) C 1 dX7_deal_26 rfl rfl rfl ?_
    refine J_iload_n (pc' := 28) C 2 dX7_deal_27 rfl rfl rfl ?_
    refine J_iload (pc' := 30) C 6 dX7_deal_28 rfl rfl ?_
    refine J_iload (pc' := 32) C 5 dX7_deal_30 rfl rfl ?_
    refine J_iload (pc' := 34) C 7 dX7_deal_32 rfl rfl ?_
    obtain ⟨_, q34, h⟩ := bd h
    obtain ⟨v34, M34, e34, h⟩ := bd2 h
    refine J_cV (pc' := 37) (st := []) (st2 := [.long v34]) (cs2 := 0) (sl2 := 0) C 7 rfl rfl q34 (ok_X7_dealt N e34) mw_X7_dealt wq_1093 rfl dX7_deal_34 rfl rfl (Nat.le_of_ble_eq_true rfl) (by decide) (by decide) rfl rfl rfl (Nat.zero_le _) (Nat.zero_le _) ?_
    refine J_aload_n (pc' := 38) C 0 dX7_deal_37 rfl rfl rfl ?_
    obtain ⟨v38, e38, h⟩ := bd h
    refine jg_907 (pc' := 41) C dX7_deal_38 rfl (gR_some e38) ?_
    refine J_bipush (pc' := 43) (v := (30 : Int32)) C dX7_deal_41 rfl (by decide) ?_
    refine J_iload (pc' := 45) C 6 dX7_deal_43 rfl rfl ?_
    refine J_imul (pc' := 46) C dX7_deal_45 rfl ?_
    refine J_iload (pc' := 48) C 5 dX7_deal_46 rfl rfl ?_
    refine J_iadd (pc' := 49) C dX7_deal_48 rfl ?_
    obtain ⟨v49, e49, h⟩ := bd h
    refine J_lald (pc' := 50) C dX7_deal_49 rfl e49 ?_
    refine J_lcmp (pc' := 51) C dX7_deal_50 rfl ?_
    refine J_if_eq (tgt := 60) (pc' := 54) C dX7_deal_51 (by decide) rfl (fun c51 => ?_) (fun c51 => ?_)
    · rw [if_pos c51] at h
      refine J_sub (lv' := [(0, .ref x0), (1, .int x1), (2, .int x2), (3, .long x3), (5, .int x5), (6, .int x6), (7, .int x7), (8, .int x8)]) [0, 1, 2, 3, 4, 5, 6, 7] rfl ?_
      exact ok_X7_deal_K60 C N hk12 _ _ _ _ _ _ _ _ _ _ h
    · rw [if_neg c51] at h
      refine J_iinc (pc' := 57) (lv' := [(8, .int (x8 + 1)), (0, .ref x0), (1, .int x1), (2, .int x2), (3, .long x3), (5, .int x5), (6, .int x6), (7, .int x7)]) C 7 dX7_deal_54 rfl rfl rfl (by decide) rfl ?_
      refine J_goto (tgt := 25) C dX7_deal_57 (by decide) ?_
      refine J_sub (lv' := [(0, .ref x0), (1, .int x1), (2, .int x2), (3, .long x3), (5, .int x5), (6, .int x6), (7, .int x7), (8, .int (x8 + 1))]) [1, 2, 3, 4, 5, 6, 7, 0] rfl ?_
      exact ih _ _ _ _ _ _ _ _ _ _ h
def f_X7_deal_L12 (N : Nat) : Nat → Nat → Int32 → Int32 → Int64 → Int32 → Int32 → Int32 → A_M → Option A_M
  | 0, _, _, _, _, _, _, _, _ => none
  | n + 1, x0, x1, x2, x3, x5, x6, x7, M =>
    (gI M x0 7 1).bind fun v15 =>
    if v15 ≤ x7 then
    (some M)
    else
    (f_X7_deal_L25 N (f_X7_deal_L12 N n) N x0 x1 x2 x3 x5 x6 x7 x6 M)
set_option maxHeartbeats 4000000 in
set_option maxRecDepth 100000 in
theorem ok_X7_deal_L12 {X : JX} (C : Cx X cX7_deal RX7 11 none 3 81) (N : Nat) : ∀ (n : Nat) (x0 : Nat) (x1 : Int32) (x2 : Int32) (x3 : Int64) (x5 : Int32) (x6 : Int32) (x7 : Int32) (M : A_M) (M' : A_M), f_X7_deal_L12 N n x0 x1 x2 x3 x5 x6 x7 M = some M' → J X 11 12 [(0, .ref x0), (1, .int x1), (2, .int x2), (3, .long x3), (5, .int x5), (6, .int x6), (7, .int x7)] [] M 0 0 none M' := by
  intro n
  induction n with
  | zero =>
    intro x0 x1 x2 x3 x5 x6 x7 M M' h
    cases h
  | succ n ih =>
    intro x0 x1 x2 x3 x5 x6 x7 M M' h
    rw [f_X7_deal_L12] at h
    refine J_iload (pc' := 14) C 6 dX7_deal_12 rfl rfl ?_
    refine J_aload_n (pc' := 15) C 0 dX7_deal_14 rfl rfl rfl ?_
    obtain ⟨v15, e15, h⟩ := bd h
    refine jg_880 (pc' := 18) C dX7_deal_15 rfl (gI_some e15) ?_
    refine J_icmp_ge (tgt := 135) (pc' := 21) C dX7_deal_18 (by decide) rfl (fun c18 => ?_) (fun c18 => ?_)
    · rw [if_pos c18] at h
      obtain rfl := rt1 h
      exact J_vret C dX7_deal_135 (Nat.zero_le _) (Nat.zero_le _)
    · rw [if_neg c18] at h
      refine J_iload (pc' := 23) C 5 dX7_deal_21 rfl rfl ?_
      refine J_istore (pc' := 25) (lv' := [(8, .int x6), (0, .ref x0), (1, .int x1), (2, .int x2), (3, .long x3), (5, .int x5), (6, .int x6), (7, .int x7)]) C dX7_deal_23 rfl (by decide) rfl ?_
      refine J_sub (lv' := [(0, .ref x0), (1, .int x1), (2, .int x2), (3, .long x3), (5, .int x5), (6, .int x6), (7, .int x7), (8, .int x6)]) [1, 2, 3, 4, 5, 6, 7, 0] rfl ?_
      exact ok_X7_deal_L25 C N ih N _ _ _ _ _ _ _ _ _ _ h
def f_X7_deal (N : Nat) (a0 : Nat) (a1 : Int32) (a2 : Int32) (a3 : Int64) (a5 : Int32) (M : A_M) : Option A_M :=
  (chk M a0 7).bind fun _ =>
  (f_X7_findDeals N a0 a1 a2 M).bind fun M3 =>
  f_X7_deal_L12 N N a0 a1 a2 a3 a5 a1 (0 : Int32) M3
set_option maxHeartbeats 4000000 in
set_option maxRecDepth 100000 in
theorem ok_X7_deal (N : Nat) {a0 : Nat} {a1 : Int32} {a2 : Int32} {a3 : Int64} {a5 : Int32} {M : A_M} {M' : A_M} (h : f_X7_deal N a0 a1 a2 a3 a5 M = some M') : Runs yX7_deal cX7_deal 11 none 3 81 0 0 [.ref a0, .int a1, .int a2, .long a3, .int a5] M none M' := by
  refine Runs.intro (by decide) (Nat.le_of_ble_eq_true rfl) (fun X C hnm hMC hMS => ?_)
  have C : Cx X cX7_deal RX7 11 none 3 81 := C
  show J X 11 0 [(0, .ref a0), (1, .int a1), (2, .int a2), (3, .long a3), (5, .int a5)] [] M 0 0 none M'
  unfold f_X7_deal at h
  refine J_aload_n (pc' := 1) C 0 dX7_deal_0 rfl rfl rfl ?_
  refine J_iload_n (pc' := 2) C 1 dX7_deal_1 rfl rfl rfl ?_
  refine J_iload_n (pc' := 3) C 2 dX7_deal_2 rfl rfl rfl ?_
  obtain ⟨_, q3, h⟩ := bd h
  obtain ⟨M3, e3, h⟩ := bd h
  refine J_cV (pc' := 6) (st := []) (st2 := []) (cs2 := 0) (sl2 := 0) C 7 rfl rfl q3 (ok_X7_findDeals N e3) mw_X7_findDeals wq_1088 rfl dX7_deal_3 rfl rfl (Nat.le_of_ble_eq_true rfl) (by decide) (by decide) rfl rfl rfl (Nat.zero_le _) (Nat.zero_le _) ?_
  refine J_iload_n (pc' := 7) C 1 dX7_deal_6 rfl rfl rfl ?_
  refine J_istore (pc' := 9) (lv' := [(6, .int a1), (0, .ref a0), (1, .int a1), (2, .int a2), (3, .long a3), (5, .int a5)]) C dX7_deal_7 rfl (by decide) rfl ?_
  refine J_iconst (pc' := 10) (v := (0 : Int32)) C dX7_deal_9 rfl (by decide) ?_
  refine J_istore (pc' := 12) (lv' := [(7, .int (0 : Int32)), (6, .int a1), (0, .ref a0), (1, .int a1), (2, .int a2), (3, .long a3), (5, .int a5)]) C dX7_deal_10 rfl (by decide) rfl ?_
  refine J_sub (lv' := [(0, .ref a0), (1, .int a1), (2, .int a2), (3, .long a3), (5, .int a5), (6, .int a1), (7, .int (0 : Int32))]) [2, 3, 4, 5, 6, 1, 0] rfl ?_
  exact ok_X7_deal_L12 C N N _ _ _ _ _ _ _ _ _ h
def f_X7_buildOrdered_K47 (N : Nat) (x0 : Nat) (x1 : Int32) (M : A_M) : Option A_M :=
  (gR M x0 7 7).bind fun v48 =>
  bnd2 (f_X7_with N (0 : Int64) (0 : Int32) x1 M) fun v55 M55 =>
  (stJ M55 v48 (0 : Int32) v55).bind fun M58 =>
  (gR M58 x0 7 8).bind fun v60 =>
  (stI M58 v60 (0 : Int32) (1 : Int32)).bind fun M65 =>
  some M65
set_option maxHeartbeats 4000000 in
set_option maxRecDepth 100000 in
theorem ok_X7_buildOrdered_K47 {X : JX} (C : Cx X cX7_buildOrdered RX7 3 none 4 111) (N : Nat) : ∀ (x0 : Nat) (x1 : Int32) (M : A_M) (M' : A_M), f_X7_buildOrdered_K47 N x0 x1 M = some M' → J X 3 47 [(0, .ref x0), (1, .int x1)] [] M 0 0 none M' := by
  intro x0 x1 M M' h
  unfold f_X7_buildOrdered_K47 at h
  refine J_aload_n (pc' := 48) C 0 dX7_buildOrdered_47 rfl rfl rfl ?_
  obtain ⟨v48, e48, h⟩ := bd h
  refine jg_886 (pc' := 51) C dX7_buildOrdered_48 rfl (gR_some e48) ?_
  refine J_iconst (pc' := 52) (v := (0 : Int32)) C dX7_buildOrdered_51 rfl (by decide) ?_
  refine J_lconst (pc' := 53) (v := (0 : Int64)) C dX7_buildOrdered_52 rfl (by decide) ?_
  refine J_iconst (pc' := 54) (v := (0 : Int32)) C dX7_buildOrdered_53 rfl (by decide) ?_
  refine J_iload_n (pc' := 55) C 1 dX7_buildOrdered_54 rfl rfl rfl ?_
  obtain ⟨v55, M55, e55, h⟩ := bd2 h
  refine J_cS (pc' := 58) (st := [.int (0 : Int32), .ref v48]) (st2 := [.long v55, .int (0 : Int32), .ref v48]) (cs2 := 0) (sl2 := 0) C (ok_X7_with N e55) mw_X7_with wq_1186 rfl dX7_buildOrdered_55 rfl rfl (Nat.le_of_ble_eq_true rfl) (by decide) (by decide) rfl rfl rfl (Nat.zero_le _) (Nat.zero_le _) ?_
  obtain ⟨M58, e58, h⟩ := bd h
  refine J_last (pc' := 59) C dX7_buildOrdered_58 rfl e58 ?_
  refine J_aload_n (pc' := 60) C 0 dX7_buildOrdered_59 rfl rfl rfl ?_
  obtain ⟨v60, e60, h⟩ := bd h
  refine jg_887 (pc' := 63) C dX7_buildOrdered_60 rfl (gR_some e60) ?_
  refine J_iconst (pc' := 64) (v := (0 : Int32)) C dX7_buildOrdered_63 rfl (by decide) ?_
  refine J_iconst (pc' := 65) (v := (1 : Int32)) C dX7_buildOrdered_64 rfl (by decide) ?_
  obtain ⟨M65, e65, h⟩ := bd h
  refine J_iast (pc' := 66) C dX7_buildOrdered_65 rfl e65 ?_
  obtain rfl := rt1 h
  exact J_vret C dX7_buildOrdered_66 (Nat.zero_le _) (Nat.zero_le _)
def f_X7_buildOrdered_K40 (N : Nat) (k12 : Nat → Int32 → Int32 → A_M → Option A_M) (x0 : Nat) (x2 : Int32) (s0 : Int32) (M : A_M) : Option A_M :=
  k12 x0 s0 (x2 + 1) M
set_option maxHeartbeats 4000000 in
set_option maxRecDepth 100000 in
theorem ok_X7_buildOrdered_K40 {X : JX} (C : Cx X cX7_buildOrdered RX7 3 none 4 111) (N : Nat) {k12 : Nat → Int32 → Int32 → A_M → Option A_M} (hk12 : ∀ (x0 : Nat) (x1 : Int32) (x2 : Int32) (M : A_M) (M' : A_M), k12 x0 x1 x2 M = some M' → J X 3 12 [(0, .ref x0), (1, .int x1), (2, .int x2)] [] M 0 0 none M') : ∀ (x0 : Nat) (x2 : Int32) (s0 : Int32) (M : A_M) (M' : A_M), f_X7_buildOrdered_K40 N k12 x0 x2 s0 M = some M' → J X 3 40 [(0, .ref x0), (2, .int x2)] [.int s0] M 0 0 none M' := by
  intro x0 x2 s0 M M' h
  unfold f_X7_buildOrdered_K40 at h
  refine J_istore_n (pc' := 41) (lv' := [(1, .int s0), (0, .ref x0), (2, .int x2)]) C dX7_buildOrdered_40 rfl rfl (by decide) rfl ?_
  refine J_iinc (pc' := 44) (lv' := [(2, .int (x2 + 1)), (1, .int s0), (0, .ref x0)]) C 2 dX7_buildOrdered_41 rfl rfl rfl (by decide) rfl ?_
  refine J_goto (tgt := 12) C dX7_buildOrdered_44 (by decide) ?_
  refine J_sub (lv' := [(0, .ref x0), (1, .int s0), (2, .int (x2 + 1))]) [2, 1, 0] rfl ?_
  exact hk12 _ _ _ _ _ h
def f_X7_buildOrdered_L12 (N : Nat) : Nat → Nat → Int32 → Int32 → A_M → Option A_M
  | 0, _, _, _, _ => none
  | n + 1, x0, x1, x2, M =>
    (gI M x0 7 1).bind fun v14 =>
    if v14 ≤ x2 then
    (f_X7_buildOrdered_K47 N x0 x1 M)
    else
    ((gR M x0 7 0).bind fun v21 =>
    (ldI M v21 x2).bind fun v25 =>
    (gR M x0 7 0).bind fun v27 =>
    (ldI M v27 x1).bind fun v31 =>
    if v31 ≤ v25 then
    (f_X7_buildOrdered_K40 N (f_X7_buildOrdered_L12 N n) x0 x2 x1 M)
    else
    (f_X7_buildOrdered_K40 N (f_X7_buildOrdered_L12 N n) x0 x2 x2 M))
set_option maxHeartbeats 4000000 in
set_option maxRecDepth 100000 in
theorem ok_X7_buildOrdered_L12 {X : JX} (C : Cx X cX7_buildOrdered RX7 3 none 4 111) (N : Nat) : ∀ (n : Nat) (x0 : Nat) (x1 : Int32) (x2 : Int32) (M : A_M) (M' : A_M), f_X7_buildOrdered_L12 N n x0 x1 x2 M = some M' → J X 3 12 [(0, .ref x0), (1, .int x1), (2, .int x2)] [] M 0 0 none M' := by
  intro n
  induction n with
  | zero =>
    intro x0 x1 x2 M M' h
    cases h
  | succ n ih =>
    intro x0 x1 x2 M M' h
    rw [f_X7_buildOrdered_L12] at h
    refine J_iload_n (pc' := 13) C 2 dX7_buildOrdered_12 rfl rfl rfl ?_
    refine J_aload_n (pc' := 14) C 0 dX7_buildOrdered_13 rfl rfl rfl ?_
    obtain ⟨v14, e14, h⟩ := bd h
    refine jg_880 (pc' := 17) C dX7_buildOrdered_14 rfl (gI_some e14) ?_
    refine J_icmp_ge (tgt := 47) (pc' := 20) C dX7_buildOrdered_17 (by decide) rfl (fun c17 => ?_) (fun c17 => ?_)
    · rw [if_pos c17] at h
      refine J_sub (lv' := [(0, .ref x0), (1, .int x1)]) [0, 1] rfl ?_
      exact ok_X7_buildOrdered_K47 C N _ _ _ _ h
    · rw [if_neg c17] at h
      refine J_aload_n (pc' := 21) C 0 dX7_buildOrdered_20 rfl rfl rfl ?_
      obtain ⟨v21, e21, h⟩ := bd h
      refine jg_879 (pc' := 24) C dX7_buildOrdered_21 rfl (gR_some e21) ?_
      refine J_iload_n (pc' := 25) C 2 dX7_buildOrdered_24 rfl rfl rfl ?_
      obtain ⟨v25, e25, h⟩ := bd h
      refine J_iald (pc' := 26) C dX7_buildOrdered_25 rfl e25 ?_
      refine J_aload_n (pc' := 27) C 0 dX7_buildOrdered_26 rfl rfl rfl ?_
      obtain ⟨v27, e27, h⟩ := bd h
      refine jg_879 (pc' := 30) C dX7_buildOrdered_27 rfl (gR_some e27) ?_
      refine J_iload_n (pc' := 31) C 1 dX7_buildOrdered_30 rfl rfl rfl ?_
      obtain ⟨v31, e31, h⟩ := bd h
      refine J_iald (pc' := 32) C dX7_buildOrdered_31 rfl e31 ?_
      refine J_icmp_ge (tgt := 39) (pc' := 35) C dX7_buildOrdered_32 (by decide) rfl (fun c32 => ?_) (fun c32 => ?_)
      · rw [if_pos c32] at h
        refine J_iload_n (pc' := 40) C 1 dX7_buildOrdered_39 rfl rfl rfl ?_
        refine J_sub (lv' := [(0, .ref x0), (2, .int x2)]) [0, 2] rfl ?_
        exact ok_X7_buildOrdered_K40 C N ih _ _ _ _ _ h
      · rw [if_neg c32] at h
        refine J_iload_n (pc' := 36) C 2 dX7_buildOrdered_35 rfl rfl rfl ?_
        refine J_goto (tgt := 40) C dX7_buildOrdered_36 (by decide) ?_
        refine J_sub (lv' := [(0, .ref x0), (2, .int x2)]) [0, 2] rfl ?_
        exact ok_X7_buildOrdered_K40 C N ih _ _ _ _ _ h
def f_X7_buildOrdered_L89 (N : Nat) : Nat → Nat → A_M → Option A_M
  | 0, _, _ => none
  | n + 1, x0, M =>
    (gI M x0 7 33).bind fun v90 =>
    if v90 ≤ 0 then
    (some M)
    else
    ((gI M x0 7 33).bind fun v98 =>
    (pV M x0 7 33 (.int (v98 - (1 : Int32)))).bind fun M103 =>
    (gR M103 x0 7 29).bind fun v108 =>
    (gI M103 x0 7 33).bind fun v112 =>
    (ldI M103 v108 v112).bind fun v115 =>
    (gR M103 x0 7 30).bind fun v117 =>
    (gI M103 x0 7 33).bind fun v121 =>
    (ldI M103 v117 v121).bind fun v124 =>
    (gR M103 x0 7 31).bind fun v126 =>
    (gI M103 x0 7 33).bind fun v130 =>
    (ldJ M103 v126 v130).bind fun v133 =>
    (gR M103 x0 7 32).bind fun v135 =>
    (gI M103 x0 7 33).bind fun v139 =>
    (ldI M103 v135 v139).bind fun v142 =>
    (chk M103 x0 7).bind fun _ =>
    (f_X7_deal N x0 v115 v124 v133 v142 M103).bind fun M143 =>
    f_X7_buildOrdered_L89 N n x0 M143)
set_option maxHeartbeats 4000000 in
set_option maxRecDepth 100000 in
theorem ok_X7_buildOrdered_L89 {X : JX} (C : Cx X cX7_buildOrdered RX7 3 none 4 111) (N : Nat) : ∀ (n : Nat) (x0 : Nat) (M : A_M) (M' : A_M), f_X7_buildOrdered_L89 N n x0 M = some M' → J X 3 89 [(0, .ref x0)] [] M 0 0 none M' := by
  intro n
  induction n with
  | zero =>
    intro x0 M M' h
    cases h
  | succ n ih =>
    intro x0 M M' h
    rw [f_X7_buildOrdered_L89] at h
    refine J_aload_n (pc' := 90) C 0 dX7_buildOrdered_89 rfl rfl rfl ?_
    obtain ⟨v90, e90, h⟩ := bd h
    refine jg_912 (pc' := 93) C dX7_buildOrdered_90 rfl (gI_some e90) ?_
    refine J_if_le (tgt := 149) (pc' := 96) C dX7_buildOrdered_93 (by decide) rfl (fun c93 => ?_) (fun c93 => ?_)
    · rw [if_pos c93] at h
      obtain rfl := rt1 h
      exact J_vret C dX7_buildOrdered_149 (Nat.zero_le _) (Nat.zero_le _)
    · rw [if_neg c93] at h
      refine J_aload_n (pc' := 97) C 0 dX7_buildOrdered_96 rfl rfl rfl ?_
      refine J_dup (pc' := 98) C dX7_buildOrdered_97 rfl rfl ?_
      obtain ⟨v98, e98, h⟩ := bd h
      refine jg_912 (pc' := 101) C dX7_buildOrdered_98 rfl (gI_some e98) ?_
      refine J_iconst (pc' := 102) (v := (1 : Int32)) C dX7_buildOrdered_101 rfl (by decide) ?_
      refine J_isub (pc' := 103) C dX7_buildOrdered_102 rfl ?_
      obtain ⟨M103, e103, h⟩ := bd h
      refine jp_912 (pc' := 106) C (fun _ => ⟨rfl, rfl⟩) dX7_buildOrdered_103 rfl e103 ?_
      refine J_aload_n (pc' := 107) C 0 dX7_buildOrdered_106 rfl rfl rfl ?_
      refine J_aload_n (pc' := 108) C 0 dX7_buildOrdered_107 rfl rfl rfl ?_
      obtain ⟨v108, e108, h⟩ := bd h
      refine jg_908 (pc' := 111) C dX7_buildOrdered_108 rfl (gR_some e108) ?_
      refine J_aload_n (pc' := 112) C 0 dX7_buildOrdered_111 rfl rfl rfl ?_
      obtain ⟨v112, e112, h⟩ := bd h
      refine jg_912 (pc' := 115) C dX7_buildOrdered_112 rfl (gI_some e112) ?_
      obtain ⟨v115, e115, h⟩ := bd h
      refine J_iald (pc' := 116) C dX7_buildOrdered_115 rfl e115 ?_
      refine J_aload_n (pc' := 117) C 0 dX7_buildOrdered_116 rfl rfl rfl ?_
      obtain ⟨v117, e117, h⟩ := bd h
      refine jg_909 (pc' := 120) C dX7_buildOrdered_117 rfl (gR_some e117) ?_
      refine J_aload_n (pc' := 121) C 0 dX7_buildOrdered_120 rfl rfl rfl ?_
      obtain ⟨v121, e121, h⟩ := bd h
      refine jg_912 (pc' := 124) C dX7_buildOrdered_121 rfl (gI_some e121) ?_
      obtain ⟨v124, e124, h⟩ := bd h
      refine J_iald (pc' := 125) C dX7_buildOrdered_124 rfl e124 ?_
      refine J_aload_n (pc' := 126) C 0 dX7_buildOrdered_125 rfl rfl rfl ?_
      obtain ⟨v126, e126, h⟩ := bd h
      refine jg_910 (pc' := 129) C dX7_buildOrdered_126 rfl (gR_some e126) ?_
      refine J_aload_n (pc' := 130) C 0 dX7_buildOrdered_129 rfl rfl rfl ?_
      obtain ⟨v130, e130, h⟩ := bd h
      refine jg_912 (pc' := 133) C dX7_buildOrdered_130 rfl (gI_some e130) ?_
      obtain ⟨v133, e133, h⟩ := bd h
      refine J_lald (pc' := 134) C dX7_buildOrdered_133 rfl e133 ?_
      refine J_aload_n (pc' := 135) C 0 dX7_buildOrdered_134 rfl rfl rfl ?_
      obtain ⟨v135, e135, h⟩ := bd h
      refine jg_911 (pc' := 138) C dX7_buildOrdered_135 rfl (gR_some e135) ?_
      refine J_aload_n (pc' := 139) C 0 dX7_buildOrdered_138 rfl rfl rfl ?_
      obtain ⟨v139, e139, h⟩ := bd h
      refine jg_912 (pc' := 142) C dX7_buildOrdered_139 rfl (gI_some e139) ?_
      obtain ⟨v142, e142, h⟩ := bd h
      refine J_iald (pc' := 143) C dX7_buildOrdered_142 rfl e142 ?_
      obtain ⟨_, q143, h⟩ := bd h
      obtain ⟨M143, e143, h⟩ := bd h
      refine J_cV (pc' := 146) (st := []) (st2 := []) (cs2 := 0) (sl2 := 0) C 7 rfl rfl q143 (ok_X7_deal N e143) mw_X7_deal wq_1202 rfl dX7_buildOrdered_143 rfl rfl (Nat.le_of_ble_eq_true rfl) (by decide) (by decide) rfl rfl rfl (Nat.zero_le _) (Nat.zero_le _) ?_
      refine J_goto (tgt := 89) C dX7_buildOrdered_146 (by decide) ?_
      refine J_sub (lv' := [(0, .ref x0)]) [0] rfl ?_
      exact ih _ _ _ h
def f_X7_buildOrdered (N : Nat) (a0 : Nat) (M : A_M) : Option A_M :=
  (gI M a0 7 3).bind fun v1 =>
  if v1 = (1 : Int32) then
  (f_X7_buildOrdered_L12 N N a0 (0 : Int32) (1 : Int32) M)
  else
  ((chk M a0 7).bind fun _ =>
  (f_X7_findNodes N a0 M).bind fun M68 =>
  (pV M68 a0 7 33 (.int (0 : Int32))).bind fun M73 =>
  (gI M73 a0 7 3).bind fun v79 =>
  (chk M73 a0 7).bind fun _ =>
  (f_X7_wait N a0 (0 : Int32) (v79 - (1 : Int32)) (0 : Int64) (0 : Int32) M73).bind fun M86 =>
  f_X7_buildOrdered_L89 N N a0 M86)
set_option maxHeartbeats 4000000 in
set_option maxRecDepth 100000 in
theorem ok_X7_buildOrdered (N : Nat) {a0 : Nat} {M : A_M} {M' : A_M} (h : f_X7_buildOrdered N a0 M = some M') : Runs yX7_buildOrdered cX7_buildOrdered 3 none 4 111 0 0 [.ref a0] M none M' := by
  refine Runs.intro (by decide) (Nat.le_of_ble_eq_true rfl) (fun X C hnm hMC hMS => ?_)
  have C : Cx X cX7_buildOrdered RX7 3 none 4 111 := C
  show J X 3 0 [(0, .ref a0)] [] M 0 0 none M'
  unfold f_X7_buildOrdered at h
  refine J_aload_n (pc' := 1) C 0 dX7_buildOrdered_0 rfl rfl rfl ?_
  obtain ⟨v1, e1, h⟩ := bd h
  refine jg_882 (pc' := 4) C dX7_buildOrdered_1 rfl (gI_some e1) ?_
  refine J_iconst (pc' := 5) (v := (1 : Int32)) C dX7_buildOrdered_4 rfl (by decide) ?_
  refine J_icmp_ne (tgt := 67) (pc' := 8) C dX7_buildOrdered_5 (by decide) rfl (fun c5 => ?_) (fun c5 => ?_)
  · rw [if_neg c5] at h
    refine J_aload_n (pc' := 68) C 0 dX7_buildOrdered_67 rfl rfl rfl ?_
    obtain ⟨_, q68, h⟩ := bd h
    obtain ⟨M68, e68, h⟩ := bd h
    refine J_cV (pc' := 71) (st := []) (st2 := []) (cs2 := 0) (sl2 := 0) C 7 rfl rfl q68 (ok_X7_findNodes N e68) mw_X7_findNodes wq_1084 rfl dX7_buildOrdered_68 rfl rfl (Nat.le_of_ble_eq_true rfl) (by decide) (by decide) rfl rfl rfl (Nat.zero_le _) (Nat.zero_le _) ?_
    refine J_aload_n (pc' := 72) C 0 dX7_buildOrdered_71 rfl rfl rfl ?_
    refine J_iconst (pc' := 73) (v := (0 : Int32)) C dX7_buildOrdered_72 rfl (by decide) ?_
    obtain ⟨M73, e73, h⟩ := bd h
    refine jp_912 (pc' := 76) C (fun _ => ⟨rfl, rfl⟩) dX7_buildOrdered_73 rfl e73 ?_
    refine J_aload_n (pc' := 77) C 0 dX7_buildOrdered_76 rfl rfl rfl ?_
    refine J_iconst (pc' := 78) (v := (0 : Int32)) C dX7_buildOrdered_77 rfl (by decide) ?_
    refine J_aload_n (pc' := 79) C 0 dX7_buildOrdered_78 rfl rfl rfl ?_
    obtain ⟨v79, e79, h⟩ := bd h
    refine jg_882 (pc' := 82) C dX7_buildOrdered_79 rfl (gI_some e79) ?_
    refine J_iconst (pc' := 83) (v := (1 : Int32)) C dX7_buildOrdered_82 rfl (by decide) ?_
    refine J_isub (pc' := 84) C dX7_buildOrdered_83 rfl ?_
    refine J_lconst (pc' := 85) (v := (0 : Int64)) C dX7_buildOrdered_84 rfl (by decide) ?_
    refine J_iconst (pc' := 86) (v := (0 : Int32)) C dX7_buildOrdered_85 rfl (by decide) ?_
    obtain ⟨_, q86, h⟩ := bd h
    obtain ⟨M86, e86, h⟩ := bd h
    refine J_cV (pc' := 89) (st := []) (st2 := []) (cs2 := 0) (sl2 := 0) C 7 rfl rfl q86 (ok_X7_wait N e86) mw_X7_wait wq_1198 rfl dX7_buildOrdered_86 rfl rfl (Nat.le_of_ble_eq_true rfl) (by decide) (by decide) rfl rfl rfl (Nat.zero_le _) (Nat.zero_le _) ?_
    refine J_sub (lv' := [(0, .ref a0)]) [0] rfl ?_
    exact ok_X7_buildOrdered_L89 C N N _ _ _ h
  · rw [if_pos c5] at h
    refine J_iconst (pc' := 9) (v := (0 : Int32)) C dX7_buildOrdered_8 rfl (by decide) ?_
    refine J_istore_n (pc' := 10) (lv' := [(1, .int (0 : Int32)), (0, .ref a0)]) C dX7_buildOrdered_9 rfl rfl (by decide) rfl ?_
    refine J_iconst (pc' := 11) (v := (1 : Int32)) C dX7_buildOrdered_10 rfl (by decide) ?_
    refine J_istore_n (pc' := 12) (lv' := [(2, .int (1 : Int32)), (1, .int (0 : Int32)), (0, .ref a0)]) C dX7_buildOrdered_11 rfl rfl (by decide) rfl ?_
    refine J_sub (lv' := [(0, .ref a0), (1, .int (0 : Int32)), (2, .int (1 : Int32))]) [2, 1, 0] rfl ?_
    exact ok_X7_buildOrdered_L12 C N N _ _ _ _ _ h
def f_X7_node (N : Nat) (a0 : Nat) (a1 : Int32) (a2 : Int32) (M : A_M) : Option (Int64 × A_M) :=
  (chk M a0 7).bind fun _ =>
  bnd2 (f_X7_isThing N a0 a1 M) fun v2 M2 =>
  if v2 = 0 then
  (some ((-1 : Int64), M2))
  else
  ((chk M2 a0 7).bind fun _ =>
  bnd2 (f_X7_isThing N a0 a2 M2) fun v10 M10 =>
  if v10 = 0 then
  (some ((-1 : Int64), M10))
  else
  (if a1 ≤ a2 then
  ((gI M10 a0 7 1).bind fun v26 =>
  if (2 : Int32) ≤ v26 then
  ((chk M10 a0 7).bind fun _ =>
  (f_X7_findNodes N a0 M10).bind fun M38 =>
  (chk M38 a0 7).bind fun _ =>
  bnd2 (f_X7_costOfNode N a0 a1 (a2 + (1 : Int32)) M38) fun v46 M46 =>
  some (v46, M46))
  else
  (some ((-3 : Int64), M10)))
  else
  (some ((-1 : Int64), M10))))
set_option maxHeartbeats 4000000 in
set_option maxRecDepth 100000 in
theorem ok_X7_node (N : Nat) {a0 : Nat} {a1 : Int32} {a2 : Int32} {M : A_M} {r : Int64} {M' : A_M} (h : f_X7_node N a0 a1 a2 M = some (r, M')) : Runs yX7_node cX7_node 3 (some .long) 4 103 0 0 [.ref a0, .int a1, .int a2] M (some (.long r)) M' := by
  refine Runs.intro (by decide) (Nat.le_of_ble_eq_true rfl) (fun X C hnm hMC hMS => ?_)
  have C : Cx X cX7_node RX7 3 (some .long) 4 103 := C
  show J X 3 0 [(0, .ref a0), (1, .int a1), (2, .int a2)] [] M 0 0 (some (.long r)) M'
  unfold f_X7_node at h
  refine J_aload_n (pc' := 1) C 0 dX7_node_0 rfl rfl rfl ?_
  refine J_iload_n (pc' := 2) C 1 dX7_node_1 rfl rfl rfl ?_
  obtain ⟨_, q2, h⟩ := bd h
  obtain ⟨v2, M2, e2, h⟩ := bd2 h
  refine J_cV (pc' := 5) (st := []) (st2 := [.int v2]) (cs2 := 0) (sl2 := 0) C 7 rfl rfl q2 (ok_X7_isThing N e2) mw_X7_isThing wq_1074 rfl dX7_node_2 rfl rfl (Nat.le_of_ble_eq_true rfl) (by decide) (by decide) rfl rfl rfl (Nat.zero_le _) (Nat.zero_le _) ?_
  refine J_if_eq (tgt := 21) (pc' := 8) C dX7_node_5 (by decide) rfl (fun c5 => ?_) (fun c5 => ?_)
  · rw [if_pos c5] at h
    refine J_ldc2 (pc' := 24) C dX7_node_21 rfl wq_1082 ?_
    obtain ⟨rfl, rfl⟩ := rt2 h
    exact J_lret C dX7_node_24 (Nat.zero_le _) (Nat.zero_le _)
  · rw [if_neg c5] at h
    refine J_aload_n (pc' := 9) C 0 dX7_node_8 rfl rfl rfl ?_
    refine J_iload_n (pc' := 10) C 2 dX7_node_9 rfl rfl rfl ?_
    obtain ⟨_, q10, h⟩ := bd h
    obtain ⟨v10, M10, e10, h⟩ := bd2 h
    refine J_cV (pc' := 13) (st := []) (st2 := [.int v10]) (cs2 := 0) (sl2 := 0) C 7 rfl rfl q10 (ok_X7_isThing N e10) mw_X7_isThing wq_1074 rfl dX7_node_10 rfl rfl (Nat.le_of_ble_eq_true rfl) (by decide) (by decide) rfl rfl rfl (Nat.zero_le _) (Nat.zero_le _) ?_
    refine J_if_eq (tgt := 21) (pc' := 16) C dX7_node_13 (by decide) rfl (fun c13 => ?_) (fun c13 => ?_)
    · rw [if_pos c13] at h
      refine J_ldc2 (pc' := 24) C dX7_node_21 rfl wq_1082 ?_
      obtain ⟨rfl, rfl⟩ := rt2 h
      exact J_lret C dX7_node_24 (Nat.zero_le _) (Nat.zero_le _)
    · rw [if_neg c13] at h
      refine J_iload_n (pc' := 17) C 1 dX7_node_16 rfl rfl rfl ?_
      refine J_iload_n (pc' := 18) C 2 dX7_node_17 rfl rfl rfl ?_
      refine J_icmp_le (tgt := 25) (pc' := 21) C dX7_node_18 (by decide) rfl (fun c18 => ?_) (fun c18 => ?_)
      · rw [if_pos c18] at h
        refine J_aload_n (pc' := 26) C 0 dX7_node_25 rfl rfl rfl ?_
        obtain ⟨v26, e26, h⟩ := bd h
        refine jg_880 (pc' := 29) C dX7_node_26 rfl (gI_some e26) ?_
        refine J_iconst (pc' := 30) (v := (2 : Int32)) C dX7_node_29 rfl (by decide) ?_
        refine J_icmp_ge (tgt := 37) (pc' := 33) C dX7_node_30 (by decide) rfl (fun c30 => ?_) (fun c30 => ?_)
        · rw [if_pos c30] at h
          refine J_aload_n (pc' := 38) C 0 dX7_node_37 rfl rfl rfl ?_
          obtain ⟨_, q38, h⟩ := bd h
          obtain ⟨M38, e38, h⟩ := bd h
          refine J_cV (pc' := 41) (st := []) (st2 := []) (cs2 := 0) (sl2 := 0) C 7 rfl rfl q38 (ok_X7_findNodes N e38) mw_X7_findNodes wq_1084 rfl dX7_node_38 rfl rfl (Nat.le_of_ble_eq_true rfl) (by decide) (by decide) rfl rfl rfl (Nat.zero_le _) (Nat.zero_le _) ?_
          refine J_aload_n (pc' := 42) C 0 dX7_node_41 rfl rfl rfl ?_
          refine J_iload_n (pc' := 43) C 1 dX7_node_42 rfl rfl rfl ?_
          refine J_iload_n (pc' := 44) C 2 dX7_node_43 rfl rfl rfl ?_
          refine J_iconst (pc' := 45) (v := (1 : Int32)) C dX7_node_44 rfl (by decide) ?_
          refine J_iadd (pc' := 46) C dX7_node_45 rfl ?_
          obtain ⟨_, q46, h⟩ := bd h
          obtain ⟨v46, M46, e46, h⟩ := bd2 h
          refine J_cV (pc' := 49) (st := []) (st2 := [.long v46]) (cs2 := 0) (sl2 := 0) C 7 rfl rfl q46 (ok_X7_costOfNode N e46) mw_X7_costOfNode wq_1101 rfl dX7_node_46 rfl rfl (Nat.le_of_ble_eq_true rfl) (by decide) (by decide) rfl rfl rfl (Nat.zero_le _) (Nat.zero_le _) ?_
          obtain ⟨rfl, rfl⟩ := rt2 h
          exact J_lret C dX7_node_49 (Nat.zero_le _) (Nat.zero_le _)
        · rw [if_neg c30] at h
          refine J_ldc2 (pc' := 36) C dX7_node_33 rfl wq_1083 ?_
          obtain ⟨rfl, rfl⟩ := rt2 h
          exact J_lret C dX7_node_36 (Nat.zero_le _) (Nat.zero_le _)
      · rw [if_neg c18] at h
        refine J_ldc2 (pc' := 24) C dX7_node_21 rfl wq_1082 ?_
        obtain ⟨rfl, rfl⟩ := rt2 h
        exact J_lret C dX7_node_24 (Nat.zero_le _) (Nat.zero_le _)
def f_X7_buildEnded_K196 (N : Nat) (k24 : Nat → Int32 → Int32 → Int32 → A_M → Option A_M) (k55 : Nat → Int32 → Int32 → Int32 → Int32 → Int32 → A_M → Option A_M) (x0 : Nat) (x1 : Int32) (x2 : Int32) (x3 : Int32) (x4 : Int32) (x5 : Int32) (M : A_M) : Option A_M :=
  k55 x0 x1 x2 x3 x4 (x5 + 1) M
set_option maxHeartbeats 4000000 in
set_option maxRecDepth 100000 in
theorem ok_X7_buildEnded_K196 {X : JX} (C : Cx X cX7_buildEnded RX7 8 none 2 48) (N : Nat) {k24 : Nat → Int32 → Int32 → Int32 → A_M → Option A_M} (hk24 : ∀ (x0 : Nat) (x1 : Int32) (x2 : Int32) (x3 : Int32) (M : A_M) (M' : A_M), k24 x0 x1 x2 x3 M = some M' → J X 8 24 [(0, .ref x0), (1, .int x1), (2, .int x2), (3, .int x3)] [] M 0 0 none M') {k55 : Nat → Int32 → Int32 → Int32 → Int32 → Int32 → A_M → Option A_M} (hk55 : ∀ (x0 : Nat) (x1 : Int32) (x2 : Int32) (x3 : Int32) (x4 : Int32) (x5 : Int32) (M : A_M) (M' : A_M), k55 x0 x1 x2 x3 x4 x5 M = some M' → J X 8 55 [(0, .ref x0), (1, .int x1), (2, .int x2), (3, .int x3), (4, .int x4), (5, .int x5)] [] M 0 0 none M') : ∀ (x0 : Nat) (x1 : Int32) (x2 : Int32) (x3 : Int32) (x4 : Int32) (x5 : Int32) (M : A_M) (M' : A_M), f_X7_buildEnded_K196 N k24 k55 x0 x1 x2 x3 x4 x5 M = some M' → J X 8 196 [(0, .ref x0), (1, .int x1), (2, .int x2), (3, .int x3), (4, .int x4), (5, .int x5)] [] M 0 0 none M' := by
  intro x0 x1 x2 x3 x4 x5 M M' h
  unfold f_X7_buildEnded_K196 at h
  refine J_iinc (pc' := 199) (lv' := [(5, .int (x5 + 1)), (0, .ref x0), (1, .int x1), (2, .int x2), (3, .int x3), (4, .int x4)]) C 5 dX7_buildEnded_196 rfl rfl rfl (by decide) rfl ?_
  refine J_goto (tgt := 55) C dX7_buildEnded_199 (by decide) ?_
  refine J_sub (lv' := [(0, .ref x0), (1, .int x1), (2, .int x2), (3, .int x3), (4, .int x4), (5, .int (x5 + 1))]) [1, 2, 3, 4, 5, 0] rfl ?_
  exact hk55 _ _ _ _ _ _ _ _ h
def f_X7_buildEnded_K190 (N : Nat) (k24 : Nat → Int32 → Int32 → Int32 → A_M → Option A_M) (k55 : Nat → Int32 → Int32 → Int32 → Int32 → Int32 → A_M → Option A_M) (k126 : Nat → Int32 → Int32 → Int32 → Int32 → Int32 → Int32 → Int32 → A_M → Option A_M) (x0 : Nat) (x1 : Int32) (x2 : Int32) (x3 : Int32) (x4 : Int32) (x5 : Int32) (x6 : Int32) (x7 : Int32) (M : A_M) : Option A_M :=
  k126 x0 x1 x2 x3 x4 x5 x6 (x7 + 1) M
set_option maxHeartbeats 4000000 in
set_option maxRecDepth 100000 in
theorem ok_X7_buildEnded_K190 {X : JX} (C : Cx X cX7_buildEnded RX7 8 none 2 48) (N : Nat) {k24 : Nat → Int32 → Int32 → Int32 → A_M → Option A_M} (hk24 : ∀ (x0 : Nat) (x1 : Int32) (x2 : Int32) (x3 : Int32) (M : A_M) (M' : A_M), k24 x0 x1 x2 x3 M = some M' → J X 8 24 [(0, .ref x0), (1, .int x1), (2, .int x2), (3, .int x3)] [] M 0 0 none M') {k55 : Nat → Int32 → Int32 → Int32 → Int32 → Int32 → A_M → Option A_M} (hk55 : ∀ (x0 : Nat) (x1 : Int32) (x2 : Int32) (x3 : Int32) (x4 : Int32) (x5 : Int32) (M : A_M) (M' : A_M), k55 x0 x1 x2 x3 x4 x5 M = some M' → J X 8 55 [(0, .ref x0), (1, .int x1), (2, .int x2), (3, .int x3), (4, .int x4), (5, .int x5)] [] M 0 0 none M') {k126 : Nat → Int32 → Int32 → Int32 → Int32 → Int32 → Int32 → Int32 → A_M → Option A_M} (hk126 : ∀ (x0 : Nat) (x1 : Int32) (x2 : Int32) (x3 : Int32) (x4 : Int32) (x5 : Int32) (x6 : Int32) (x7 : Int32) (M : A_M) (M' : A_M), k126 x0 x1 x2 x3 x4 x5 x6 x7 M = some M' → J X 8 126 [(0, .ref x0), (1, .int x1), (2, .int x2), (3, .int x3), (4, .int x4), (5, .int x5), (6, .int x6), (7, .int x7)] [] M 0 0 none M') : ∀ (x0 : Nat) (x1 : Int32) (x2 : Int32) (x3 : Int32) (x4 : Int32) (x5 : Int32) (x6 : Int32) (x7 : Int32) (M : A_M) (M' : A_M), f_X7_buildEnded_K190 N k24 k55 k126 x0 x1 x2 x3 x4 x5 x6 x7 M = some M' → J X 8 190 [(0, .ref x0), (1, .int x1), (2, .int x2), (3, .int x3), (4, .int x4), (5, .int x5), (6, .int x6), (7, .int x7)] [] M 0 0 none M' := by
  intro x0 x1 x2 x3 x4 x5 x6 x7 M M' h
  unfold f_X7_buildEnded_K190 at h
  refine J_iinc (pc' := 193) (lv' := [(7, .int (x7 + 1)), (0, .ref x0), (1, .int x1), (2, .int x2), (3, .int x3), (4, .int x4), (5, .int x5), (6, .int x6)]) C 7 dX7_buildEnded_190 rfl rfl rfl (by decide) rfl ?_
  refine J_goto (tgt := 126) C dX7_buildEnded_193 (by decide) ?_
  refine J_sub (lv' := [(0, .ref x0), (1, .int x1), (2, .int x2), (3, .int x3), (4, .int x4), (5, .int x5), (6, .int x6), (7, .int (x7 + 1))]) [1, 2, 3, 4, 5, 6, 7, 0] rfl ?_
  exact hk126 _ _ _ _ _ _ _ _ _ _ h
def f_X7_buildEnded_L126 (N : Nat) (k24 : Nat → Int32 → Int32 → Int32 → A_M → Option A_M) (k55 : Nat → Int32 → Int32 → Int32 → Int32 → Int32 → A_M → Option A_M) : Nat → Nat → Int32 → Int32 → Int32 → Int32 → Int32 → Int32 → Int32 → A_M → Option A_M
  | 0, _, _, _, _, _, _, _, _, _ => none
  | n + 1, x0, x1, x2, x3, x4, x5, x6, x7, M =>
    (gI M x0 7 1).bind fun v129 =>
    if v129 ≤ x7 then
    (f_X7_buildEnded_K196 N k24 k55 x0 x1 x2 x3 x4 x5 M)
    else
    ((gI M x0 7 3).bind fun v137 =>
    if v137 ≤ x2 then
    (f_X7_buildEnded_K196 N k24 k55 x0 x1 x2 x3 x4 x5 M)
    else
    (if x7 = x1 then
    (f_X7_buildEnded_K190 N k24 k55 (f_X7_buildEnded_L126 N k24 k55 n) x0 x1 x2 x3 x4 x5 x6 x7 M)
    else
    ((gR M x0 7 18).bind fun v151 =>
    (ldJ M v151 x6).bind fun v156 =>
    (gR M x0 7 19).bind fun v158 =>
    (ldI M v158 x6).bind fun v163 =>
    bnd2 (f_X7_with N v156 v163 x7 M) fun v166 M166 =>
    (gR M166 x0 7 19).bind fun v170 =>
    (ldI M166 v170 x6).bind fun v175 =>
    (gR M166 x0 7 0).bind fun v180 =>
    (ldI M166 v180 x7).bind fun v185 =>
    (chk M166 x0 7).bind fun _ =>
    (f_X7_open N x0 v166 (v175 + (1 : Int32)) (x3 + v185) M166).bind fun M187 =>
    f_X7_buildEnded_K190 N k24 k55 (f_X7_buildEnded_L126 N k24 k55 n) x0 x1 x2 x3 x4 x5 x6 x7 M187)))
set_option maxHeartbeats 4000000 in
set_option maxRecDepth 100000 in
theorem ok_X7_buildEnded_L126 {X : JX} (C : Cx X cX7_buildEnded RX7 8 none 2 48) (N : Nat) {k24 : Nat → Int32 → Int32 → Int32 → A_M → Option A_M} (hk24 : ∀ (x0 : Nat) (x1 : Int32) (x2 : Int32) (x3 : Int32) (M : A_M) (M' : A_M), k24 x0 x1 x2 x3 M = some M' → J X 8 24 [(0, .ref x0), (1, .int x1), (2, .int x2), (3, .int x3)] [] M 0 0 none M') {k55 : Nat → Int32 → Int32 → Int32 → Int32 → Int32 → A_M → Option A_M} (hk55 : ∀ (x0 : Nat) (x1 : Int32) (x2 : Int32) (x3 : Int32) (x4 : Int32) (x5 : Int32) (M : A_M) (M' : A_M), k55 x0 x1 x2 x3 x4 x5 M = some M' → J X 8 55 [(0, .ref x0), (1, .int x1), (2, .int x2), (3, .int x3), (4, .int x4), (5, .int x5)] [] M 0 0 none M') : ∀ (n : Nat) (x0 : Nat) (x1 : Int32) (x2 : Int32) (x3 : Int32) (x4 : Int32) (x5 : Int32) (x6 : Int32) (x7 : Int32) (M : A_M) (M' : A_M), f_X7_buildEnded_L126 N k24 k55 n x0 x1 x2 x3 x4 x5 x6 x7 M = some M' → J X 8 126 [(0, .ref x0), (1, .int x1), (2, .int x2), (3, .int x3), (4, .int x4), (5, .int x5), (6, .int x6), (7, .int x7)] [] M 0 0 none M' := by
  intro n
  induction n with
  | zero =>
    intro x0 x1 x2 x3 x4 x5 x6 x7 M M' h
    cases h
  | succ n ih =>
    intro x0 x1 x2 x3 x4 x5 x6 x7 M M' h
    rw [f_X7_buildEnded_L126] at h
    refine J_iload (pc' := 128) C 7 dX7_buildEnded_126 rfl rfl ?_
    refine J_aload_n (pc' := 129) C 0 dX7_buildEnded_128 rfl rfl rfl ?_
    obtain ⟨v129, e129, h⟩ := bd h
    refine jg_880 (pc' := 132) C dX7_buildEnded_129 rfl (gI_some e129) ?_
    refine J_icmp_ge (tgt := 196) (pc' := 135) C dX7_buildEnded_132 (by decide) rfl (fun c132 => ?_) (fun c132 => ?_)
    · rw [if_pos c132] at h
      refine J_sub (lv' := [(0, .ref x0), (1, .int x1), (2, .int x2), (3, .int x3), (4, .int x4), (5, .int x5)]) [0, 1, 2, 3, 4, 5] rfl ?_
      exact ok_X7_buildEnded_K196 C N hk24 hk55 _ _ _ _ _ _ _ _ h
    · rw [if_neg c132] at h
      refine J_iload_n (pc' := 136) C 2 dX7_buildEnded_135 rfl rfl rfl ?_
      refine J_aload_n (pc' := 137) C 0 dX7_buildEnded_136 rfl rfl rfl ?_
      obtain ⟨v137, e137, h⟩ := bd h
      refine jg_882 (pc' := 140) C dX7_buildEnded_137 rfl (gI_some e137) ?_
      refine J_icmp_ge (tgt := 196) (pc' := 143) C dX7_buildEnded_140 (by decide) rfl (fun c140 => ?_) (fun c140 => ?_)
      · rw [if_pos c140] at h
        refine J_sub (lv' := [(0, .ref x0), (1, .int x1), (2, .int x2), (3, .int x3), (4, .int x4), (5, .int x5)]) [0, 1, 2, 3, 4, 5] rfl ?_
        exact ok_X7_buildEnded_K196 C N hk24 hk55 _ _ _ _ _ _ _ _ h
      · rw [if_neg c140] at h
        refine J_iload (pc' := 145) C 7 dX7_buildEnded_143 rfl rfl ?_
        refine J_iload_n (pc' := 146) C 1 dX7_buildEnded_145 rfl rfl rfl ?_
        refine J_icmp_eq (tgt := 190) (pc' := 149) C dX7_buildEnded_146 (by decide) rfl (fun c146 => ?_) (fun c146 => ?_)
        · rw [if_pos c146] at h
          refine J_sub (lv' := [(0, .ref x0), (1, .int x1), (2, .int x2), (3, .int x3), (4, .int x4), (5, .int x5), (6, .int x6), (7, .int x7)]) [0, 1, 2, 3, 4, 5, 6, 7] rfl ?_
          exact ok_X7_buildEnded_K190 C N hk24 hk55 ih _ _ _ _ _ _ _ _ _ _ h
        · rw [if_neg c146] at h
          refine J_aload_n (pc' := 150) C 0 dX7_buildEnded_149 rfl rfl rfl ?_
          refine J_aload_n (pc' := 151) C 0 dX7_buildEnded_150 rfl rfl rfl ?_
          obtain ⟨v151, e151, h⟩ := bd h
          refine jg_897 (pc' := 154) C dX7_buildEnded_151 rfl (gR_some e151) ?_
          refine J_iload (pc' := 156) C 6 dX7_buildEnded_154 rfl rfl ?_
          obtain ⟨v156, e156, h⟩ := bd h
          refine J_lald (pc' := 157) C dX7_buildEnded_156 rfl e156 ?_
          refine J_aload_n (pc' := 158) C 0 dX7_buildEnded_157 rfl rfl rfl ?_
          obtain ⟨v158, e158, h⟩ := bd h
          refine jg_898 (pc' := 161) C dX7_buildEnded_158 rfl (gR_some e158) ?_
          refine J_iload (pc' := 163) C 6 dX7_buildEnded_161 rfl rfl ?_
          obtain ⟨v163, e163, h⟩ := bd h
          refine J_iald (pc' := 164) C dX7_buildEnded_163 rfl e163 ?_
          refine J_iload (pc' := 166) C 7 dX7_buildEnded_164 rfl rfl ?_
          obtain ⟨v166, M166, e166, h⟩ := bd2 h
          refine J_cS (pc' := 169) (st := [.ref x0]) (st2 := [.long v166, .ref x0]) (cs2 := 0) (sl2 := 0) C (ok_X7_with N e166) mw_X7_with wq_1186 rfl dX7_buildEnded_166 rfl rfl (Nat.le_of_ble_eq_true rfl) (by decide) (by decide) rfl rfl rfl (Nat.zero_le _) (Nat.zero_le _) ?_
          refine J_aload_n (pc' := 170) C 0 dX7_buildEnded_169 rfl rfl rfl ?_
          obtain ⟨v170, e170, h⟩ := bd h
          refine jg_898 (pc' := 173) C dX7_buildEnded_170 rfl (gR_some e170) ?_
          refine J_iload (pc' := 175) C 6 dX7_buildEnded_173 rfl rfl ?_
          obtain ⟨v175, e175, h⟩ := bd h
          refine J_iald (pc' := 176) C dX7_buildEnded_175 rfl e175 ?_
          refine J_iconst (pc' := 177) (v := (1 : Int32)) C dX7_buildEnded_176 rfl (by decide) ?_
          refine J_iadd (pc' := 178) C dX7_buildEnded_177 rfl ?_
          refine J_iload_n (pc' := 179) C 3 dX7_buildEnded_178 rfl rfl rfl ?_
          refine J_aload_n (pc' := 180) C 0 dX7_buildEnded_179 rfl rfl rfl ?_
          obtain ⟨v180, e180, h⟩ := bd h
          refine jg_879 (pc' := 183) C dX7_buildEnded_180 rfl (gR_some e180) ?_
          refine J_iload (pc' := 185) C 7 dX7_buildEnded_183 rfl rfl ?_
          obtain ⟨v185, e185, h⟩ := bd h
          refine J_iald (pc' := 186) C dX7_buildEnded_185 rfl e185 ?_
          refine J_iadd (pc' := 187) C dX7_buildEnded_186 rfl ?_
          obtain ⟨_, q187, h⟩ := bd h
          obtain ⟨M187, e187, h⟩ := bd h
          refine J_cV (pc' := 190) (st := []) (st2 := []) (cs2 := 0) (sl2 := 0) C 7 rfl rfl q187 (ok_X7_open N e187) mw_X7_open wq_1167 rfl dX7_buildEnded_187 rfl rfl (Nat.le_of_ble_eq_true rfl) (by decide) (by decide) rfl rfl rfl (Nat.zero_le _) (Nat.zero_le _) ?_
          refine J_sub (lv' := [(0, .ref x0), (1, .int x1), (2, .int x2), (3, .int x3), (4, .int x4), (5, .int x5), (6, .int x6), (7, .int x7)]) [0, 1, 2, 3, 4, 5, 6, 7] rfl ?_
          exact ok_X7_buildEnded_K190 C N hk24 hk55 ih _ _ _ _ _ _ _ _ _ _ h
def f_X7_buildEnded_K202 (N : Nat) (k24 : Nat → Int32 → Int32 → Int32 → A_M → Option A_M) (x0 : Nat) (x1 : Int32) (x2 : Int32) (x3 : Int32) (M : A_M) : Option A_M :=
  (chk M x0 7).bind fun _ =>
  (f_X7_forget N x0 x3 M).bind fun M204 =>
  k24 x0 x1 x2 (x3 + 1) M204
set_option maxHeartbeats 4000000 in
set_option maxRecDepth 100000 in
theorem ok_X7_buildEnded_K202 {X : JX} (C : Cx X cX7_buildEnded RX7 8 none 2 48) (N : Nat) {k24 : Nat → Int32 → Int32 → Int32 → A_M → Option A_M} (hk24 : ∀ (x0 : Nat) (x1 : Int32) (x2 : Int32) (x3 : Int32) (M : A_M) (M' : A_M), k24 x0 x1 x2 x3 M = some M' → J X 8 24 [(0, .ref x0), (1, .int x1), (2, .int x2), (3, .int x3)] [] M 0 0 none M') : ∀ (x0 : Nat) (x1 : Int32) (x2 : Int32) (x3 : Int32) (M : A_M) (M' : A_M), f_X7_buildEnded_K202 N k24 x0 x1 x2 x3 M = some M' → J X 8 202 [(0, .ref x0), (1, .int x1), (2, .int x2), (3, .int x3)] [] M 0 0 none M' := by
  intro x0 x1 x2 x3 M M' h
  unfold f_X7_buildEnded_K202 at h
  refine J_aload_n (pc' := 203) C 0 dX7_buildEnded_202 rfl rfl rfl ?_
  refine J_iload_n (pc' := 204) C 3 dX7_buildEnded_203 rfl rfl rfl ?_
  obtain ⟨_, q204, h⟩ := bd h
  obtain ⟨M204, e204, h⟩ := bd h
  refine J_cV (pc' := 207) (st := []) (st2 := []) (cs2 := 0) (sl2 := 0) C 7 rfl rfl q204 (ok_X7_forget N e204) mw_X7_forget wq_1189 rfl dX7_buildEnded_204 rfl rfl (Nat.le_of_ble_eq_true rfl) (by decide) (by decide) rfl rfl rfl (Nat.zero_le _) (Nat.zero_le _) ?_
  refine J_iinc (pc' := 210) (lv' := [(3, .int (x3 + 1)), (0, .ref x0), (1, .int x1), (2, .int x2)]) C 3 dX7_buildEnded_207 rfl rfl rfl (by decide) rfl ?_
  refine J_goto (tgt := 24) C dX7_buildEnded_210 (by decide) ?_
  refine J_sub (lv' := [(0, .ref x0), (1, .int x1), (2, .int x2), (3, .int (x3 + 1))]) [1, 2, 3, 0] rfl ?_
  exact hk24 _ _ _ _ _ _ h
def f_X7_buildEnded_L55 (N : Nat) (k24 : Nat → Int32 → Int32 → Int32 → A_M → Option A_M) : Nat → Nat → Int32 → Int32 → Int32 → Int32 → Int32 → A_M → Option A_M
  | 0, _, _, _, _, _, _, _ => none
  | n + 1, x0, x1, x2, x3, x4, x5, M =>
    if x4 ≤ x5 then
    (f_X7_buildEnded_K202 N k24 x0 x1 x2 x3 M)
    else
    ((gR M x0 7 22).bind fun v63 =>
    (ldI M v63 x5).bind fun v68 =>
    (gR M x0 7 7).bind fun v72 =>
    (gR M x0 7 10).bind fun v76 =>
    (ldI M v76 x2).bind fun v80 =>
    (gR M x0 7 18).bind fun v82 =>
    (ldJ M v82 v68).bind fun v87 =>
    (gR M x0 7 19).bind fun v89 =>
    (ldI M v89 v68).bind fun v94 =>
    bnd2 (f_X7_with N v87 v94 x1 M) fun v96 M96 =>
    (stJ M96 v72 v80 v96).bind fun M99 =>
    (gR M99 x0 7 8).bind fun v101 =>
    (gR M99 x0 7 10).bind fun v105 =>
    (ldI M99 v105 x2).bind fun v109 =>
    (gR M99 x0 7 19).bind fun v111 =>
    (ldI M99 v111 v68).bind fun v116 =>
    (stI M99 v101 v109 (v116 + (1 : Int32))).bind fun M119 =>
    f_X7_buildEnded_L126 N k24 (f_X7_buildEnded_L55 N k24 n) N x0 x1 (x2 + 1) x3 x4 x5 v68 (0 : Int32) M119)
set_option maxHeartbeats 4000000 in
set_option maxRecDepth 100000 in
theorem ok_X7_buildEnded_L55 {X : JX} (C : Cx X cX7_buildEnded RX7 8 none 2 48) (N : Nat) {k24 : Nat → Int32 → Int32 → Int32 → A_M → Option A_M} (hk24 : ∀ (x0 : Nat) (x1 : Int32) (x2 : Int32) (x3 : Int32) (M : A_M) (M' : A_M), k24 x0 x1 x2 x3 M = some M' → J X 8 24 [(0, .ref x0), (1, .int x1), (2, .int x2), (3, .int x3)] [] M 0 0 none M') : ∀ (n : Nat) (x0 : Nat) (x1 : Int32) (x2 : Int32) (x3 : Int32) (x4 : Int32) (x5 : Int32) (M : A_M) (M' : A_M), f_X7_buildEnded_L55 N k24 n x0 x1 x2 x3 x4 x5 M = some M' → J X 8 55 [(0, .ref x0), (1, .int x1), (2, .int x2), (3, .int x3), (4, .int x4), (5, .int x5)] [] M 0 0 none M' := by
  intro n
  induction n with
  | zero =>
    intro x0 x1 x2 x3 x4 x5 M M' h
    cases h
  | succ n ih =>
    intro x0 x1 x2 x3 x4 x5 M M' h
    rw [f_X7_buildEnded_L55] at h
    refine J_iload (pc' := 57) C 5 dX7_buildEnded_55 rfl rfl ?_
    refine J_iload (pc' := 59) C 4 dX7_buildEnded_57 rfl rfl ?_
    refine J_icmp_ge (tgt := 202) (pc' := 62) C dX7_buildEnded_59 (by decide) rfl (fun c59 => ?_) (fun c59 => ?_)
    · rw [if_pos c59] at h
      refine J_sub (lv' := [(0, .ref x0), (1, .int x1), (2, .int x2), (3, .int x3)]) [0, 1, 2, 3] rfl ?_
      exact ok_X7_buildEnded_K202 C N hk24 _ _ _ _ _ _ h
    · rw [if_neg c59] at h
      refine J_aload_n (pc' := 63) C 0 dX7_buildEnded_62 rfl rfl rfl ?_
      obtain ⟨v63, e63, h⟩ := bd h
      refine jg_901 (pc' := 66) C dX7_buildEnded_63 rfl (gR_some e63) ?_
      refine J_iload (pc' := 68) C 5 dX7_buildEnded_66 rfl rfl ?_
      obtain ⟨v68, e68, h⟩ := bd h
      refine J_iald (pc' := 69) C dX7_buildEnded_68 rfl e68 ?_
      refine J_istore (pc' := 71) (lv' := [(6, .int v68), (0, .ref x0), (1, .int x1), (2, .int x2), (3, .int x3), (4, .int x4), (5, .int x5)]) C dX7_buildEnded_69 rfl (by decide) rfl ?_
      refine J_aload_n (pc' := 72) C 1 dX7_buildEnded_71 rfl rfl rfl ?_
      obtain ⟨v72, e72, h⟩ := bd h
      refine jg_886 (pc' := 75) C dX7_buildEnded_72 rfl (gR_some e72) ?_
      refine J_aload_n (pc' := 76) C 1 dX7_buildEnded_75 rfl rfl rfl ?_
      obtain ⟨v76, e76, h⟩ := bd h
      refine jg_889 (pc' := 79) C dX7_buildEnded_76 rfl (gR_some e76) ?_
      refine J_iload_n (pc' := 80) C 3 dX7_buildEnded_79 rfl rfl rfl ?_
      obtain ⟨v80, e80, h⟩ := bd h
      refine J_iald (pc' := 81) C dX7_buildEnded_80 rfl e80 ?_
      refine J_aload_n (pc' := 82) C 1 dX7_buildEnded_81 rfl rfl rfl ?_
      obtain ⟨v82, e82, h⟩ := bd h
      refine jg_897 (pc' := 85) C dX7_buildEnded_82 rfl (gR_some e82) ?_
      refine J_iload (pc' := 87) C 0 dX7_buildEnded_85 rfl rfl ?_
      obtain ⟨v87, e87, h⟩ := bd h
      refine J_lald (pc' := 88) C dX7_buildEnded_87 rfl e87 ?_
      refine J_aload_n (pc' := 89) C 1 dX7_buildEnded_88 rfl rfl rfl ?_
      obtain ⟨v89, e89, h⟩ := bd h
      refine jg_898 (pc' := 92) C dX7_buildEnded_89 rfl (gR_some e89) ?_
      refine J_iload (pc' := 94) C 0 dX7_buildEnded_92 rfl rfl ?_
      obtain ⟨v94, e94, h⟩ := bd h
      refine J_iald (pc' := 95) C dX7_buildEnded_94 rfl e94 ?_
      refine J_iload_n (pc' := 96) C 2 dX7_buildEnded_95 rfl rfl rfl ?_
      obtain ⟨v96, M96, e96, h⟩ := bd2 h
      refine J_cS (pc' := 99) (st := [.int v80, .ref v72]) (st2 := [.long v96, .int v80, .ref v72]) (cs2 := 0) (sl2 := 0) C (ok_X7_with N e96) mw_X7_with wq_1186 rfl dX7_buildEnded_96 rfl rfl (Nat.le_of_ble_eq_true rfl) (by decide) (by decide) rfl rfl rfl (Nat.zero_le _) (Nat.zero_le _) ?_
      obtain ⟨M99, e99, h⟩ := bd h
      refine J_last (pc' := 100) C dX7_buildEnded_99 rfl e99 ?_
      refine J_aload_n (pc' := 101) C 1 dX7_buildEnded_100 rfl rfl rfl ?_
      obtain ⟨v101, e101, h⟩ := bd h
      refine jg_887 (pc' := 104) C dX7_buildEnded_101 rfl (gR_some e101) ?_
      refine J_aload_n (pc' := 105) C 1 dX7_buildEnded_104 rfl rfl rfl ?_
      obtain ⟨v105, e105, h⟩ := bd h
      refine jg_889 (pc' := 108) C dX7_buildEnded_105 rfl (gR_some e105) ?_
      refine J_iload_n (pc' := 109) C 3 dX7_buildEnded_108 rfl rfl rfl ?_
      obtain ⟨v109, e109, h⟩ := bd h
      refine J_iald (pc' := 110) C dX7_buildEnded_109 rfl e109 ?_
      refine J_aload_n (pc' := 111) C 1 dX7_buildEnded_110 rfl rfl rfl ?_
      obtain ⟨v111, e111, h⟩ := bd h
      refine jg_898 (pc' := 114) C dX7_buildEnded_111 rfl (gR_some e111) ?_
      refine J_iload (pc' := 116) C 0 dX7_buildEnded_114 rfl rfl ?_
      obtain ⟨v116, e116, h⟩ := bd h
      refine J_iald (pc' := 117) C dX7_buildEnded_116 rfl e116 ?_
      refine J_iconst (pc' := 118) (v := (1 : Int32)) C dX7_buildEnded_117 rfl (by decide) ?_
      refine J_iadd (pc' := 119) C dX7_buildEnded_118 rfl ?_
      obtain ⟨M119, e119, h⟩ := bd h
      refine J_iast (pc' := 120) C dX7_buildEnded_119 rfl e119 ?_
      refine J_iinc (pc' := 123) (lv' := [(2, .int (x2 + 1)), (6, .int v68), (0, .ref x0), (1, .int x1), (3, .int x3), (4, .int x4), (5, .int x5)]) C 3 dX7_buildEnded_120 rfl rfl rfl (by decide) rfl ?_
      refine J_iconst (pc' := 124) (v := (0 : Int32)) C dX7_buildEnded_123 rfl (by decide) ?_
      refine J_istore (pc' := 126) (lv' := [(7, .int (0 : Int32)), (2, .int (x2 + 1)), (6, .int v68), (0, .ref x0), (1, .int x1), (3, .int x3), (4, .int x4), (5, .int x5)]) C dX7_buildEnded_124 rfl (by decide) rfl ?_
      refine J_sub (lv' := [(0, .ref x0), (1, .int x1), (2, .int (x2 + 1)), (3, .int x3), (4, .int x4), (5, .int x5), (6, .int v68), (7, .int (0 : Int32))]) [3, 4, 1, 5, 6, 7, 2, 0] rfl ?_
      exact ok_X7_buildEnded_L126 C N hk24 ih N _ _ _ _ _ _ _ _ _ _ h
def f_X7_buildEnded_L24 (N : Nat) : Nat → Nat → Int32 → Int32 → Int32 → A_M → Option A_M
  | 0, _, _, _, _, _ => none
  | n + 1, x0, x1, x2, x3, M =>
    (gI M x0 7 3).bind fun v26 =>
    if v26 ≤ x2 then
    (some M)
    else
    ((chk M x0 7).bind fun _ =>
    (f_X7_findTurn N x0 x3 M).bind fun M34 =>
    (gI M34 x0 7 23).bind fun v38 =>
    (gI M34 x0 7 3).bind fun v42 =>
    bnd2 (f_X7_least N v38 (v42 - x2) M34) fun v47 M47 =>
    f_X7_buildEnded_L55 N (f_X7_buildEnded_L24 N n) N x0 x1 x2 x3 v47 (0 : Int32) M47)
set_option maxHeartbeats 4000000 in
set_option maxRecDepth 100000 in
theorem ok_X7_buildEnded_L24 {X : JX} (C : Cx X cX7_buildEnded RX7 8 none 2 48) (N : Nat) : ∀ (n : Nat) (x0 : Nat) (x1 : Int32) (x2 : Int32) (x3 : Int32) (M : A_M) (M' : A_M), f_X7_buildEnded_L24 N n x0 x1 x2 x3 M = some M' → J X 8 24 [(0, .ref x0), (1, .int x1), (2, .int x2), (3, .int x3)] [] M 0 0 none M' := by
  intro n
  induction n with
  | zero =>
    intro x0 x1 x2 x3 M M' h
    cases h
  | succ n ih =>
    intro x0 x1 x2 x3 M M' h
    rw [f_X7_buildEnded_L24] at h
    refine J_iload_n (pc' := 25) C 2 dX7_buildEnded_24 rfl rfl rfl ?_
    refine J_aload_n (pc' := 26) C 0 dX7_buildEnded_25 rfl rfl rfl ?_
    obtain ⟨v26, e26, h⟩ := bd h
    refine jg_882 (pc' := 29) C dX7_buildEnded_26 rfl (gI_some e26) ?_
    refine J_icmp_ge (tgt := 213) (pc' := 32) C dX7_buildEnded_29 (by decide) rfl (fun c29 => ?_) (fun c29 => ?_)
    · rw [if_pos c29] at h
      obtain rfl := rt1 h
      exact J_vret C dX7_buildEnded_213 (Nat.zero_le _) (Nat.zero_le _)
    · rw [if_neg c29] at h
      refine J_aload_n (pc' := 33) C 0 dX7_buildEnded_32 rfl rfl rfl ?_
      refine J_iload_n (pc' := 34) C 3 dX7_buildEnded_33 rfl rfl rfl ?_
      obtain ⟨_, q34, h⟩ := bd h
      obtain ⟨M34, e34, h⟩ := bd h
      refine J_cV (pc' := 37) (st := []) (st2 := []) (cs2 := 0) (sl2 := 0) C 7 rfl rfl q34 (ok_X7_findTurn N e34) mw_X7_findTurn wq_1171 rfl dX7_buildEnded_34 rfl rfl (Nat.le_of_ble_eq_true rfl) (by decide) (by decide) rfl rfl rfl (Nat.zero_le _) (Nat.zero_le _) ?_
      refine J_aload_n (pc' := 38) C 0 dX7_buildEnded_37 rfl rfl rfl ?_
      obtain ⟨v38, e38, h⟩ := bd h
      refine jg_902 (pc' := 41) C dX7_buildEnded_38 rfl (gI_some e38) ?_
      refine J_aload_n (pc' := 42) C 0 dX7_buildEnded_41 rfl rfl rfl ?_
      obtain ⟨v42, e42, h⟩ := bd h
      refine jg_882 (pc' := 45) C dX7_buildEnded_42 rfl (gI_some e42) ?_
      refine J_iload_n (pc' := 46) C 2 dX7_buildEnded_45 rfl rfl rfl ?_
      refine J_isub (pc' := 47) C dX7_buildEnded_46 rfl ?_
      obtain ⟨v47, M47, e47, h⟩ := bd2 h
      refine J_cS (pc' := 50) (st := []) (st2 := [.int v47]) (cs2 := 0) (sl2 := 0) C (ok_X7_least N e47) mw_X7_least wq_1148 rfl dX7_buildEnded_47 rfl rfl (Nat.le_of_ble_eq_true rfl) (by decide) (by decide) rfl rfl rfl (Nat.zero_le _) (Nat.zero_le _) ?_
      refine J_istore (pc' := 52) (lv' := [(4, .int v47), (0, .ref x0), (1, .int x1), (2, .int x2), (3, .int x3)]) C dX7_buildEnded_50 rfl (by decide) rfl ?_
      refine J_iconst (pc' := 53) (v := (0 : Int32)) C dX7_buildEnded_52 rfl (by decide) ?_
      refine J_istore (pc' := 55) (lv' := [(5, .int (0 : Int32)), (4, .int v47), (0, .ref x0), (1, .int x1), (2, .int x2), (3, .int x3)]) C dX7_buildEnded_53 rfl (by decide) rfl ?_
      refine J_sub (lv' := [(0, .ref x0), (1, .int x1), (2, .int x2), (3, .int x3), (4, .int v47), (5, .int (0 : Int32))]) [2, 3, 4, 5, 1, 0] rfl ?_
      exact ok_X7_buildEnded_L55 C N ih N _ _ _ _ _ _ _ _ h
def f_X7_buildEnded (N : Nat) (a0 : Nat) (a1 : Int32) (M : A_M) : Option A_M :=
  (gR M a0 7 2).bind fun v2 =>
  (chk M a0 7).bind fun _ =>
  (f_X7_rankBy N a0 v2 M).bind fun M5 =>
  (pV M5 a0 7 21 (.int (0 : Int32))).bind fun M10 =>
  (chk M10 a0 7).bind fun _ =>
  (f_X7_open N a0 (0 : Int64) (0 : Int32) (0 : Int32) M10).bind fun M17 =>
  f_X7_buildEnded_L24 N N a0 a1 (0 : Int32) (0 : Int32) M17
set_option maxHeartbeats 4000000 in
set_option maxRecDepth 100000 in
theorem ok_X7_buildEnded (N : Nat) {a0 : Nat} {a1 : Int32} {M : A_M} {M' : A_M} (h : f_X7_buildEnded N a0 a1 M = some M') : Runs yX7_buildEnded cX7_buildEnded 8 none 2 48 0 0 [.ref a0, .int a1] M none M' := by
  refine Runs.intro (by decide) (Nat.le_of_ble_eq_true rfl) (fun X C hnm hMC hMS => ?_)
  have C : Cx X cX7_buildEnded RX7 8 none 2 48 := C
  show J X 8 0 [(0, .ref a0), (1, .int a1)] [] M 0 0 none M'
  unfold f_X7_buildEnded at h
  refine J_aload_n (pc' := 1) C 0 dX7_buildEnded_0 rfl rfl rfl ?_
  refine J_aload_n (pc' := 2) C 0 dX7_buildEnded_1 rfl rfl rfl ?_
  obtain ⟨v2, e2, h⟩ := bd h
  refine jg_881 (pc' := 5) C dX7_buildEnded_2 rfl (gR_some e2) ?_
  obtain ⟨_, q5, h⟩ := bd h
  obtain ⟨M5, e5, h⟩ := bd h
  refine J_cV (pc' := 8) (st := []) (st2 := []) (cs2 := 0) (sl2 := 0) C 7 rfl rfl q5 (ok_X7_rankBy N e5) mw_X7_rankBy wq_1132 rfl dX7_buildEnded_5 rfl rfl (Nat.le_of_ble_eq_true rfl) (by decide) (by decide) rfl rfl rfl (Nat.zero_le _) (Nat.zero_le _) ?_
  refine J_aload_n (pc' := 9) C 0 dX7_buildEnded_8 rfl rfl rfl ?_
  refine J_iconst (pc' := 10) (v := (0 : Int32)) C dX7_buildEnded_9 rfl (by decide) ?_
  obtain ⟨M10, e10, h⟩ := bd h
  refine jp_900 (pc' := 13) C (fun _ => ⟨rfl, rfl⟩) dX7_buildEnded_10 rfl e10 ?_
  refine J_aload_n (pc' := 14) C 0 dX7_buildEnded_13 rfl rfl rfl ?_
  refine J_lconst (pc' := 15) (v := (0 : Int64)) C dX7_buildEnded_14 rfl (by decide) ?_
  refine J_iconst (pc' := 16) (v := (0 : Int32)) C dX7_buildEnded_15 rfl (by decide) ?_
  refine J_iconst (pc' := 17) (v := (0 : Int32)) C dX7_buildEnded_16 rfl (by decide) ?_
  obtain ⟨_, q17, h⟩ := bd h
  obtain ⟨M17, e17, h⟩ := bd h
  refine J_cV (pc' := 20) (st := []) (st2 := []) (cs2 := 0) (sl2 := 0) C 7 rfl rfl q17 (ok_X7_open N e17) mw_X7_open wq_1167 rfl dX7_buildEnded_17 rfl rfl (Nat.le_of_ble_eq_true rfl) (by decide) (by decide) rfl rfl rfl (Nat.zero_le _) (Nat.zero_le _) ?_
  refine J_iconst (pc' := 21) (v := (0 : Int32)) C dX7_buildEnded_20 rfl (by decide) ?_
  refine J_istore_n (pc' := 22) (lv' := [(2, .int (0 : Int32)), (0, .ref a0), (1, .int a1)]) C dX7_buildEnded_21 rfl rfl (by decide) rfl ?_
  refine J_iconst (pc' := 23) (v := (0 : Int32)) C dX7_buildEnded_22 rfl (by decide) ?_
  refine J_istore_n (pc' := 24) (lv' := [(3, .int (0 : Int32)), (2, .int (0 : Int32)), (0, .ref a0), (1, .int a1)]) C dX7_buildEnded_23 rfl rfl (by decide) rfl ?_
  refine J_sub (lv' := [(0, .ref a0), (1, .int a1), (2, .int (0 : Int32)), (3, .int (0 : Int32))]) [2, 3, 1, 0] rfl ?_
  exact ok_X7_buildEnded_L24 C N N _ _ _ _ _ _ h
def f_X7_build_K99 (N : Nat) (k65 : Nat → Int32 → Int32 → Int32 → Int32 → A_M → Option (Int64 × A_M)) (x0 : Nat) (x1 : Int32) (x2 : Int32) (x4 : Int32) (s0 : Int32) (M : A_M) : Option (Int64 × A_M) :=
  k65 x0 x1 x2 s0 (x4 + 1) M
set_option maxHeartbeats 4000000 in
set_option maxRecDepth 100000 in
theorem ok_X7_build_K99 {X : JX} (C : Cx X cX7_build RX7 5 (some .long) 6 172) (N : Nat) {k65 : Nat → Int32 → Int32 → Int32 → Int32 → A_M → Option (Int64 × A_M)} (hk65 : ∀ (x0 : Nat) (x1 : Int32) (x2 : Int32) (x3 : Int32) (x4 : Int32) (M : A_M) (r : Int64) (M' : A_M), k65 x0 x1 x2 x3 x4 M = some (r, M') → J X 5 65 [(0, .ref x0), (1, .int x1), (2, .int x2), (3, .int x3), (4, .int x4)] [] M 0 0 (some (.long r)) M') : ∀ (x0 : Nat) (x1 : Int32) (x2 : Int32) (x4 : Int32) (s0 : Int32) (M : A_M) (r : Int64) (M' : A_M), f_X7_build_K99 N k65 x0 x1 x2 x4 s0 M = some (r, M') → J X 5 99 [(0, .ref x0), (1, .int x1), (2, .int x2), (4, .int x4)] [.int s0] M 0 0 (some (.long r)) M' := by
  intro x0 x1 x2 x4 s0 M r M' h
  unfold f_X7_build_K99 at h
  refine J_istore_n (pc' := 100) (lv' := [(3, .int s0), (0, .ref x0), (1, .int x1), (2, .int x2), (4, .int x4)]) C dX7_build_99 rfl rfl (by decide) rfl ?_
  refine J_iinc (pc' := 103) (lv' := [(4, .int (x4 + 1)), (3, .int s0), (0, .ref x0), (1, .int x1), (2, .int x2)]) C 4 dX7_build_100 rfl rfl rfl (by decide) rfl ?_
  refine J_goto (tgt := 65) C dX7_build_103 (by decide) ?_
  refine J_sub (lv' := [(0, .ref x0), (1, .int x1), (2, .int x2), (3, .int s0), (4, .int (x4 + 1))]) [2, 3, 4, 1, 0] rfl ?_
  exact hk65 _ _ _ _ _ _ _ _ h
def f_X7_build_K94 (N : Nat) (k65 : Nat → Int32 → Int32 → Int32 → Int32 → A_M → Option (Int64 × A_M)) (x0 : Nat) (x1 : Int32) (x2 : Int32) (x4 : Int32) (M : A_M) : Option (Int64 × A_M) :=
  f_X7_build_K99 N k65 x0 x1 x2 x4 (1 : Int32) M
set_option maxHeartbeats 4000000 in
set_option maxRecDepth 100000 in
theorem ok_X7_build_K94 {X : JX} (C : Cx X cX7_build RX7 5 (some .long) 6 172) (N : Nat) {k65 : Nat → Int32 → Int32 → Int32 → Int32 → A_M → Option (Int64 × A_M)} (hk65 : ∀ (x0 : Nat) (x1 : Int32) (x2 : Int32) (x3 : Int32) (x4 : Int32) (M : A_M) (r : Int64) (M' : A_M), k65 x0 x1 x2 x3 x4 M = some (r, M') → J X 5 65 [(0, .ref x0), (1, .int x1), (2, .int x2), (3, .int x3), (4, .int x4)] [] M 0 0 (some (.long r)) M') : ∀ (x0 : Nat) (x1 : Int32) (x2 : Int32) (x4 : Int32) (M : A_M) (r : Int64) (M' : A_M), f_X7_build_K94 N k65 x0 x1 x2 x4 M = some (r, M') → J X 5 94 [(0, .ref x0), (1, .int x1), (2, .int x2), (4, .int x4)] [] M 0 0 (some (.long r)) M' := by
  intro x0 x1 x2 x4 M r M' h
  unfold f_X7_build_K94 at h
  refine J_iconst (pc' := 95) (v := (1 : Int32)) C dX7_build_94 rfl (by decide) ?_
  refine J_goto (tgt := 99) C dX7_build_95 (by decide) ?_
  refine J_sub (lv' := [(0, .ref x0), (1, .int x1), (2, .int x2), (4, .int x4)]) [0, 1, 2, 3] rfl ?_
  exact ok_X7_build_K99 C N hk65 _ _ _ _ _ _ _ _ h
def f_X7_build_K165 (N : Nat) (x0 : Nat) (x1 : Int32) (x2 : Int32) (M : A_M) : Option (Int64 × A_M) :=
  (gR M x0 7 2).bind fun v167 =>
  if x1 = 0 then
  ((chk M x0 7).bind fun _ =>
  bnd2 (f_X7_buildFree N x0 v167 (24 : Int32) M) fun v180 M180 =>
  if v180 = 0 then
  (some ((-5 : Int64), M180))
  else
  ((chk M180 x0 7).bind fun _ =>
  (f_X7_comes N x0 M180).bind fun M208 =>
  (chk M208 x0 7).bind fun _ =>
  bnd2 (f_X7_costNow N x0 M208) fun v212 M212 =>
  some (v212, M212)))
  else
  ((chk M x0 7).bind fun _ =>
  bnd2 (f_X7_buildFree N x0 v167 x2 M) fun v180 M180 =>
  if v180 = 0 then
  (some ((-5 : Int64), M180))
  else
  ((chk M180 x0 7).bind fun _ =>
  (f_X7_comes N x0 M180).bind fun M208 =>
  (chk M208 x0 7).bind fun _ =>
  bnd2 (f_X7_costNow N x0 M208) fun v212 M212 =>
  some (v212, M212)))
set_option maxHeartbeats 4000000 in
set_option maxRecDepth 100000 in
theorem ok_X7_build_K165 {X : JX} (C : Cx X cX7_build RX7 5 (some .long) 6 172) (N : Nat) : ∀ (x0 : Nat) (x1 : Int32) (x2 : Int32) (M : A_M) (r : Int64) (M' : A_M), f_X7_build_K165 N x0 x1 x2 M = some (r, M') → J X 5 165 [(0, .ref x0), (1, .int x1), (2, .int x2)] [] M 0 0 (some (.long r)) M' := by
  intro x0 x1 x2 M r M' h
  unfold f_X7_build_K165 at h
  refine J_aload_n (pc' := 166) C 0 dX7_build_165 rfl rfl rfl ?_
  refine J_aload_n (pc' := 167) C 0 dX7_build_166 rfl rfl rfl ?_
  obtain ⟨v167, e167, h⟩ := bd h
  refine jg_881 (pc' := 170) C dX7_build_167 rfl (gR_some e167) ?_
  refine J_iload_n (pc' := 171) C 1 dX7_build_170 rfl rfl rfl ?_
  refine J_if_ne (tgt := 179) (pc' := 174) C dX7_build_171 (by decide) rfl (fun c171 => ?_) (fun c171 => ?_)
  · rw [if_neg c171] at h
    refine J_iload_n (pc' := 180) C 2 dX7_build_179 rfl rfl rfl ?_
    obtain ⟨_, q180, h⟩ := bd h
    obtain ⟨v180, M180, e180, h⟩ := bd2 h
    refine J_cV (pc' := 183) (st := []) (st2 := [.int v180]) (cs2 := 0) (sl2 := 0) C 7 rfl rfl q180 (ok_X7_buildFree N e180) mw_X7_buildFree wq_1128 rfl dX7_build_180 rfl rfl (Nat.le_of_ble_eq_true rfl) (by decide) (by decide) rfl rfl rfl (Nat.zero_le _) (Nat.zero_le _) ?_
    refine J_if_ne (tgt := 207) (pc' := 186) C dX7_build_183 (by decide) rfl (fun c183 => ?_) (fun c183 => ?_)
    · rw [if_neg c183] at h
      refine J_aload_n (pc' := 208) C 0 dX7_build_207 rfl rfl rfl ?_
      obtain ⟨_, q208, h⟩ := bd h
      obtain ⟨M208, e208, h⟩ := bd h
      refine J_cV (pc' := 211) (st := []) (st2 := []) (cs2 := 0) (sl2 := 0) C 7 rfl rfl q208 (ok_X7_comes N e208) mw_X7_comes wq_1210 rfl dX7_build_208 rfl rfl (Nat.le_of_ble_eq_true rfl) (by decide) (by decide) rfl rfl rfl (Nat.zero_le _) (Nat.zero_le _) ?_
      refine J_aload_n (pc' := 212) C 0 dX7_build_211 rfl rfl rfl ?_
      obtain ⟨_, q212, h⟩ := bd h
      obtain ⟨v212, M212, e212, h⟩ := bd2 h
      refine J_cV (pc' := 215) (st := []) (st2 := [.long v212]) (cs2 := 0) (sl2 := 0) C 7 rfl rfl q212 (ok_X7_costNow N e212) mw_X7_costNow wq_1214 rfl dX7_build_212 rfl rfl (Nat.le_of_ble_eq_true rfl) (by decide) (by decide) rfl rfl rfl (Nat.zero_le _) (Nat.zero_le _) ?_
      obtain ⟨rfl, rfl⟩ := rt2 h
      exact J_lret C dX7_build_215 (Nat.zero_le _) (Nat.zero_le _)
    · rw [if_pos c183] at h
      refine J_ldc2 (pc' := 189) C dX7_build_186 rfl wq_1193 ?_
      obtain ⟨rfl, rfl⟩ := rt2 h
      exact J_lret C dX7_build_189 (Nat.zero_le _) (Nat.zero_le _)
  · rw [if_pos c171] at h
    refine J_bipush (pc' := 176) (v := (24 : Int32)) C dX7_build_174 rfl (by decide) ?_
    refine J_goto (tgt := 180) C dX7_build_176 (by decide) ?_
    obtain ⟨_, q180, h⟩ := bd h
    obtain ⟨v180, M180, e180, h⟩ := bd2 h
    refine J_cV (pc' := 183) (st := []) (st2 := [.int v180]) (cs2 := 0) (sl2 := 0) C 7 rfl rfl q180 (ok_X7_buildFree N e180) mw_X7_buildFree wq_1128 rfl dX7_build_180 rfl rfl (Nat.le_of_ble_eq_true rfl) (by decide) (by decide) rfl rfl rfl (Nat.zero_le _) (Nat.zero_le _) ?_
    refine J_if_ne (tgt := 207) (pc' := 186) C dX7_build_183 (by decide) rfl (fun c183 => ?_) (fun c183 => ?_)
    · rw [if_neg c183] at h
      refine J_aload_n (pc' := 208) C 0 dX7_build_207 rfl rfl rfl ?_
      obtain ⟨_, q208, h⟩ := bd h
      obtain ⟨M208, e208, h⟩ := bd h
      refine J_cV (pc' := 211) (st := []) (st2 := []) (cs2 := 0) (sl2 := 0) C 7 rfl rfl q208 (ok_X7_comes N e208) mw_X7_comes wq_1210 rfl dX7_build_208 rfl rfl (Nat.le_of_ble_eq_true rfl) (by decide) (by decide) rfl rfl rfl (Nat.zero_le _) (Nat.zero_le _) ?_
      refine J_aload_n (pc' := 212) C 0 dX7_build_211 rfl rfl rfl ?_
      obtain ⟨_, q212, h⟩ := bd h
      obtain ⟨v212, M212, e212, h⟩ := bd2 h
      refine J_cV (pc' := 215) (st := []) (st2 := [.long v212]) (cs2 := 0) (sl2 := 0) C 7 rfl rfl q212 (ok_X7_costNow N e212) mw_X7_costNow wq_1214 rfl dX7_build_212 rfl rfl (Nat.le_of_ble_eq_true rfl) (by decide) (by decide) rfl rfl rfl (Nat.zero_le _) (Nat.zero_le _) ?_
      obtain ⟨rfl, rfl⟩ := rt2 h
      exact J_lret C dX7_build_215 (Nat.zero_le _) (Nat.zero_le _)
    · rw [if_pos c183] at h
      refine J_ldc2 (pc' := 189) C dX7_build_186 rfl wq_1193 ?_
      obtain ⟨rfl, rfl⟩ := rt2 h
      exact J_lret C dX7_build_189 (Nat.zero_le _) (Nat.zero_le _)
def f_X7_build_L122 (N : Nat) : Nat → Nat → Int32 → Int32 → Int32 → A_M → Option (Int64 × A_M)
  | 0, _, _, _, _, _ => none
  | n + 1, x0, x1, x2, x4, M =>
    (gI M x0 7 3).bind fun v125 =>
    if v125 ≤ x4 then
    (f_X7_build_K165 N x0 x1 x2 M)
    else
    ((gR M x0 7 34).bind fun v132 =>
    (gR M x0 7 7).bind fun v138 =>
    (ldJ M v138 x4).bind fun v143 =>
    (stJ M v132 x4 v143).bind fun M144 =>
    (gR M144 x0 7 35).bind fun v146 =>
    (gR M144 x0 7 8).bind fun v152 =>
    (ldI M144 v152 x4).bind fun v157 =>
    (stI M144 v146 x4 v157).bind fun M158 =>
    f_X7_build_L122 N n x0 x1 x2 (x4 + 1) M158)
set_option maxHeartbeats 4000000 in
set_option maxRecDepth 100000 in
theorem ok_X7_build_L122 {X : JX} (C : Cx X cX7_build RX7 5 (some .long) 6 172) (N : Nat) : ∀ (n : Nat) (x0 : Nat) (x1 : Int32) (x2 : Int32) (x4 : Int32) (M : A_M) (r : Int64) (M' : A_M), f_X7_build_L122 N n x0 x1 x2 x4 M = some (r, M') → J X 5 122 [(0, .ref x0), (1, .int x1), (2, .int x2), (4, .int x4)] [] M 0 0 (some (.long r)) M' := by
  intro n
  induction n with
  | zero =>
    intro x0 x1 x2 x4 M r M' h
    cases h
  | succ n ih =>
    intro x0 x1 x2 x4 M r M' h
    rw [f_X7_build_L122] at h
    refine J_iload (pc' := 124) C 3 dX7_build_122 rfl rfl ?_
    refine J_aload_n (pc' := 125) C 0 dX7_build_124 rfl rfl rfl ?_
    obtain ⟨v125, e125, h⟩ := bd h
    refine jg_882 (pc' := 128) C dX7_build_125 rfl (gI_some e125) ?_
    refine J_icmp_ge (tgt := 165) (pc' := 131) C dX7_build_128 (by decide) rfl (fun c128 => ?_) (fun c128 => ?_)
    · rw [if_pos c128] at h
      refine J_sub (lv' := [(0, .ref x0), (1, .int x1), (2, .int x2)]) [0, 1, 2] rfl ?_
      exact ok_X7_build_K165 C N _ _ _ _ _ _ h
    · rw [if_neg c128] at h
      refine J_aload_n (pc' := 132) C 0 dX7_build_131 rfl rfl rfl ?_
      obtain ⟨v132, e132, h⟩ := bd h
      refine jg_913 (pc' := 135) C dX7_build_132 rfl (gR_some e132) ?_
      refine J_iload (pc' := 137) C 3 dX7_build_135 rfl rfl ?_
      refine J_aload_n (pc' := 138) C 0 dX7_build_137 rfl rfl rfl ?_
      obtain ⟨v138, e138, h⟩ := bd h
      refine jg_886 (pc' := 141) C dX7_build_138 rfl (gR_some e138) ?_
      refine J_iload (pc' := 143) C 3 dX7_build_141 rfl rfl ?_
      obtain ⟨v143, e143, h⟩ := bd h
      refine J_lald (pc' := 144) C dX7_build_143 rfl e143 ?_
      obtain ⟨M144, e144, h⟩ := bd h
      refine J_last (pc' := 145) C dX7_build_144 rfl e144 ?_
      refine J_aload_n (pc' := 146) C 0 dX7_build_145 rfl rfl rfl ?_
      obtain ⟨v146, e146, h⟩ := bd h
      refine jg_914 (pc' := 149) C dX7_build_146 rfl (gR_some e146) ?_
      refine J_iload (pc' := 151) C 3 dX7_build_149 rfl rfl ?_
      refine J_aload_n (pc' := 152) C 0 dX7_build_151 rfl rfl rfl ?_
      obtain ⟨v152, e152, h⟩ := bd h
      refine jg_887 (pc' := 155) C dX7_build_152 rfl (gR_some e152) ?_
      refine J_iload (pc' := 157) C 3 dX7_build_155 rfl rfl ?_
      obtain ⟨v157, e157, h⟩ := bd h
      refine J_iald (pc' := 158) C dX7_build_157 rfl e157 ?_
      obtain ⟨M158, e158, h⟩ := bd h
      refine J_iast (pc' := 159) C dX7_build_158 rfl e158 ?_
      refine J_iinc (pc' := 162) (lv' := [(4, .int (x4 + 1)), (0, .ref x0), (1, .int x1), (2, .int x2)]) C 3 dX7_build_159 rfl rfl rfl (by decide) rfl ?_
      refine J_goto (tgt := 122) C dX7_build_162 (by decide) ?_
      refine J_sub (lv' := [(0, .ref x0), (1, .int x1), (2, .int x2), (4, .int (x4 + 1))]) [1, 2, 3, 0] rfl ?_
      exact ih _ _ _ _ _ _ _ h
def f_X7_build_K106 (N : Nat) (x0 : Nat) (x1 : Int32) (x2 : Int32) (x3 : Int32) (M : A_M) : Option (Int64 × A_M) :=
  if x3 = 0 then
  (some ((-3 : Int64), M))
  else
  (if (2 : Int32) ≤ x1 then
  (if x1 = (2 : Int32) then
  ((chk M x0 7).bind fun _ =>
  (f_X7_buildOrdered N x0 M).bind fun M196 =>
  (chk M196 x0 7).bind fun _ =>
  (f_X7_comes N x0 M196).bind fun M208 =>
  (chk M208 x0 7).bind fun _ =>
  bnd2 (f_X7_costNow N x0 M208) fun v212 M212 =>
  some (v212, M212))
  else
  ((chk M x0 7).bind fun _ =>
  (f_X7_buildEnded N x0 x2 M).bind fun M204 =>
  (chk M204 x0 7).bind fun _ =>
  (f_X7_comes N x0 M204).bind fun M208 =>
  (chk M208 x0 7).bind fun _ =>
  bnd2 (f_X7_costNow N x0 M208) fun v212 M212 =>
  some (v212, M212)))
  else
  (f_X7_build_L122 N N x0 x1 x2 (0 : Int32) M))
set_option maxHeartbeats 4000000 in
set_option maxRecDepth 100000 in
theorem ok_X7_build_K106 {X : JX} (C : Cx X cX7_build RX7 5 (some .long) 6 172) (N : Nat) : ∀ (x0 : Nat) (x1 : Int32) (x2 : Int32) (x3 : Int32) (M : A_M) (r : Int64) (M' : A_M), f_X7_build_K106 N x0 x1 x2 x3 M = some (r, M') → J X 5 106 [(0, .ref x0), (1, .int x1), (2, .int x2), (3, .int x3)] [] M 0 0 (some (.long r)) M' := by
  intro x0 x1 x2 x3 M r M' h
  unfold f_X7_build_K106 at h
  refine J_iload_n (pc' := 107) C 3 dX7_build_106 rfl rfl rfl ?_
  refine J_if_ne (tgt := 114) (pc' := 110) C dX7_build_107 (by decide) rfl (fun c107 => ?_) (fun c107 => ?_)
  · rw [if_neg c107] at h
    refine J_iload_n (pc' := 115) C 1 dX7_build_114 rfl rfl rfl ?_
    refine J_iconst (pc' := 116) (v := (2 : Int32)) C dX7_build_115 rfl (by decide) ?_
    refine J_icmp_ge (tgt := 190) (pc' := 119) C dX7_build_116 (by decide) rfl (fun c116 => ?_) (fun c116 => ?_)
    · rw [if_pos c116] at h
      refine J_iload_n (pc' := 191) C 1 dX7_build_190 rfl rfl rfl ?_
      refine J_iconst (pc' := 192) (v := (2 : Int32)) C dX7_build_191 rfl (by decide) ?_
      refine J_icmp_ne (tgt := 202) (pc' := 195) C dX7_build_192 (by decide) rfl (fun c192 => ?_) (fun c192 => ?_)
      · rw [if_neg c192] at h
        refine J_aload_n (pc' := 203) C 0 dX7_build_202 rfl rfl rfl ?_
        refine J_iload_n (pc' := 204) C 2 dX7_build_203 rfl rfl rfl ?_
        obtain ⟨_, q204, h⟩ := bd h
        obtain ⟨M204, e204, h⟩ := bd h
        refine J_cV (pc' := 207) (st := []) (st2 := []) (cs2 := 0) (sl2 := 0) C 7 rfl rfl q204 (ok_X7_buildEnded N e204) mw_X7_buildEnded wq_1206 rfl dX7_build_204 rfl rfl (Nat.le_of_ble_eq_true rfl) (by decide) (by decide) rfl rfl rfl (Nat.zero_le _) (Nat.zero_le _) ?_
        refine J_aload_n (pc' := 208) C 0 dX7_build_207 rfl rfl rfl ?_
        obtain ⟨_, q208, h⟩ := bd h
        obtain ⟨M208, e208, h⟩ := bd h
        refine J_cV (pc' := 211) (st := []) (st2 := []) (cs2 := 0) (sl2 := 0) C 7 rfl rfl q208 (ok_X7_comes N e208) mw_X7_comes wq_1210 rfl dX7_build_208 rfl rfl (Nat.le_of_ble_eq_true rfl) (by decide) (by decide) rfl rfl rfl (Nat.zero_le _) (Nat.zero_le _) ?_
        refine J_aload_n (pc' := 212) C 0 dX7_build_211 rfl rfl rfl ?_
        obtain ⟨_, q212, h⟩ := bd h
        obtain ⟨v212, M212, e212, h⟩ := bd2 h
        refine J_cV (pc' := 215) (st := []) (st2 := [.long v212]) (cs2 := 0) (sl2 := 0) C 7 rfl rfl q212 (ok_X7_costNow N e212) mw_X7_costNow wq_1214 rfl dX7_build_212 rfl rfl (Nat.le_of_ble_eq_true rfl) (by decide) (by decide) rfl rfl rfl (Nat.zero_le _) (Nat.zero_le _) ?_
        obtain ⟨rfl, rfl⟩ := rt2 h
        exact J_lret C dX7_build_215 (Nat.zero_le _) (Nat.zero_le _)
      · rw [if_pos c192] at h
        refine J_aload_n (pc' := 196) C 0 dX7_build_195 rfl rfl rfl ?_
        obtain ⟨_, q196, h⟩ := bd h
        obtain ⟨M196, e196, h⟩ := bd h
        refine J_cV (pc' := 199) (st := []) (st2 := []) (cs2 := 0) (sl2 := 0) C 7 rfl rfl q196 (ok_X7_buildOrdered N e196) mw_X7_buildOrdered wq_1194 rfl dX7_build_196 rfl rfl (Nat.le_of_ble_eq_true rfl) (by decide) (by decide) rfl rfl rfl (Nat.zero_le _) (Nat.zero_le _) ?_
        refine J_goto (tgt := 207) C dX7_build_199 (by decide) ?_
        refine J_aload_n (pc' := 208) C 0 dX7_build_207 rfl rfl rfl ?_
        obtain ⟨_, q208, h⟩ := bd h
        obtain ⟨M208, e208, h⟩ := bd h
        refine J_cV (pc' := 211) (st := []) (st2 := []) (cs2 := 0) (sl2 := 0) C 7 rfl rfl q208 (ok_X7_comes N e208) mw_X7_comes wq_1210 rfl dX7_build_208 rfl rfl (Nat.le_of_ble_eq_true rfl) (by decide) (by decide) rfl rfl rfl (Nat.zero_le _) (Nat.zero_le _) ?_
        refine J_aload_n (pc' := 212) C 0 dX7_build_211 rfl rfl rfl ?_
        obtain ⟨_, q212, h⟩ := bd h
        obtain ⟨v212, M212, e212, h⟩ := bd2 h
        refine J_cV (pc' := 215) (st := []) (st2 := [.long v212]) (cs2 := 0) (sl2 := 0) C 7 rfl rfl q212 (ok_X7_costNow N e212) mw_X7_costNow wq_1214 rfl dX7_build_212 rfl rfl (Nat.le_of_ble_eq_true rfl) (by decide) (by decide) rfl rfl rfl (Nat.zero_le _) (Nat.zero_le _) ?_
        obtain ⟨rfl, rfl⟩ := rt2 h
        exact J_lret C dX7_build_215 (Nat.zero_le _) (Nat.zero_le _)
    · rw [if_neg c116] at h
      refine J_iconst (pc' := 120) (v := (0 : Int32)) C dX7_build_119 rfl (by decide) ?_
      refine J_istore (pc' := 122) (lv' := [(4, .int (0 : Int32)), (0, .ref x0), (1, .int x1), (2, .int x2), (3, .int x3)]) C dX7_build_120 rfl (by decide) rfl ?_
      refine J_sub (lv' := [(0, .ref x0), (1, .int x1), (2, .int x2), (4, .int (0 : Int32))]) [1, 2, 3, 0] rfl ?_
      exact ok_X7_build_L122 C N N _ _ _ _ _ _ _ h
  · rw [if_pos c107] at h
    refine J_ldc2 (pc' := 113) C dX7_build_110 rfl wq_1083 ?_
    obtain ⟨rfl, rfl⟩ := rt2 h
    exact J_lret C dX7_build_113 (Nat.zero_le _) (Nat.zero_le _)
def f_X7_build_K98 (N : Nat) (k65 : Nat → Int32 → Int32 → Int32 → Int32 → A_M → Option (Int64 × A_M)) (x0 : Nat) (x1 : Int32) (x2 : Int32) (x4 : Int32) (M : A_M) : Option (Int64 × A_M) :=
  f_X7_build_K99 N k65 x0 x1 x2 x4 (0 : Int32) M
set_option maxHeartbeats 4000000 in
set_option maxRecDepth 100000 in
theorem ok_X7_build_K98 {X : JX} (C : Cx X cX7_build RX7 5 (some .long) 6 172) (N : Nat) {k65 : Nat → Int32 → Int32 → Int32 → Int32 → A_M → Option (Int64 × A_M)} (hk65 : ∀ (x0 : Nat) (x1 : Int32) (x2 : Int32) (x3 : Int32) (x4 : Int32) (M : A_M) (r : Int64) (M' : A_M), k65 x0 x1 x2 x3 x4 M = some (r, M') → J X 5 65 [(0, .ref x0), (1, .int x1), (2, .int x2), (3, .int x3), (4, .int x4)] [] M 0 0 (some (.long r)) M') : ∀ (x0 : Nat) (x1 : Int32) (x2 : Int32) (x4 : Int32) (M : A_M) (r : Int64) (M' : A_M), f_X7_build_K98 N k65 x0 x1 x2 x4 M = some (r, M') → J X 5 98 [(0, .ref x0), (1, .int x1), (2, .int x2), (4, .int x4)] [] M 0 0 (some (.long r)) M' := by
  intro x0 x1 x2 x4 M r M' h
  unfold f_X7_build_K98 at h
  refine J_iconst (pc' := 99) (v := (0 : Int32)) C dX7_build_98 rfl (by decide) ?_
  refine J_sub (lv' := [(0, .ref x0), (1, .int x1), (2, .int x2), (4, .int x4)]) [0, 1, 2, 3] rfl ?_
  exact ok_X7_build_K99 C N hk65 _ _ _ _ _ _ _ _ h
def f_X7_build_L65 (N : Nat) : Nat → Nat → Int32 → Int32 → Int32 → Int32 → A_M → Option (Int64 × A_M)
  | 0, _, _, _, _, _, _ => none
  | n + 1, x0, x1, x2, x3, x4, M =>
    (gI M x0 7 1).bind fun v68 =>
    if v68 ≤ x4 then
    (f_X7_build_K106 N x0 x1 x2 x3 M)
    else
    (if x3 = 0 then
    (f_X7_build_K98 N (f_X7_build_L65 N n) x0 x1 x2 x4 M)
    else
    (if x1 = (1 : Int32) then
    ((gR M x0 7 0).bind fun v84 =>
    (ldI M v84 x4).bind fun v89 =>
    if v89 = (1 : Int32) then
    (f_X7_build_K94 N (f_X7_build_L65 N n) x0 x1 x2 x4 M)
    else
    (f_X7_build_K98 N (f_X7_build_L65 N n) x0 x1 x2 x4 M))
    else
    (f_X7_build_K94 N (f_X7_build_L65 N n) x0 x1 x2 x4 M)))
set_option maxHeartbeats 4000000 in
set_option maxRecDepth 100000 in
theorem ok_X7_build_L65 {X : JX} (C : Cx X cX7_build RX7 5 (some .long) 6 172) (N : Nat) : ∀ (n : Nat) (x0 : Nat) (x1 : Int32) (x2 : Int32) (x3 : Int32) (x4 : Int32) (M : A_M) (r : Int64) (M' : A_M), f_X7_build_L65 N n x0 x1 x2 x3 x4 M = some (r, M') → J X 5 65 [(0, .ref x0), (1, .int x1), (2, .int x2), (3, .int x3), (4, .int x4)] [] M 0 0 (some (.long r)) M' := by
  intro n
  induction n with
  | zero =>
    intro x0 x1 x2 x3 x4 M r M' h
    cases h
  | succ n ih =>
    intro x0 x1 x2 x3 x4 M r M' h
    rw [f_X7_build_L65] at h
    refine J_iload (pc' := 67) C 4 dX7_build_65 rfl rfl ?_
    refine J_aload_n (pc' := 68) C 0 dX7_build_67 rfl rfl rfl ?_
    obtain ⟨v68, e68, h⟩ := bd h
    refine jg_880 (pc' := 71) C dX7_build_68 rfl (gI_some e68) ?_
    refine J_icmp_ge (tgt := 106) (pc' := 74) C dX7_build_71 (by decide) rfl (fun c71 => ?_) (fun c71 => ?_)
    · rw [if_pos c71] at h
      refine J_sub (lv' := [(0, .ref x0), (1, .int x1), (2, .int x2), (3, .int x3)]) [0, 1, 2, 3] rfl ?_
      exact ok_X7_build_K106 C N _ _ _ _ _ _ _ h
    · rw [if_neg c71] at h
      refine J_iload_n (pc' := 75) C 3 dX7_build_74 rfl rfl rfl ?_
      refine J_if_eq (tgt := 98) (pc' := 78) C dX7_build_75 (by decide) rfl (fun c75 => ?_) (fun c75 => ?_)
      · rw [if_pos c75] at h
        refine J_sub (lv' := [(0, .ref x0), (1, .int x1), (2, .int x2), (4, .int x4)]) [0, 1, 2, 4] rfl ?_
        exact ok_X7_build_K98 C N ih _ _ _ _ _ _ _ h
      · rw [if_neg c75] at h
        refine J_iload_n (pc' := 79) C 1 dX7_build_78 rfl rfl rfl ?_
        refine J_iconst (pc' := 80) (v := (1 : Int32)) C dX7_build_79 rfl (by decide) ?_
        refine J_icmp_ne (tgt := 94) (pc' := 83) C dX7_build_80 (by decide) rfl (fun c80 => ?_) (fun c80 => ?_)
        · rw [if_neg c80] at h
          refine J_sub (lv' := [(0, .ref x0), (1, .int x1), (2, .int x2), (4, .int x4)]) [0, 1, 2, 4] rfl ?_
          exact ok_X7_build_K94 C N ih _ _ _ _ _ _ _ h
        · rw [if_pos c80] at h
          refine J_aload_n (pc' := 84) C 0 dX7_build_83 rfl rfl rfl ?_
          obtain ⟨v84, e84, h⟩ := bd h
          refine jg_879 (pc' := 87) C dX7_build_84 rfl (gR_some e84) ?_
          refine J_iload (pc' := 89) C 4 dX7_build_87 rfl rfl ?_
          obtain ⟨v89, e89, h⟩ := bd h
          refine J_iald (pc' := 90) C dX7_build_89 rfl e89 ?_
          refine J_iconst (pc' := 91) (v := (1 : Int32)) C dX7_build_90 rfl (by decide) ?_
          refine J_icmp_ne (tgt := 98) (pc' := 94) C dX7_build_91 (by decide) rfl (fun c91 => ?_) (fun c91 => ?_)
          · rw [if_neg c91] at h
            refine J_sub (lv' := [(0, .ref x0), (1, .int x1), (2, .int x2), (4, .int x4)]) [0, 1, 2, 4] rfl ?_
            exact ok_X7_build_K98 C N ih _ _ _ _ _ _ _ h
          · rw [if_pos c91] at h
            refine J_sub (lv' := [(0, .ref x0), (1, .int x1), (2, .int x2), (4, .int x4)]) [0, 1, 2, 4] rfl ?_
            exact ok_X7_build_K94 C N ih _ _ _ _ _ _ _ h
def f_X7_build_K61 (N : Nat) (x0 : Nat) (x1 : Int32) (x2 : Int32) (s0 : Int32) (M : A_M) : Option (Int64 × A_M) :=
  f_X7_build_L65 N N x0 x1 x2 s0 (0 : Int32) M
set_option maxHeartbeats 4000000 in
set_option maxRecDepth 100000 in
theorem ok_X7_build_K61 {X : JX} (C : Cx X cX7_build RX7 5 (some .long) 6 172) (N : Nat) : ∀ (x0 : Nat) (x1 : Int32) (x2 : Int32) (s0 : Int32) (M : A_M) (r : Int64) (M' : A_M), f_X7_build_K61 N x0 x1 x2 s0 M = some (r, M') → J X 5 61 [(0, .ref x0), (1, .int x1), (2, .int x2)] [.int s0] M 0 0 (some (.long r)) M' := by
  intro x0 x1 x2 s0 M r M' h
  unfold f_X7_build_K61 at h
  refine J_istore_n (pc' := 62) (lv' := [(3, .int s0), (0, .ref x0), (1, .int x1), (2, .int x2)]) C dX7_build_61 rfl rfl (by decide) rfl ?_
  refine J_iconst (pc' := 63) (v := (0 : Int32)) C dX7_build_62 rfl (by decide) ?_
  refine J_istore (pc' := 65) (lv' := [(4, .int (0 : Int32)), (3, .int s0), (0, .ref x0), (1, .int x1), (2, .int x2)]) C dX7_build_63 rfl (by decide) rfl ?_
  refine J_sub (lv' := [(0, .ref x0), (1, .int x1), (2, .int x2), (3, .int s0), (4, .int (0 : Int32))]) [2, 3, 4, 1, 0] rfl ?_
  exact ok_X7_build_L65 C N N _ _ _ _ _ _ _ _ h
def f_X7_build_K46 (N : Nat) (x0 : Nat) (x1 : Int32) (x2 : Int32) (M : A_M) : Option (Int64 × A_M) :=
  if x1 = 0 then
  ((chk M x0 7).bind fun _ =>
  bnd2 (f_X7_mayBeFree N x0 M) fun v51 M51 =>
  f_X7_build_K61 N x0 x1 x2 v51 M51)
  else
  ((chk M x0 7).bind fun _ =>
  bnd2 (f_X7_canBegin N x0 M) fun v58 M58 =>
  f_X7_build_K61 N x0 x1 x2 v58 M58)
set_option maxHeartbeats 4000000 in
set_option maxRecDepth 100000 in
theorem ok_X7_build_K46 {X : JX} (C : Cx X cX7_build RX7 5 (some .long) 6 172) (N : Nat) : ∀ (x0 : Nat) (x1 : Int32) (x2 : Int32) (M : A_M) (r : Int64) (M' : A_M), f_X7_build_K46 N x0 x1 x2 M = some (r, M') → J X 5 46 [(0, .ref x0), (1, .int x1), (2, .int x2)] [] M 0 0 (some (.long r)) M' := by
  intro x0 x1 x2 M r M' h
  unfold f_X7_build_K46 at h
  refine J_iload_n (pc' := 47) C 1 dX7_build_46 rfl rfl rfl ?_
  refine J_if_ne (tgt := 57) (pc' := 50) C dX7_build_47 (by decide) rfl (fun c47 => ?_) (fun c47 => ?_)
  · rw [if_neg c47] at h
    refine J_aload_n (pc' := 58) C 0 dX7_build_57 rfl rfl rfl ?_
    obtain ⟨_, q58, h⟩ := bd h
    obtain ⟨v58, M58, e58, h⟩ := bd2 h
    refine J_cV (pc' := 61) (st := []) (st2 := [.int v58]) (cs2 := 0) (sl2 := 0) C 7 rfl rfl q58 (ok_X7_canBegin N e58) mw_X7_canBegin wq_1120 rfl dX7_build_58 rfl rfl (Nat.le_of_ble_eq_true rfl) (by decide) (by decide) rfl rfl rfl (Nat.zero_le _) (Nat.zero_le _) ?_
    refine J_sub (lv' := [(0, .ref x0), (1, .int x1), (2, .int x2)]) [0, 1, 2] rfl ?_
    exact ok_X7_build_K61 C N _ _ _ _ _ _ _ h
  · rw [if_pos c47] at h
    refine J_aload_n (pc' := 51) C 0 dX7_build_50 rfl rfl rfl ?_
    obtain ⟨_, q51, h⟩ := bd h
    obtain ⟨v51, M51, e51, h⟩ := bd2 h
    refine J_cV (pc' := 54) (st := []) (st2 := [.int v51]) (cs2 := 0) (sl2 := 0) C 7 rfl rfl q51 (ok_X7_mayBeFree N e51) mw_X7_mayBeFree wq_1116 rfl dX7_build_51 rfl rfl (Nat.le_of_ble_eq_true rfl) (by decide) (by decide) rfl rfl rfl (Nat.zero_le _) (Nat.zero_le _) ?_
    refine J_goto (tgt := 61) C dX7_build_54 (by decide) ?_
    refine J_sub (lv' := [(0, .ref x0), (1, .int x1), (2, .int x2)]) [0, 1, 2] rfl ?_
    exact ok_X7_build_K61 C N _ _ _ _ _ _ _ h
def f_X7_build_K29 (N : Nat) (x0 : Nat) (x1 : Int32) (x2 : Int32) (M : A_M) : Option (Int64 × A_M) :=
  if x1 = (3 : Int32) then
  ((chk M x0 7).bind fun _ =>
  bnd2 (f_X7_isSign N x0 x2 M) fun v36 M36 =>
  if v36 = 0 then
  (some ((-2 : Int64), M36))
  else
  (f_X7_build_K46 N x0 x1 x2 M36))
  else
  (f_X7_build_K46 N x0 x1 x2 M)
set_option maxHeartbeats 4000000 in
set_option maxRecDepth 100000 in
theorem ok_X7_build_K29 {X : JX} (C : Cx X cX7_build RX7 5 (some .long) 6 172) (N : Nat) : ∀ (x0 : Nat) (x1 : Int32) (x2 : Int32) (M : A_M) (r : Int64) (M' : A_M), f_X7_build_K29 N x0 x1 x2 M = some (r, M') → J X 5 29 [(0, .ref x0), (1, .int x1), (2, .int x2)] [] M 0 0 (some (.long r)) M' := by
  intro x0 x1 x2 M r M' h
  unfold f_X7_build_K29 at h
  refine J_iload_n (pc' := 30) C 1 dX7_build_29 rfl rfl rfl ?_
  refine J_iconst (pc' := 31) (v := (3 : Int32)) C dX7_build_30 rfl (by decide) ?_
  refine J_icmp_ne (tgt := 46) (pc' := 34) C dX7_build_31 (by decide) rfl (fun c31 => ?_) (fun c31 => ?_)
  · rw [if_neg c31] at h
    refine J_sub (lv' := [(0, .ref x0), (1, .int x1), (2, .int x2)]) [0, 1, 2] rfl ?_
    exact ok_X7_build_K46 C N _ _ _ _ _ _ h
  · rw [if_pos c31] at h
    refine J_aload_n (pc' := 35) C 0 dX7_build_34 rfl rfl rfl ?_
    refine J_iload_n (pc' := 36) C 2 dX7_build_35 rfl rfl rfl ?_
    obtain ⟨_, q36, h⟩ := bd h
    obtain ⟨v36, M36, e36, h⟩ := bd2 h
    refine J_cV (pc' := 39) (st := []) (st2 := [.int v36]) (cs2 := 0) (sl2 := 0) C 7 rfl rfl q36 (ok_X7_isSign N e36) mw_X7_isSign wq_1111 rfl dX7_build_36 rfl rfl (Nat.le_of_ble_eq_true rfl) (by decide) (by decide) rfl rfl rfl (Nat.zero_le _) (Nat.zero_le _) ?_
    refine J_if_ne (tgt := 46) (pc' := 42) C dX7_build_39 (by decide) rfl (fun c39 => ?_) (fun c39 => ?_)
    · rw [if_neg c39] at h
      refine J_sub (lv' := [(0, .ref x0), (1, .int x1), (2, .int x2)]) [0, 1, 2] rfl ?_
      exact ok_X7_build_K46 C N _ _ _ _ _ _ h
    · rw [if_pos c39] at h
      refine J_ldc2 (pc' := 45) C dX7_build_42 rfl wq_1115 ?_
      obtain ⟨rfl, rfl⟩ := rt2 h
      exact J_lret C dX7_build_45 (Nat.zero_le _) (Nat.zero_le _)
def f_X7_build (N : Nat) (a0 : Nat) (a1 : Int32) (a2 : Int32) (M : A_M) : Option (Int64 × A_M) :=
  bnd2 (f_X7_in N (a1.toInt64) (0 : Int64) (3 : Int64) M) fun v6 M6 =>
  if v6 = 0 then
  (some ((-2 : Int64), M6))
  else
  (if a1 = (1 : Int32) then
  (bnd2 (f_X7_in N (a2.toInt64) (1 : Int64) (24 : Int64) M6) fun v23 M23 =>
  if v23 = 0 then
  (some ((-2 : Int64), M23))
  else
  (f_X7_build_K29 N a0 a1 a2 M23))
  else
  (f_X7_build_K29 N a0 a1 a2 M6))
set_option maxHeartbeats 4000000 in
set_option maxRecDepth 100000 in
theorem ok_X7_build (N : Nat) {a0 : Nat} {a1 : Int32} {a2 : Int32} {M : A_M} {r : Int64} {M' : A_M} (h : f_X7_build N a0 a1 a2 M = some (r, M')) : Runs yX7_build cX7_build 5 (some .long) 6 172 0 0 [.ref a0, .int a1, .int a2] M (some (.long r)) M' := by
  refine Runs.intro (by decide) (Nat.le_of_ble_eq_true rfl) (fun X C hnm hMC hMS => ?_)
  have C : Cx X cX7_build RX7 5 (some .long) 6 172 := C
  show J X 5 0 [(0, .ref a0), (1, .int a1), (2, .int a2)] [] M 0 0 (some (.long r)) M'
  unfold f_X7_build at h
  refine J_iload_n (pc' := 1) C 1 dX7_build_0 rfl rfl rfl ?_
  refine J_i2l (pc' := 2) C dX7_build_1 rfl ?_
  refine J_lconst (pc' := 3) (v := (0 : Int64)) C dX7_build_2 rfl (by decide) ?_
  refine J_ldc2 (pc' := 6) C dX7_build_3 rfl wq_1109 ?_
  obtain ⟨v6, M6, e6, h⟩ := bd2 h
  refine J_cS (pc' := 9) (st := []) (st2 := [.int v6]) (cs2 := 0) (sl2 := 0) C (ok_X7_in N e6) mw_X7_in wq_1057 rfl dX7_build_6 rfl rfl (Nat.le_of_ble_eq_true rfl) (by decide) (by decide) rfl rfl rfl (Nat.zero_le _) (Nat.zero_le _) ?_
  refine J_if_eq (tgt := 42) (pc' := 12) C dX7_build_9 (by decide) rfl (fun c9 => ?_) (fun c9 => ?_)
  · rw [if_pos c9] at h
    refine J_ldc2 (pc' := 45) C dX7_build_42 rfl wq_1115 ?_
    obtain ⟨rfl, rfl⟩ := rt2 h
    exact J_lret C dX7_build_45 (Nat.zero_le _) (Nat.zero_le _)
  · rw [if_neg c9] at h
    refine J_iload_n (pc' := 13) C 1 dX7_build_12 rfl rfl rfl ?_
    refine J_iconst (pc' := 14) (v := (1 : Int32)) C dX7_build_13 rfl (by decide) ?_
    refine J_icmp_ne (tgt := 29) (pc' := 17) C dX7_build_14 (by decide) rfl (fun c14 => ?_) (fun c14 => ?_)
    · rw [if_neg c14] at h
      refine J_sub (lv' := [(0, .ref a0), (1, .int a1), (2, .int a2)]) [0, 1, 2] rfl ?_
      exact ok_X7_build_K29 C N _ _ _ _ _ _ h
    · rw [if_pos c14] at h
      refine J_iload_n (pc' := 18) C 2 dX7_build_17 rfl rfl rfl ?_
      refine J_i2l (pc' := 19) C dX7_build_18 rfl ?_
      refine J_lconst (pc' := 20) (v := (1 : Int64)) C dX7_build_19 rfl (by decide) ?_
      refine J_ldc2 (pc' := 23) C dX7_build_20 rfl wq_1110 ?_
      obtain ⟨v23, M23, e23, h⟩ := bd2 h
      refine J_cS (pc' := 26) (st := []) (st2 := [.int v23]) (cs2 := 0) (sl2 := 0) C (ok_X7_in N e23) mw_X7_in wq_1057 rfl dX7_build_23 rfl rfl (Nat.le_of_ble_eq_true rfl) (by decide) (by decide) rfl rfl rfl (Nat.zero_le _) (Nat.zero_le _) ?_
      refine J_if_eq (tgt := 42) (pc' := 29) C dX7_build_26 (by decide) rfl (fun c26 => ?_) (fun c26 => ?_)
      · rw [if_pos c26] at h
        refine J_ldc2 (pc' := 45) C dX7_build_42 rfl wq_1115 ?_
        obtain ⟨rfl, rfl⟩ := rt2 h
        exact J_lret C dX7_build_45 (Nat.zero_le _) (Nat.zero_le _)
      · rw [if_neg c26] at h
        refine J_sub (lv' := [(0, .ref a0), (1, .int a1), (2, .int a2)]) [0, 1, 2] rfl ?_
        exact ok_X7_build_K29 C N _ _ _ _ _ _ h
