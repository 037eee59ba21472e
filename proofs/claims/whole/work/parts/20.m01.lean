def f_J7_fill_d0a16_L6 (N : Nat) : Nat → Nat → Int64 → Int32 → Int32 → A_M → Option A_M
  | 0, _, _, _, _, _ => none
  | n + 1, x0, x1, x3, x4, M =>
    if x4 ≤ x3 then
    (some M)
    else
    ((stJ M x0 x3 x1).bind fun M15 =>
    f_J7_fill_d0a16_L6 N n x0 x1 (x3 + 1) x4 M15)
set_option maxHeartbeats 4000000 in
set_option maxRecDepth 100000 in
theorem ok_J7_fill_d0a16_L6 {X : JX} (C : Cx X cJ7_fill_d0a16 RJ7 5 none 0 0) (N : Nat) : ∀ (n : Nat) (x0 : Nat) (x1 : Int64) (x3 : Int32) (x4 : Int32) (M : A_M) (M' : A_M), f_J7_fill_d0a16_L6 N n x0 x1 x3 x4 M = some M' → J X 5 6 [(0, .ref x0), (1, .long x1), (3, .int x3), (4, .int x4)] [] M 0 0 none M' := by
  intro n
  induction n with
  | zero =>
    intro x0 x1 x3 x4 M M' h
    cases h
  | succ n ih =>
    intro x0 x1 x3 x4 M M' h
    rw [f_J7_fill_d0a16_L6] at h
    refine J_iload_n (pc' := 7) C 2 dJ7_fill_d0a16_6 rfl rfl rfl ?_
    refine J_iload (pc' := 9) C 3 dJ7_fill_d0a16_7 rfl rfl ?_
    refine J_icmp_ge (tgt := 22) (pc' := 12) C dJ7_fill_d0a16_9 (by decide) rfl (fun c9 => ?_) (fun c9 => ?_)
    · rw [if_pos c9] at h
      obtain rfl := rt1 h
      exact J_vret C dJ7_fill_d0a16_22 (Nat.zero_le _) (Nat.zero_le _)
    · rw [if_neg c9] at h
      refine J_aload_n (pc' := 13) C 0 dJ7_fill_d0a16_12 rfl rfl rfl ?_
      refine J_iload_n (pc' := 14) C 2 dJ7_fill_d0a16_13 rfl rfl rfl ?_
      refine J_lload_n (pc' := 15) C 1 dJ7_fill_d0a16_14 rfl rfl rfl ?_
      obtain ⟨M15, e15, h⟩ := bd h
      refine J_last (pc' := 16) C dJ7_fill_d0a16_15 rfl e15 ?_
      refine J_iinc (pc' := 19) (lv' := [(3, .int (x3 + 1)), (0, .ref x0), (1, .long x1), (4, .int x4)]) C 2 dJ7_fill_d0a16_16 rfl rfl rfl (by decide) rfl ?_
      refine J_goto (tgt := 6) C dJ7_fill_d0a16_19 (by decide) ?_
      refine J_sub (lv' := [(0, .ref x0), (1, .long x1), (3, .int (x3 + 1)), (4, .int x4)]) [1, 2, 0, 3] rfl ?_
      exact ih _ _ _ _ _ _ h
def f_J7_fill_d0a16 (N : Nat) (a0 : Nat) (a1 : Int64) (M : A_M) : Option A_M :=
  (lenJ M a0).bind fun v3 =>
  f_J7_fill_d0a16_L6 N N a0 a1 (0 : Int32) v3 M
set_option maxHeartbeats 4000000 in
set_option maxRecDepth 100000 in
theorem ok_J7_fill_d0a16 (N : Nat) {a0 : Nat} {a1 : Int64} {M : A_M} {M' : A_M} (h : f_J7_fill_d0a16 N a0 a1 M = some M') : Runs yJ7_fill_d0a16 cJ7_fill_d0a16 5 none 0 0 0 0 [.ref a0, .long a1] M none M' := by
  refine Runs.intro (by decide) (Nat.le_of_ble_eq_true rfl) (fun X C hnm hMC hMS => ?_)
  have C : Cx X cJ7_fill_d0a16 RJ7 5 none 0 0 := C
  show J X 5 0 [(0, .ref a0), (1, .long a1)] [] M 0 0 none M'
  unfold f_J7_fill_d0a16 at h
  refine J_iconst (pc' := 1) (v := (0 : Int32)) C dJ7_fill_d0a16_0 rfl (by decide) ?_
  refine J_istore_n (pc' := 2) (lv' := [(3, .int (0 : Int32)), (0, .ref a0), (1, .long a1)]) C dJ7_fill_d0a16_1 rfl rfl (by decide) rfl ?_
  refine J_aload_n (pc' := 3) C 1 dJ7_fill_d0a16_2 rfl rfl rfl ?_
  obtain ⟨v3, e3, h⟩ := bd h
  refine J_lenJ (pc' := 4) C dJ7_fill_d0a16_3 rfl e3 ?_
  refine J_istore (pc' := 6) (lv' := [(4, .int v3), (3, .int (0 : Int32)), (0, .ref a0), (1, .long a1)]) C dJ7_fill_d0a16_4 rfl (by decide) rfl ?_
  refine J_sub (lv' := [(0, .ref a0), (1, .long a1), (3, .int (0 : Int32)), (4, .int v3)]) [2, 3, 1, 0] rfl ?_
  exact ok_J7_fill_d0a16_L6 C N N _ _ _ _ _ _ h
def f_J7_fill_53178_L5 (N : Nat) : Nat → Nat → Int32 → Int32 → Int32 → A_M → Option A_M
  | 0, _, _, _, _, _ => none
  | n + 1, x0, x1, x2, x3, M =>
    if x3 ≤ x2 then
    (some M)
    else
    ((stI M x0 x2 x1).bind fun M13 =>
    f_J7_fill_53178_L5 N n x0 x1 (x2 + 1) x3 M13)
set_option maxHeartbeats 4000000 in
set_option maxRecDepth 100000 in
theorem ok_J7_fill_53178_L5 {X : JX} (C : Cx X cJ7_fill_53178 RJ7 4 none 0 0) (N : Nat) : ∀ (n : Nat) (x0 : Nat) (x1 : Int32) (x2 : Int32) (x3 : Int32) (M : A_M) (M' : A_M), f_J7_fill_53178_L5 N n x0 x1 x2 x3 M = some M' → J X 4 5 [(0, .ref x0), (1, .int x1), (2, .int x2), (3, .int x3)] [] M 0 0 none M' := by
  intro n
  induction n with
  | zero =>
    intro x0 x1 x2 x3 M M' h
    cases h
  | succ n ih =>
    intro x0 x1 x2 x3 M M' h
    rw [f_J7_fill_53178_L5] at h
    refine J_iload_n (pc' := 6) C 2 dJ7_fill_53178_5 rfl rfl rfl ?_
    refine J_iload_n (pc' := 7) C 3 dJ7_fill_53178_6 rfl rfl rfl ?_
    refine J_icmp_ge (tgt := 20) (pc' := 10) C dJ7_fill_53178_7 (by decide) rfl (fun c7 => ?_) (fun c7 => ?_)
    · rw [if_pos c7] at h
      obtain rfl := rt1 h
      exact J_vret C dJ7_fill_53178_20 (Nat.zero_le _) (Nat.zero_le _)
    · rw [if_neg c7] at h
      refine J_aload_n (pc' := 11) C 0 dJ7_fill_53178_10 rfl rfl rfl ?_
      refine J_iload_n (pc' := 12) C 2 dJ7_fill_53178_11 rfl rfl rfl ?_
      refine J_iload_n (pc' := 13) C 1 dJ7_fill_53178_12 rfl rfl rfl ?_
      obtain ⟨M13, e13, h⟩ := bd h
      refine J_iast (pc' := 14) C dJ7_fill_53178_13 rfl e13 ?_
      refine J_iinc (pc' := 17) (lv' := [(2, .int (x2 + 1)), (0, .ref x0), (1, .int x1), (3, .int x3)]) C 2 dJ7_fill_53178_14 rfl rfl rfl (by decide) rfl ?_
      refine J_goto (tgt := 5) C dJ7_fill_53178_17 (by decide) ?_
      refine J_sub (lv' := [(0, .ref x0), (1, .int x1), (2, .int (x2 + 1)), (3, .int x3)]) [1, 2, 0, 3] rfl ?_
      exact ih _ _ _ _ _ _ h
def f_J7_fill_53178 (N : Nat) (a0 : Nat) (a1 : Int32) (M : A_M) : Option A_M :=
  (lenI M a0).bind fun v3 =>
  f_J7_fill_53178_L5 N N a0 a1 (0 : Int32) v3 M
set_option maxHeartbeats 4000000 in
set_option maxRecDepth 100000 in
theorem ok_J7_fill_53178 (N : Nat) {a0 : Nat} {a1 : Int32} {M : A_M} {M' : A_M} (h : f_J7_fill_53178 N a0 a1 M = some M') : Runs yJ7_fill_53178 cJ7_fill_53178 4 none 0 0 0 0 [.ref a0, .int a1] M none M' := by
  refine Runs.intro (by decide) (Nat.le_of_ble_eq_true rfl) (fun X C hnm hMC hMS => ?_)
  have C : Cx X cJ7_fill_53178 RJ7 4 none 0 0 := C
  show J X 4 0 [(0, .ref a0), (1, .int a1)] [] M 0 0 none M'
  unfold f_J7_fill_53178 at h
  refine J_iconst (pc' := 1) (v := (0 : Int32)) C dJ7_fill_53178_0 rfl (by decide) ?_
  refine J_istore_n (pc' := 2) (lv' := [(2, .int (0 : Int32)), (0, .ref a0), (1, .int a1)]) C dJ7_fill_53178_1 rfl rfl (by decide) rfl ?_
  refine J_aload_n (pc' := 3) C 1 dJ7_fill_53178_2 rfl rfl rfl ?_
  obtain ⟨v3, e3, h⟩ := bd h
  refine J_lenI (pc' := 4) C dJ7_fill_53178_3 rfl e3 ?_
  refine J_istore_n (pc' := 5) (lv' := [(3, .int v3), (2, .int (0 : Int32)), (0, .ref a0), (1, .int a1)]) C dJ7_fill_53178_4 rfl rfl (by decide) rfl ?_
  refine J_sub (lv' := [(0, .ref a0), (1, .int a1), (2, .int (0 : Int32)), (3, .int v3)]) [2, 3, 1, 0] rfl ?_
  exact ok_J7_fill_53178_L5 C N N _ _ _ _ _ _ h
def f_X0_begin (N : Nat) (a0 : Nat) (a1 : Int32) (M : A_M) : Option A_M :=
  (pV M a0 0 2 (.int a1)).bind fun M2 =>
  (gR M2 a0 0 0).bind fun v6 =>
  (f_J7_fill_d0a16 N v6 (0 : Int64) M2).bind fun M10 =>
  (gR M10 a0 0 1).bind fun v14 =>
  (f_J7_fill_53178 N v14 (0 : Int32) M10).bind fun M18 =>
  some M18
set_option maxHeartbeats 4000000 in
set_option maxRecDepth 100000 in
theorem ok_X0_begin (N : Nat) {a0 : Nat} {a1 : Int32} {M : A_M} {M' : A_M} (h : f_X0_begin N a0 a1 M = some M') : Runs yX0_begin cX0_begin 2 none 1 24 0 0 [.ref a0, .int a1] M none M' := by
  refine Runs.intro (by decide) (Nat.le_of_ble_eq_true rfl) (fun X C hnm hMC hMS => ?_)
  have C : Cx X cX0_begin RX0 2 none 1 24 := C
  show J X 2 0 [(0, .ref a0), (1, .int a1)] [] M 0 0 none M'
  unfold f_X0_begin at h
  refine J_aload_n (pc' := 1) C 0 dX0_begin_0 rfl rfl rfl ?_
  refine J_iload_n (pc' := 2) C 1 dX0_begin_1 rfl rfl rfl ?_
  obtain ⟨M2, e2, h⟩ := bd h
  refine jp_178 (pc' := 5) C (fun _ => ⟨rfl, rfl⟩) dX0_begin_2 rfl e2 ?_
  refine J_aload_n (pc' := 6) C 0 dX0_begin_5 rfl rfl rfl ?_
  obtain ⟨v6, e6, h⟩ := bd h
  refine jg_170 (pc' := 9) C dX0_begin_6 rfl (gR_some e6) ?_
  refine J_lconst (pc' := 10) (v := (0 : Int64)) C dX0_begin_9 rfl (by decide) ?_
  obtain ⟨M10, e10, h⟩ := bd h
  refine J_cS (pc' := 13) (st := []) (st2 := []) (cs2 := 0) (sl2 := 0) C (ok_J7_fill_d0a16 N e10) mw_J7_fill_d0a16 wq_257 rfl dX0_begin_10 rfl rfl (Nat.le_of_ble_eq_true rfl) (by decide) (by decide) rfl rfl rfl (Nat.zero_le _) (Nat.zero_le _) ?_
  refine J_aload_n (pc' := 14) C 0 dX0_begin_13 rfl rfl rfl ?_
  obtain ⟨v14, e14, h⟩ := bd h
  refine jg_174 (pc' := 17) C dX0_begin_14 rfl (gR_some e14) ?_
  refine J_iconst (pc' := 18) (v := (0 : Int32)) C dX0_begin_17 rfl (by decide) ?_
  obtain ⟨M18, e18, h⟩ := bd h
  refine J_cS (pc' := 21) (st := []) (st2 := []) (cs2 := 0) (sl2 := 0) C (ok_J7_fill_53178 N e18) mw_J7_fill_53178 wq_260 rfl dX0_begin_18 rfl rfl (Nat.le_of_ble_eq_true rfl) (by decide) (by decide) rfl rfl rfl (Nat.zero_le _) (Nat.zero_le _) ?_
  obtain rfl := rt1 h
  exact J_vret C dX0_begin_21 (Nat.zero_le _) (Nat.zero_le _)
def f_X0_take (N : Nat) (a0 : Nat) (a1 : Nat) (M : A_M) : Option A_M :=
  (gI M a1 0 2).bind fun v2 =>
  (pV M a0 0 2 (.int v2)).bind fun M5 =>
  (gR M5 a1 0 0).bind fun v9 =>
  (gR M5 a0 0 0).bind fun v14 =>
  (cpJ M5 v9 (0 : Int32) v14 (0 : Int32) (24 : Int32)).bind fun M20 =>
  (gR M20 a1 0 1).bind fun v24 =>
  (gR M20 a0 0 1).bind fun v29 =>
  (cpI M20 v24 (0 : Int32) v29 (0 : Int32) (24 : Int32)).bind fun M35 =>
  some M35
set_option maxHeartbeats 4000000 in
set_option maxRecDepth 100000 in
theorem ok_X0_take (N : Nat) {a0 : Nat} {a1 : Nat} {M : A_M} {M' : A_M} (h : f_X0_take N a0 a1 M = some M') : Runs yX0_take cX0_take 2 none 1 30 0 0 [.ref a0, .ref a1] M none M' := by
  refine Runs.intro (by decide) (Nat.le_of_ble_eq_true rfl) (fun X C hnm hMC hMS => ?_)
  have C : Cx X cX0_take RX0 2 none 1 30 := C
  show J X 2 0 [(0, .ref a0), (1, .ref a1)] [] M 0 0 none M'
  unfold f_X0_take at h
  refine J_aload_n (pc' := 1) C 0 dX0_take_0 rfl rfl rfl ?_
  refine J_aload_n (pc' := 2) C 1 dX0_take_1 rfl rfl rfl ?_
  obtain ⟨v2, e2, h⟩ := bd h
  refine jg_178 (pc' := 5) C dX0_take_2 rfl (gI_some e2) ?_
  obtain ⟨M5, e5, h⟩ := bd h
  refine jp_178 (pc' := 8) C (fun _ => ⟨rfl, rfl⟩) dX0_take_5 rfl e5 ?_
  refine J_aload_n (pc' := 9) C 1 dX0_take_8 rfl rfl rfl ?_
  obtain ⟨v9, e9, h⟩ := bd h
  refine jg_170 (pc' := 12) C dX0_take_9 rfl (gR_some e9) ?_
  refine J_iconst (pc' := 13) (v := (0 : Int32)) C dX0_take_12 rfl (by decide) ?_
  refine J_aload_n (pc' := 14) C 0 dX0_take_13 rfl rfl rfl ?_
  obtain ⟨v14, e14, h⟩ := bd h
  refine jg_170 (pc' := 17) C dX0_take_14 rfl (gR_some e14) ?_
  refine J_iconst (pc' := 18) (v := (0 : Int32)) C dX0_take_17 rfl (by decide) ?_
  refine J_bipush (pc' := 20) (v := (24 : Int32)) C dX0_take_18 rfl (by decide) ?_
  obtain ⟨M20, e20, h⟩ := bd h
  refine J_copyJ (pc' := 23) C wq_546 wq_487 wq_486 wq_100 dX0_take_20 rfl (Nat.le_of_ble_eq_true rfl) (by decide) (by decide) e20 ?_
  refine J_aload_n (pc' := 24) C 1 dX0_take_23 rfl rfl rfl ?_
  obtain ⟨v24, e24, h⟩ := bd h
  refine jg_174 (pc' := 27) C dX0_take_24 rfl (gR_some e24) ?_
  refine J_iconst (pc' := 28) (v := (0 : Int32)) C dX0_take_27 rfl (by decide) ?_
  refine J_aload_n (pc' := 29) C 0 dX0_take_28 rfl rfl rfl ?_
  obtain ⟨v29, e29, h⟩ := bd h
  refine jg_174 (pc' := 32) C dX0_take_29 rfl (gR_some e29) ?_
  refine J_iconst (pc' := 33) (v := (0 : Int32)) C dX0_take_32 rfl (by decide) ?_
  refine J_bipush (pc' := 35) (v := (24 : Int32)) C dX0_take_33 rfl (by decide) ?_
  obtain ⟨M35, e35, h⟩ := bd h
  refine J_copyI (pc' := 38) C wq_546 wq_487 wq_486 wq_100 dX0_take_35 rfl (Nat.le_of_ble_eq_true rfl) (by decide) (by decide) e35 ?_
  obtain rfl := rt1 h
  exact J_vret C dX0_take_38 (Nat.zero_le _) (Nat.zero_le _)
def f_X0_giveWord (N : Nat) (a0 : Nat) (a1 : Int32) (a2 : Int64) (a4 : Int32) (M : A_M) : Option A_M :=
  (gR M a0 0 0).bind fun v1 =>
  (stJ M v1 a1 a2).bind fun M6 =>
  (gR M6 a0 0 1).bind fun v8 =>
  (stI M6 v8 a1 a4).bind fun M14 =>
  some M14
set_option maxHeartbeats 4000000 in
set_option maxRecDepth 100000 in
theorem ok_X0_giveWord (N : Nat) {a0 : Nat} {a1 : Int32} {a2 : Int64} {a4 : Int32} {M : A_M} {M' : A_M} (h : f_X0_giveWord N a0 a1 a2 a4 M = some M') : Runs yX0_giveWord cX0_giveWord 5 none 0 0 0 0 [.ref a0, .int a1, .long a2, .int a4] M none M' := by
  refine Runs.intro (by decide) (Nat.le_of_ble_eq_true rfl) (fun X C hnm hMC hMS => ?_)
  have C : Cx X cX0_giveWord RX0 5 none 0 0 := C
  show J X 5 0 [(0, .ref a0), (1, .int a1), (2, .long a2), (4, .int a4)] [] M 0 0 none M'
  unfold f_X0_giveWord at h
  refine J_aload_n (pc' := 1) C 0 dX0_giveWord_0 rfl rfl rfl ?_
  obtain ⟨v1, e1, h⟩ := bd h
  refine jg_170 (pc' := 4) C dX0_giveWord_1 rfl (gR_some e1) ?_
  refine J_iload_n (pc' := 5) C 1 dX0_giveWord_4 rfl rfl rfl ?_
  refine J_lload_n (pc' := 6) C 2 dX0_giveWord_5 rfl rfl rfl ?_
  obtain ⟨M6, e6, h⟩ := bd h
  refine J_last (pc' := 7) C dX0_giveWord_6 rfl e6 ?_
  refine J_aload_n (pc' := 8) C 0 dX0_giveWord_7 rfl rfl rfl ?_
  obtain ⟨v8, e8, h⟩ := bd h
  refine jg_174 (pc' := 11) C dX0_giveWord_8 rfl (gR_some e8) ?_
  refine J_iload_n (pc' := 12) C 1 dX0_giveWord_11 rfl rfl rfl ?_
  refine J_iload (pc' := 14) C 3 dX0_giveWord_12 rfl rfl ?_
  obtain ⟨M14, e14, h⟩ := bd h
  refine J_iast (pc' := 15) C dX0_giveWord_14 rfl e14 ?_
  obtain rfl := rt1 h
  exact J_vret C dX0_giveWord_15 (Nat.zero_le _) (Nat.zero_le _)
def f_J6_numberOfLeadingZeros_0f7a4_K61 (N : Nat) (x0 : Int32) (x1 : Int32) (M : A_M) : Option (Int32 × A_M) :=
  if x0 < (4 : Int32) then
  (some ((x1 - ((x0.toUInt32 >>> ((1 : Int32).toUInt32 &&& Int32.toUInt32 31)).toInt32)), M))
  else
  (some (((x1 + (-2)) - ((((x0.toUInt32 >>> ((2 : Int32).toUInt32 &&& Int32.toUInt32 31)).toInt32).toUInt32 >>> ((1 : Int32).toUInt32 &&& Int32.toUInt32 31)).toInt32)), M))
set_option maxHeartbeats 4000000 in
set_option maxRecDepth 100000 in
theorem ok_J6_numberOfLeadingZeros_0f7a4_K61 {X : JX} (C : Cx X cJ6_numberOfLeadingZeros_0f7a4 RJ6 2 (some .int) 0 0) (N : Nat) : ∀ (x0 : Int32) (x1 : Int32) (M : A_M) (r : Int32) (M' : A_M), f_J6_numberOfLeadingZeros_0f7a4_K61 N x0 x1 M = some (r, M') → J X 2 61 [(0, .int x0), (1, .int x1)] [] M 0 0 (some (.int r)) M' := by
  intro x0 x1 M r M' h
  unfold f_J6_numberOfLeadingZeros_0f7a4_K61 at h
  refine J_iload_n (pc' := 62) C 0 dJ6_numberOfLeadingZeros_0f7a4_61 rfl rfl rfl ?_
  refine J_iconst (pc' := 63) (v := (4 : Int32)) C dJ6_numberOfLeadingZeros_0f7a4_62 rfl (by decide) ?_
  refine J_icmp_lt (tgt := 73) (pc' := 66) C dJ6_numberOfLeadingZeros_0f7a4_63 (by decide) rfl (fun c63 => ?_) (fun c63 => ?_)
  · rw [if_pos c63] at h
    refine J_iload_n (pc' := 74) C 1 dJ6_numberOfLeadingZeros_0f7a4_73 rfl rfl rfl ?_
    refine J_iload_n (pc' := 75) C 0 dJ6_numberOfLeadingZeros_0f7a4_74 rfl rfl rfl ?_
    refine J_iconst (pc' := 76) (v := (1 : Int32)) C dJ6_numberOfLeadingZeros_0f7a4_75 rfl (by decide) ?_
    refine J_iushr (pc' := 77) C dJ6_numberOfLeadingZeros_0f7a4_76 rfl ?_
    refine J_isub (pc' := 78) C dJ6_numberOfLeadingZeros_0f7a4_77 rfl ?_
    obtain ⟨rfl, rfl⟩ := rt2 h
    exact J_iret C dJ6_numberOfLeadingZeros_0f7a4_78 (Nat.zero_le _) (Nat.zero_le _)
  · rw [if_neg c63] at h
    refine J_iinc (pc' := 69) (lv' := [(1, .int (x1 + (-2))), (0, .int x0)]) C 1 dJ6_numberOfLeadingZeros_0f7a4_66 rfl rfl rfl (by decide) rfl ?_
    refine J_iload_n (pc' := 70) C 1 dJ6_numberOfLeadingZeros_0f7a4_69 rfl rfl rfl ?_
    refine J_iconst (pc' := 71) (v := (2 : Int32)) C dJ6_numberOfLeadingZeros_0f7a4_70 rfl (by decide) ?_
    refine J_iushr (pc' := 72) C dJ6_numberOfLeadingZeros_0f7a4_71 rfl ?_
    refine J_istore_n (pc' := 73) (lv' := [(0, .int ((x0.toUInt32 >>> ((2 : Int32).toUInt32 &&& Int32.toUInt32 31)).toInt32)), (1, .int (x1 + (-2)))]) C dJ6_numberOfLeadingZeros_0f7a4_72 rfl rfl (by decide) rfl ?_
    refine J_iload_n (pc' := 74) C 1 dJ6_numberOfLeadingZeros_0f7a4_73 rfl rfl rfl ?_
    refine J_iload_n (pc' := 75) C 0 dJ6_numberOfLeadingZeros_0f7a4_74 rfl rfl rfl ?_
    refine J_iconst (pc' := 76) (v := (1 : Int32)) C dJ6_numberOfLeadingZeros_0f7a4_75 rfl (by decide) ?_
    refine J_iushr (pc' := 77) C dJ6_numberOfLeadingZeros_0f7a4_76 rfl ?_
    refine J_isub (pc' := 78) C dJ6_numberOfLeadingZeros_0f7a4_77 rfl ?_
    obtain ⟨rfl, rfl⟩ := rt2 h
    exact J_iret C dJ6_numberOfLeadingZeros_0f7a4_78 (Nat.zero_le _) (Nat.zero_le _)
def f_J6_numberOfLeadingZeros_0f7a4_K48 (N : Nat) (x0 : Int32) (x1 : Int32) (M : A_M) : Option (Int32 × A_M) :=
  if x0 < (16 : Int32) then
  (f_J6_numberOfLeadingZeros_0f7a4_K61 N x0 x1 M)
  else
  (f_J6_numberOfLeadingZeros_0f7a4_K61 N ((x0.toUInt32 >>> ((4 : Int32).toUInt32 &&& Int32.toUInt32 31)).toInt32) (x1 + (-4)) M)
set_option maxHeartbeats 4000000 in
set_option maxRecDepth 100000 in
theorem ok_J6_numberOfLeadingZeros_0f7a4_K48 {X : JX} (C : Cx X cJ6_numberOfLeadingZeros_0f7a4 RJ6 2 (some .int) 0 0) (N : Nat) : ∀ (x0 : Int32) (x1 : Int32) (M : A_M) (r : Int32) (M' : A_M), f_J6_numberOfLeadingZeros_0f7a4_K48 N x0 x1 M = some (r, M') → J X 2 48 [(0, .int x0), (1, .int x1)] [] M 0 0 (some (.int r)) M' := by
  intro x0 x1 M r M' h
  unfold f_J6_numberOfLeadingZeros_0f7a4_K48 at h
  refine J_iload_n (pc' := 49) C 0 dJ6_numberOfLeadingZeros_0f7a4_48 rfl rfl rfl ?_
  refine J_bipush (pc' := 51) (v := (16 : Int32)) C dJ6_numberOfLeadingZeros_0f7a4_49 rfl (by decide) ?_
  refine J_icmp_lt (tgt := 61) (pc' := 54) C dJ6_numberOfLeadingZeros_0f7a4_51 (by decide) rfl (fun c51 => ?_) (fun c51 => ?_)
  · rw [if_pos c51] at h
    refine J_sub (lv' := [(0, .int x0), (1, .int x1)]) [0, 1] rfl ?_
    exact ok_J6_numberOfLeadingZeros_0f7a4_K61 C N _ _ _ _ _ h
  · rw [if_neg c51] at h
    refine J_iinc (pc' := 57) (lv' := [(1, .int (x1 + (-4))), (0, .int x0)]) C 1 dJ6_numberOfLeadingZeros_0f7a4_54 rfl rfl rfl (by decide) rfl ?_
    refine J_iload_n (pc' := 58) C 1 dJ6_numberOfLeadingZeros_0f7a4_57 rfl rfl rfl ?_
    refine J_iconst (pc' := 59) (v := (4 : Int32)) C dJ6_numberOfLeadingZeros_0f7a4_58 rfl (by decide) ?_
    refine J_iushr (pc' := 60) C dJ6_numberOfLeadingZeros_0f7a4_59 rfl ?_
    refine J_istore_n (pc' := 61) (lv' := [(0, .int ((x0.toUInt32 >>> ((4 : Int32).toUInt32 &&& Int32.toUInt32 31)).toInt32)), (1, .int (x1 + (-4)))]) C dJ6_numberOfLeadingZeros_0f7a4_60 rfl rfl (by decide) rfl ?_
    refine J_sub (lv' := [(0, .int ((x0.toUInt32 >>> ((4 : Int32).toUInt32 &&& Int32.toUInt32 31)).toInt32)), (1, .int (x1 + (-4)))]) [0, 1] rfl ?_
    exact ok_J6_numberOfLeadingZeros_0f7a4_K61 C N _ _ _ _ _ h
def f_J6_numberOfLeadingZeros_0f7a4_K33 (N : Nat) (x0 : Int32) (x1 : Int32) (M : A_M) : Option (Int32 × A_M) :=
  if x0 < (256 : Int32) then
  (f_J6_numberOfLeadingZeros_0f7a4_K48 N x0 x1 M)
  else
  (f_J6_numberOfLeadingZeros_0f7a4_K48 N ((x0.toUInt32 >>> ((8 : Int32).toUInt32 &&& Int32.toUInt32 31)).toInt32) (x1 + (-8)) M)
set_option maxHeartbeats 4000000 in
set_option maxRecDepth 100000 in
theorem ok_J6_numberOfLeadingZeros_0f7a4_K33 {X : JX} (C : Cx X cJ6_numberOfLeadingZeros_0f7a4 RJ6 2 (some .int) 0 0) (N : Nat) : ∀ (x0 : Int32) (x1 : Int32) (M : A_M) (r : Int32) (M' : A_M), f_J6_numberOfLeadingZeros_0f7a4_K33 N x0 x1 M = some (r, M') → J X 2 33 [(0, .int x0), (1, .int x1)] [] M 0 0 (some (.int r)) M' := by
  intro x0 x1 M r M' h
  unfold f_J6_numberOfLeadingZeros_0f7a4_K33 at h
  refine J_iload_n (pc' := 34) C 0 dJ6_numberOfLeadingZeros_0f7a4_33 rfl rfl rfl ?_
  refine J_sipush (pc' := 37) (v := (256 : Int32)) C dJ6_numberOfLeadingZeros_0f7a4_34 rfl (by decide) ?_
  refine J_icmp_lt (tgt := 48) (pc' := 40) C dJ6_numberOfLeadingZeros_0f7a4_37 (by decide) rfl (fun c37 => ?_) (fun c37 => ?_)
  · rw [if_pos c37] at h
    refine J_sub (lv' := [(0, .int x0), (1, .int x1)]) [0, 1] rfl ?_
    exact ok_J6_numberOfLeadingZeros_0f7a4_K48 C N _ _ _ _ _ h
  · rw [if_neg c37] at h
    refine J_iinc (pc' := 43) (lv' := [(1, .int (x1 + (-8))), (0, .int x0)]) C 1 dJ6_numberOfLeadingZeros_0f7a4_40 rfl rfl rfl (by decide) rfl ?_
    refine J_iload_n (pc' := 44) C 1 dJ6_numberOfLeadingZeros_0f7a4_43 rfl rfl rfl ?_
    refine J_bipush (pc' := 46) (v := (8 : Int32)) C dJ6_numberOfLeadingZeros_0f7a4_44 rfl (by decide) ?_
    refine J_iushr (pc' := 47) C dJ6_numberOfLeadingZeros_0f7a4_46 rfl ?_
    refine J_istore_n (pc' := 48) (lv' := [(0, .int ((x0.toUInt32 >>> ((8 : Int32).toUInt32 &&& Int32.toUInt32 31)).toInt32)), (1, .int (x1 + (-8)))]) C dJ6_numberOfLeadingZeros_0f7a4_47 rfl rfl (by decide) rfl ?_
    refine J_sub (lv' := [(0, .int ((x0.toUInt32 >>> ((8 : Int32).toUInt32 &&& Int32.toUInt32 31)).toInt32)), (1, .int (x1 + (-8)))]) [0, 1] rfl ?_
    exact ok_J6_numberOfLeadingZeros_0f7a4_K48 C N _ _ _ _ _ h
def f_J6_numberOfLeadingZeros_0f7a4 (N : Nat) (a0 : Int32) (M : A_M) : Option (Int32 × A_M) :=
  if 0 < a0 then
  (if a0 < (65536 : Int32) then
  (f_J6_numberOfLeadingZeros_0f7a4_K33 N a0 (31 : Int32) M)
  else
  (f_J6_numberOfLeadingZeros_0f7a4_K33 N ((a0.toUInt32 >>> ((16 : Int32).toUInt32 &&& Int32.toUInt32 31)).toInt32) ((31 : Int32) + (-16)) M))
  else
  (if a0 = 0 then
  (some ((32 : Int32), M))
  else
  (some ((0 : Int32), M)))
set_option maxHeartbeats 4000000 in
set_option maxRecDepth 100000 in
theorem ok_J6_numberOfLeadingZeros_0f7a4 (N : Nat) {a0 : Int32} {M : A_M} {r : Int32} {M' : A_M} (h : f_J6_numberOfLeadingZeros_0f7a4 N a0 M = some (r, M')) : Runs yJ6_numberOfLeadingZeros_0f7a4 cJ6_numberOfLeadingZeros_0f7a4 2 (some .int) 0 0 0 0 [.int a0] M (some (.int r)) M' := by
  refine Runs.intro (by decide) (Nat.le_of_ble_eq_true rfl) (fun X C hnm hMC hMS => ?_)
  have C : Cx X cJ6_numberOfLeadingZeros_0f7a4 RJ6 2 (some .int) 0 0 := C
  show J X 2 0 [(0, .int a0)] [] M 0 0 (some (.int r)) M'
  unfold f_J6_numberOfLeadingZeros_0f7a4 at h
  refine J_iload_n (pc' := 1) C 0 dJ6_numberOfLeadingZeros_0f7a4_0 rfl rfl rfl ?_
  refine J_if_gt (tgt := 15) (pc' := 4) C dJ6_numberOfLeadingZeros_0f7a4_1 (by decide) rfl (fun c1 => ?_) (fun c1 => ?_)
  · rw [if_pos c1] at h
    refine J_bipush (pc' := 17) (v := (31 : Int32)) C dJ6_numberOfLeadingZeros_0f7a4_15 rfl (by decide) ?_
    refine J_istore_n (pc' := 18) (lv' := [(1, .int (31 : Int32)), (0, .int a0)]) C dJ6_numberOfLeadingZeros_0f7a4_17 rfl rfl (by decide) rfl ?_
    refine J_iload_n (pc' := 19) C 1 dJ6_numberOfLeadingZeros_0f7a4_18 rfl rfl rfl ?_
    refine J_ldcw (pc' := 22) C dJ6_numberOfLeadingZeros_0f7a4_19 rfl wq_591 ?_
    refine J_icmp_lt (tgt := 33) (pc' := 25) C dJ6_numberOfLeadingZeros_0f7a4_22 (by decide) rfl (fun c22 => ?_) (fun c22 => ?_)
    · rw [if_pos c22] at h
      refine J_sub (lv' := [(0, .int a0), (1, .int (31 : Int32))]) [1, 0] rfl ?_
      exact ok_J6_numberOfLeadingZeros_0f7a4_K33 C N _ _ _ _ _ h
    · rw [if_neg c22] at h
      refine J_iinc (pc' := 28) (lv' := [(1, .int ((31 : Int32) + (-16))), (0, .int a0)]) C 0 dJ6_numberOfLeadingZeros_0f7a4_25 rfl rfl rfl (by decide) rfl ?_
      refine J_iload_n (pc' := 29) C 1 dJ6_numberOfLeadingZeros_0f7a4_28 rfl rfl rfl ?_
      refine J_bipush (pc' := 31) (v := (16 : Int32)) C dJ6_numberOfLeadingZeros_0f7a4_29 rfl (by decide) ?_
      refine J_iushr (pc' := 32) C dJ6_numberOfLeadingZeros_0f7a4_31 rfl ?_
      refine J_istore_n (pc' := 33) (lv' := [(0, .int ((a0.toUInt32 >>> ((16 : Int32).toUInt32 &&& Int32.toUInt32 31)).toInt32)), (1, .int ((31 : Int32) + (-16)))]) C dJ6_numberOfLeadingZeros_0f7a4_32 rfl rfl (by decide) rfl ?_
      refine J_sub (lv' := [(0, .int ((a0.toUInt32 >>> ((16 : Int32).toUInt32 &&& Int32.toUInt32 31)).toInt32)), (1, .int ((31 : Int32) + (-16)))]) [0, 1] rfl ?_
      exact ok_J6_numberOfLeadingZeros_0f7a4_K33 C N _ _ _ _ _ h
  · rw [if_neg c1] at h
    refine J_iload_n (pc' := 5) C 0 dJ6_numberOfLeadingZeros_0f7a4_4 rfl rfl rfl ?_
    refine J_if_ne (tgt := 13) (pc' := 8) C dJ6_numberOfLeadingZeros_0f7a4_5 (by decide) rfl (fun c5 => ?_) (fun c5 => ?_)
    · rw [if_neg c5] at h
      refine J_iconst (pc' := 14) (v := (0 : Int32)) C dJ6_numberOfLeadingZeros_0f7a4_13 rfl (by decide) ?_
      obtain ⟨rfl, rfl⟩ := rt2 h
      exact J_iret C dJ6_numberOfLeadingZeros_0f7a4_14 (Nat.zero_le _) (Nat.zero_le _)
    · rw [if_pos c5] at h
      refine J_bipush (pc' := 10) (v := (32 : Int32)) C dJ6_numberOfLeadingZeros_0f7a4_8 rfl (by decide) ?_
      refine J_goto (tgt := 14) C dJ6_numberOfLeadingZeros_0f7a4_10 (by decide) ?_
      obtain ⟨rfl, rfl⟩ := rt2 h
      exact J_iret C dJ6_numberOfLeadingZeros_0f7a4_14 (Nat.zero_le _) (Nat.zero_le _)
def f_J13_numberOfLeadingZeros_95d88 (N : Nat) (a0 : Int64) (M : A_M) : Option (Int32 × A_M) :=
  if (((a0.toUInt64 >>> ((32 : Int32).toInt64.toUInt64 &&& Int64.toUInt64 63)).toInt64).toInt32) = 0 then
  (bnd2 (f_J6_numberOfLeadingZeros_0f7a4 N (a0.toInt32) M) fun v14 M14 =>
  some (((32 : Int32) + v14), M14))
  else
  (bnd2 (f_J6_numberOfLeadingZeros_0f7a4 N (((a0.toUInt64 >>> ((32 : Int32).toInt64.toUInt64 &&& Int64.toUInt64 63)).toInt64).toInt32) M) fun v22 M22 =>
  some (v22, M22))
set_option maxHeartbeats 4000000 in
set_option maxRecDepth 100000 in
theorem ok_J13_numberOfLeadingZeros_95d88 (N : Nat) {a0 : Int64} {M : A_M} {r : Int32} {M' : A_M} (h : f_J13_numberOfLeadingZeros_95d88 N a0 M = some (r, M')) : Runs yJ13_numberOfLeadingZeros_95d88 cJ13_numberOfLeadingZeros_95d88 3 (some .int) 1 21 0 0 [.long a0] M (some (.int r)) M' := by
  refine Runs.intro (by decide) (Nat.le_of_ble_eq_true rfl) (fun X C hnm hMC hMS => ?_)
  have C : Cx X cJ13_numberOfLeadingZeros_95d88 RJ13 3 (some .int) 1 21 := C
  show J X 3 0 [(0, .long a0)] [] M 0 0 (some (.int r)) M'
  unfold f_J13_numberOfLeadingZeros_95d88 at h
  refine J_lload_n (pc' := 1) C 0 dJ13_numberOfLeadingZeros_95d88_0 rfl rfl rfl ?_
  refine J_bipush (pc' := 3) (v := (32 : Int32)) C dJ13_numberOfLeadingZeros_95d88_1 rfl (by decide) ?_
  refine J_lushr (pc' := 4) C dJ13_numberOfLeadingZeros_95d88_3 rfl ?_
  refine J_l2i (pc' := 5) C dJ13_numberOfLeadingZeros_95d88_4 rfl ?_
  refine J_istore_n (pc' := 6) (lv' := [(2, .int (((a0.toUInt64 >>> ((32 : Int32).toInt64.toUInt64 &&& Int64.toUInt64 63)).toInt64).toInt32)), (0, .long a0)]) C dJ13_numberOfLeadingZeros_95d88_5 rfl rfl (by decide) rfl ?_
  refine J_iload_n (pc' := 7) C 0 dJ13_numberOfLeadingZeros_95d88_6 rfl rfl rfl ?_
  refine J_if_ne (tgt := 21) (pc' := 10) C dJ13_numberOfLeadingZeros_95d88_7 (by decide) rfl (fun c7 => ?_) (fun c7 => ?_)
  · rw [if_neg c7] at h
    refine J_iload_n (pc' := 22) C 0 dJ13_numberOfLeadingZeros_95d88_21 rfl rfl rfl ?_
    obtain ⟨v22, M22, e22, h⟩ := bd2 h
    refine J_cS (pc' := 25) (st := []) (st2 := [.int v22]) (cs2 := 0) (sl2 := 0) C (ok_J6_numberOfLeadingZeros_0f7a4 N e22) mw_J6_numberOfLeadingZeros_0f7a4 wq_588 rfl dJ13_numberOfLeadingZeros_95d88_22 rfl rfl (Nat.le_of_ble_eq_true rfl) (by decide) (by decide) rfl rfl rfl (Nat.zero_le _) (Nat.zero_le _) ?_
    obtain ⟨rfl, rfl⟩ := rt2 h
    exact J_iret C dJ13_numberOfLeadingZeros_95d88_25 (Nat.zero_le _) (Nat.zero_le _)
  · rw [if_pos c7] at h
    refine J_bipush (pc' := 12) (v := (32 : Int32)) C dJ13_numberOfLeadingZeros_95d88_10 rfl (by decide) ?_
    refine J_lload_n (pc' := 13) C 1 dJ13_numberOfLeadingZeros_95d88_12 rfl rfl rfl ?_
    refine J_l2i (pc' := 14) C dJ13_numberOfLeadingZeros_95d88_13 rfl ?_
    obtain ⟨v14, M14, e14, h⟩ := bd2 h
    refine J_cS (pc' := 17) (st := [.int (32 : Int32)]) (st2 := [.int v14, .int (32 : Int32)]) (cs2 := 0) (sl2 := 0) C (ok_J6_numberOfLeadingZeros_0f7a4 N e14) mw_J6_numberOfLeadingZeros_0f7a4 wq_588 rfl dJ13_numberOfLeadingZeros_95d88_14 rfl rfl (Nat.le_of_ble_eq_true rfl) (by decide) (by decide) rfl rfl rfl (Nat.zero_le _) (Nat.zero_le _) ?_
    refine J_iadd (pc' := 18) C dJ13_numberOfLeadingZeros_95d88_17 rfl ?_
    refine J_goto (tgt := 25) C dJ13_numberOfLeadingZeros_95d88_18 (by decide) ?_
    obtain ⟨rfl, rfl⟩ := rt2 h
    exact J_iret C dJ13_numberOfLeadingZeros_95d88_25 (Nat.zero_le _) (Nat.zero_le _)
def f_X6_alikeSigns (N : Nat) (a0 : Int64) (a2 : Int64) (M : A_M) : Option (Int32 × A_M) :=
  bnd2 (f_J13_numberOfLeadingZeros_95d88 N (a0 ^^^ a2) M) fun v3 M3 =>
  some (((v3 - (16 : Int32)) >>> ((1 : Int32) &&& 31)), M3)
set_option maxHeartbeats 4000000 in
set_option maxRecDepth 100000 in
theorem ok_X6_alikeSigns (N : Nat) {a0 : Int64} {a2 : Int64} {M : A_M} {r : Int32} {M' : A_M} (h : f_X6_alikeSigns N a0 a2 M = some (r, M')) : Runs yX6_alikeSigns cX6_alikeSigns 4 (some .int) 2 43 0 0 [.long a0, .long a2] M (some (.int r)) M' := by
  refine Runs.intro (by decide) (Nat.le_of_ble_eq_true rfl) (fun X C hnm hMC hMS => ?_)
  have C : Cx X cX6_alikeSigns RX6 4 (some .int) 2 43 := C
  show J X 4 0 [(0, .long a0), (2, .long a2)] [] M 0 0 (some (.int r)) M'
  unfold f_X6_alikeSigns at h
  refine J_lload_n (pc' := 1) C 0 dX6_alikeSigns_0 rfl rfl rfl ?_
  refine J_lload_n (pc' := 2) C 1 dX6_alikeSigns_1 rfl rfl rfl ?_
  refine J_lxor (pc' := 3) C dX6_alikeSigns_2 rfl ?_
  obtain ⟨v3, M3, e3, h⟩ := bd2 h
  refine J_cS (pc' := 6) (st := []) (st2 := [.int v3]) (cs2 := 0) (sl2 := 0) C (ok_J13_numberOfLeadingZeros_95d88 N e3) mw_J13_numberOfLeadingZeros_95d88 wq_585 rfl dX6_alikeSigns_3 rfl rfl (Nat.le_of_ble_eq_true rfl) (by decide) (by decide) rfl rfl rfl (Nat.zero_le _) (Nat.zero_le _) ?_
  refine J_bipush (pc' := 8) (v := (16 : Int32)) C dX6_alikeSigns_6 rfl (by decide) ?_
  refine J_isub (pc' := 9) C dX6_alikeSigns_8 rfl ?_
  refine J_iconst (pc' := 10) (v := (1 : Int32)) C dX6_alikeSigns_9 rfl (by decide) ?_
  refine J_ishr (pc' := 11) C dX6_alikeSigns_10 rfl ?_
  obtain ⟨rfl, rfl⟩ := rt2 h
  exact J_iret C dX6_alikeSigns_11 (Nat.zero_le _) (Nat.zero_le _)
def f_X0_clash (N : Nat) (a0 : Nat) (a1 : Int32) (a2 : Int32) (M : A_M) : Option (Int32 × A_M) :=
  (gR M a0 0 0).bind fun v1 =>
  (ldJ M v1 a1).bind fun v5 =>
  (gR M a0 0 0).bind fun v7 =>
  (ldJ M v7 a2).bind fun v11 =>
  bnd2 (f_X6_alikeSigns N v5 v11 M) fun v12 M12 =>
  (gR M12 a0 0 1).bind fun v16 =>
  (ldI M12 v16 a1).bind fun v20 =>
  (gR M12 a0 0 1).bind fun v22 =>
  (ldI M12 v22 a2).bind fun v26 =>
  if v12 < (mnI v20 v26) then
  (some ((0 : Int32), M12))
  else
  (some ((1 : Int32), M12))
set_option maxHeartbeats 4000000 in
set_option maxRecDepth 100000 in
theorem ok_X0_clash (N : Nat) {a0 : Nat} {a1 : Int32} {a2 : Int32} {M : A_M} {r : Int32} {M' : A_M} (h : f_X0_clash N a0 a1 a2 M = some (r, M')) : Runs yX0_clash cX0_clash 3 (some .boolean) 3 66 0 0 [.ref a0, .int a1, .int a2] M (some (.int r)) M' := by
  refine Runs.intro (by decide) (Nat.le_of_ble_eq_true rfl) (fun X C hnm hMC hMS => ?_)
  have C : Cx X cX0_clash RX0 3 (some .boolean) 3 66 := C
  show J X 3 0 [(0, .ref a0), (1, .int a1), (2, .int a2)] [] M 0 0 (some (.int r)) M'
  unfold f_X0_clash at h
  refine J_aload_n (pc' := 1) C 0 dX0_clash_0 rfl rfl rfl ?_
  obtain ⟨v1, e1, h⟩ := bd h
  refine jg_170 (pc' := 4) C dX0_clash_1 rfl (gR_some e1) ?_
  refine J_iload_n (pc' := 5) C 1 dX0_clash_4 rfl rfl rfl ?_
  obtain ⟨v5, e5, h⟩ := bd h
  refine J_lald (pc' := 6) C dX0_clash_5 rfl e5 ?_
  refine J_aload_n (pc' := 7) C 0 dX0_clash_6 rfl rfl rfl ?_
  obtain ⟨v7, e7, h⟩ := bd h
  refine jg_170 (pc' := 10) C dX0_clash_7 rfl (gR_some e7) ?_
  refine J_iload_n (pc' := 11) C 2 dX0_clash_10 rfl rfl rfl ?_
  obtain ⟨v11, e11, h⟩ := bd h
  refine J_lald (pc' := 12) C dX0_clash_11 rfl e11 ?_
  obtain ⟨v12, M12, e12, h⟩ := bd2 h
  refine J_cSN (pc' := 15) (st := []) (st2 := [.int v12]) (cs2 := 0) (sl2 := 0) C (ok_X6_alikeSigns N e12) mw_X6_alikeSigns wn_582 rfl dX0_clash_12 rfl rfl (Nat.le_of_ble_eq_true rfl) (by decide) (by decide) rfl rfl rfl (Nat.zero_le _) (Nat.zero_le _) ?_
  refine J_aload_n (pc' := 16) C 0 dX0_clash_15 rfl rfl rfl ?_
  obtain ⟨v16, e16, h⟩ := bd h
  refine jg_174 (pc' := 19) C dX0_clash_16 rfl (gR_some e16) ?_
  refine J_iload_n (pc' := 20) C 1 dX0_clash_19 rfl rfl rfl ?_
  obtain ⟨v20, e20, h⟩ := bd h
  refine J_iald (pc' := 21) C dX0_clash_20 rfl e20 ?_
  refine J_aload_n (pc' := 22) C 0 dX0_clash_21 rfl rfl rfl ?_
  obtain ⟨v22, e22, h⟩ := bd h
  refine jg_174 (pc' := 25) C dX0_clash_22 rfl (gR_some e22) ?_
  refine J_iload_n (pc' := 26) C 2 dX0_clash_25 rfl rfl rfl ?_
  obtain ⟨v26, e26, h⟩ := bd h
  refine J_iald (pc' := 27) C dX0_clash_26 rfl e26 ?_
  refine J_mmin (pc' := 30) C wq_592 dX0_clash_27 rfl (Nat.le_of_ble_eq_true rfl) (by decide) (by decide) (Nat.zero_le _) (Nat.zero_le _) ?_
  refine J_icmp_lt (tgt := 37) (pc' := 33) C dX0_clash_30 (by decide) rfl (fun c30 => ?_) (fun c30 => ?_)
  · rw [if_pos c30] at h
    refine J_iconst (pc' := 38) (v := (0 : Int32)) C dX0_clash_37 rfl (by decide) ?_
    obtain ⟨rfl, rfl⟩ := rt2 h
    exact J_zret C rfl dX0_clash_38 (Nat.zero_le _) (Nat.zero_le _)
  · rw [if_neg c30] at h
    refine J_iconst (pc' := 34) (v := (1 : Int32)) C dX0_clash_33 rfl (by decide) ?_
    refine J_goto (tgt := 38) C dX0_clash_34 (by decide) ?_
    obtain ⟨rfl, rfl⟩ := rt2 h
    exact J_zret C rfl dX0_clash_38 (Nat.zero_le _) (Nat.zero_le _)
def f_X0_isFree_K50 (N : Nat) (k2 : Nat → Int32 → A_M → Option (Int32 × A_M)) (x0 : Nat) (x1 : Int32) (M : A_M) : Option (Int32 × A_M) :=
  k2 x0 (x1 + 1) M
set_option maxHeartbeats 4000000 in
set_option maxRecDepth 100000 in
theorem ok_X0_isFree_K50 {X : JX} (C : Cx X cX0_isFree RX0 3 (some .boolean) 4 88) (N : Nat) {k2 : Nat → Int32 → A_M → Option (Int32 × A_M)} (hk2 : ∀ (x0 : Nat) (x1 : Int32) (M : A_M) (r : Int32) (M' : A_M), k2 x0 x1 M = some (r, M') → J X 3 2 [(0, .ref x0), (1, .int x1)] [] M 0 0 (some (.int r)) M') : ∀ (x0 : Nat) (x1 : Int32) (M : A_M) (r : Int32) (M' : A_M), f_X0_isFree_K50 N k2 x0 x1 M = some (r, M') → J X 3 50 [(0, .ref x0), (1, .int x1)] [] M 0 0 (some (.int r)) M' := by
  intro x0 x1 M r M' h
  unfold f_X0_isFree_K50 at h
  refine J_iinc (pc' := 53) (lv' := [(1, .int (x1 + 1)), (0, .ref x0)]) C 1 dX0_isFree_50 rfl rfl rfl (by decide) rfl ?_
  refine J_goto (tgt := 2) C dX0_isFree_53 (by decide) ?_
  refine J_sub (lv' := [(0, .ref x0), (1, .int (x1 + 1))]) [1, 0] rfl ?_
  exact hk2 _ _ _ _ _ h
def f_X0_isFree_L25 (N : Nat) (k2 : Nat → Int32 → A_M → Option (Int32 × A_M)) : Nat → Nat → Int32 → Int32 → A_M → Option (Int32 × A_M)
  | 0, _, _, _, _ => none
  | n + 1, x0, x1, x2, M =>
    (gI M x0 0 2).bind fun v27 =>
    if v27 ≤ x2 then
    (f_X0_isFree_K50 N k2 x0 x1 M)
    else
    ((chk M x0 0).bind fun _ =>
    bnd2 (f_X0_clash N x0 x1 x2 M) fun v36 M36 =>
    if v36 = 0 then
    (f_X0_isFree_L25 N k2 n x0 x1 (x2 + 1) M36)
    else
    (some ((0 : Int32), M36)))
set_option maxHeartbeats 4000000 in
set_option maxRecDepth 100000 in
theorem ok_X0_isFree_L25 {X : JX} (C : Cx X cX0_isFree RX0 3 (some .boolean) 4 88) (N : Nat) {k2 : Nat → Int32 → A_M → Option (Int32 × A_M)} (hk2 : ∀ (x0 : Nat) (x1 : Int32) (M : A_M) (r : Int32) (M' : A_M), k2 x0 x1 M = some (r, M') → J X 3 2 [(0, .ref x0), (1, .int x1)] [] M 0 0 (some (.int r)) M') : ∀ (n : Nat) (x0 : Nat) (x1 : Int32) (x2 : Int32) (M : A_M) (r : Int32) (M' : A_M), f_X0_isFree_L25 N k2 n x0 x1 x2 M = some (r, M') → J X 3 25 [(0, .ref x0), (1, .int x1), (2, .int x2)] [] M 0 0 (some (.int r)) M' := by
  intro n
  induction n with
  | zero =>
    intro x0 x1 x2 M r M' h
    cases h
  | succ n ih =>
    intro x0 x1 x2 M r M' h
    rw [f_X0_isFree_L25] at h
    refine J_iload_n (pc' := 26) C 2 dX0_isFree_25 rfl rfl rfl ?_
    refine J_aload_n (pc' := 27) C 0 dX0_isFree_26 rfl rfl rfl ?_
    obtain ⟨v27, e27, h⟩ := bd h
    refine jg_178 (pc' := 30) C dX0_isFree_27 rfl (gI_some e27) ?_
    refine J_icmp_ge (tgt := 50) (pc' := 33) C dX0_isFree_30 (by decide) rfl (fun c30 => ?_) (fun c30 => ?_)
    · rw [if_pos c30] at h
      refine J_sub (lv' := [(0, .ref x0), (1, .int x1)]) [0, 1] rfl ?_
      exact ok_X0_isFree_K50 C N hk2 _ _ _ _ _ h
    · rw [if_neg c30] at h
      refine J_aload_n (pc' := 34) C 0 dX0_isFree_33 rfl rfl rfl ?_
      refine J_iload_n (pc' := 35) C 1 dX0_isFree_34 rfl rfl rfl ?_
      refine J_iload_n (pc' := 36) C 2 dX0_isFree_35 rfl rfl rfl ?_
      obtain ⟨_, q36, h⟩ := bd h
      obtain ⟨v36, M36, e36, h⟩ := bd2 h
      refine J_cV (pc' := 39) (st := []) (st2 := [.int v36]) (cs2 := 0) (sl2 := 0) C 0 rfl rfl q36 (ok_X0_clash N e36) mw_X0_clash wq_631 rfl dX0_isFree_36 rfl rfl (Nat.le_of_ble_eq_true rfl) (by decide) (by decide) rfl rfl rfl (Nat.zero_le _) (Nat.zero_le _) ?_
      refine J_if_eq (tgt := 44) (pc' := 42) C dX0_isFree_39 (by decide) rfl (fun c39 => ?_) (fun c39 => ?_)
      · rw [if_pos c39] at h
        refine J_iinc (pc' := 47) (lv' := [(2, .int (x2 + 1)), (0, .ref x0), (1, .int x1)]) C 2 dX0_isFree_44 rfl rfl rfl (by decide) rfl ?_
        refine J_goto (tgt := 25) C dX0_isFree_47 (by decide) ?_
        refine J_sub (lv' := [(0, .ref x0), (1, .int x1), (2, .int (x2 + 1))]) [1, 2, 0] rfl ?_
        exact ih _ _ _ _ _ _ h
      · rw [if_neg c39] at h
        refine J_iconst (pc' := 43) (v := (0 : Int32)) C dX0_isFree_42 rfl (by decide) ?_
        obtain ⟨rfl, rfl⟩ := rt2 h
        exact J_zret C rfl dX0_isFree_43 (Nat.zero_le _) (Nat.zero_le _)
def f_X0_isFree_L2 (N : Nat) : Nat → Nat → Int32 → A_M → Option (Int32 × A_M)
  | 0, _, _, _ => none
  | n + 1, x0, x1, M =>
    (gI M x0 0 2).bind fun v4 =>
    if v4 ≤ x1 then
    (some ((1 : Int32), M))
    else
    ((gR M x0 0 1).bind fun v11 =>
    (ldI M v11 x1).bind fun v15 =>
    if v15 = 0 then
    (some ((0 : Int32), M))
    else
    (f_X0_isFree_L25 N (f_X0_isFree_L2 N n) N x0 x1 (x1 + (1 : Int32)) M))
set_option maxHeartbeats 4000000 in
set_option maxRecDepth 100000 in
theorem ok_X0_isFree_L2 {X : JX} (C : Cx X cX0_isFree RX0 3 (some .boolean) 4 88) (N : Nat) : ∀ (n : Nat) (x0 : Nat) (x1 : Int32) (M : A_M) (r : Int32) (M' : A_M), f_X0_isFree_L2 N n x0 x1 M = some (r, M') → J X 3 2 [(0, .ref x0), (1, .int x1)] [] M 0 0 (some (.int r)) M' := by
  intro n
  induction n with
  | zero =>
    intro x0 x1 M r M' h
    cases h
  | succ n ih =>
    intro x0 x1 M r M' h
    rw [f_X0_isFree_L2] at h
    refine J_iload_n (pc' := 3) C 1 dX0_isFree_2 rfl rfl rfl ?_
    refine J_aload_n (pc' := 4) C 0 dX0_isFree_3 rfl rfl rfl ?_
    obtain ⟨v4, e4, h⟩ := bd h
    refine jg_178 (pc' := 7) C dX0_isFree_4 rfl (gI_some e4) ?_
    refine J_icmp_ge (tgt := 56) (pc' := 10) C dX0_isFree_7 (by decide) rfl (fun c7 => ?_) (fun c7 => ?_)
    · rw [if_pos c7] at h
      refine J_iconst (pc' := 57) (v := (1 : Int32)) C dX0_isFree_56 rfl (by decide) ?_
      obtain ⟨rfl, rfl⟩ := rt2 h
      exact J_zret C rfl dX0_isFree_57 (Nat.zero_le _) (Nat.zero_le _)
    · rw [if_neg c7] at h
      refine J_aload_n (pc' := 11) C 0 dX0_isFree_10 rfl rfl rfl ?_
      obtain ⟨v11, e11, h⟩ := bd h
      refine jg_174 (pc' := 14) C dX0_isFree_11 rfl (gR_some e11) ?_
      refine J_iload_n (pc' := 15) C 1 dX0_isFree_14 rfl rfl rfl ?_
      obtain ⟨v15, e15, h⟩ := bd h
      refine J_iald (pc' := 16) C dX0_isFree_15 rfl e15 ?_
      refine J_if_ne (tgt := 21) (pc' := 19) C dX0_isFree_16 (by decide) rfl (fun c16 => ?_) (fun c16 => ?_)
      · rw [if_neg c16] at h
        refine J_iload_n (pc' := 22) C 1 dX0_isFree_21 rfl rfl rfl ?_
        refine J_iconst (pc' := 23) (v := (1 : Int32)) C dX0_isFree_22 rfl (by decide) ?_
        refine J_iadd (pc' := 24) C dX0_isFree_23 rfl ?_
        refine J_istore_n (pc' := 25) (lv' := [(2, .int (x1 + (1 : Int32))), (0, .ref x0), (1, .int x1)]) C dX0_isFree_24 rfl rfl (by decide) rfl ?_
        refine J_sub (lv' := [(0, .ref x0), (1, .int x1), (2, .int (x1 + (1 : Int32)))]) [1, 2, 0] rfl ?_
        exact ok_X0_isFree_L25 C N ih N _ _ _ _ _ _ h
      · rw [if_pos c16] at h
        refine J_iconst (pc' := 20) (v := (0 : Int32)) C dX0_isFree_19 rfl (by decide) ?_
        obtain ⟨rfl, rfl⟩ := rt2 h
        exact J_zret C rfl dX0_isFree_20 (Nat.zero_le _) (Nat.zero_le _)
def f_X0_isFree (N : Nat) (a0 : Nat) (M : A_M) : Option (Int32 × A_M) :=
  f_X0_isFree_L2 N N a0 (0 : Int32) M
set_option maxHeartbeats 4000000 in
set_option maxRecDepth 100000 in
theorem ok_X0_isFree (N : Nat) {a0 : Nat} {M : A_M} {r : Int32} {M' : A_M} (h : f_X0_isFree N a0 M = some (r, M')) : Runs yX0_isFree cX0_isFree 3 (some .boolean) 4 88 0 0 [.ref a0] M (some (.int r)) M' := by
  refine Runs.intro (by decide) (Nat.le_of_ble_eq_true rfl) (fun X C hnm hMC hMS => ?_)
  have C : Cx X cX0_isFree RX0 3 (some .boolean) 4 88 := C
  show J X 3 0 [(0, .ref a0)] [] M 0 0 (some (.int r)) M'
  unfold f_X0_isFree at h
  refine J_iconst (pc' := 1) (v := (0 : Int32)) C dX0_isFree_0 rfl (by decide) ?_
  refine J_istore_n (pc' := 2) (lv' := [(1, .int (0 : Int32)), (0, .ref a0)]) C dX0_isFree_1 rfl rfl (by decide) rfl ?_
  refine J_sub (lv' := [(0, .ref a0), (1, .int (0 : Int32))]) [1, 0] rfl ?_
  exact ok_X0_isFree_L2 C N N _ _ _ _ _ h
def f_X0_places_K50 (N : Nat) (k4 : Nat → Int32 → Int32 → A_M → Option (Int32 × A_M)) (x0 : Nat) (x1 : Int32) (x2 : Int32) (x3 : Int32) (M : A_M) : Option (Int32 × A_M) :=
  (gR M x0 0 1).bind fun v52 =>
  (ldI M v52 x2).bind fun v56 =>
  k4 x0 (x1 + ((v56 - (1 : Int32)) - x3)) (x2 + 1) M
set_option maxHeartbeats 4000000 in
set_option maxRecDepth 100000 in
theorem ok_X0_places_K50 {X : JX} (C : Cx X cX0_places RX0 5 (some .int) 3 66) (N : Nat) {k4 : Nat → Int32 → Int32 → A_M → Option (Int32 × A_M)} (hk4 : ∀ (x0 : Nat) (x1 : Int32) (x2 : Int32) (M : A_M) (r : Int32) (M' : A_M), k4 x0 x1 x2 M = some (r, M') → J X 5 4 [(0, .ref x0), (1, .int x1), (2, .int x2)] [] M 0 0 (some (.int r)) M') : ∀ (x0 : Nat) (x1 : Int32) (x2 : Int32) (x3 : Int32) (M : A_M) (r : Int32) (M' : A_M), f_X0_places_K50 N k4 x0 x1 x2 x3 M = some (r, M') → J X 5 50 [(0, .ref x0), (1, .int x1), (2, .int x2), (3, .int x3)] [] M 0 0 (some (.int r)) M' := by
  intro x0 x1 x2 x3 M r M' h
  unfold f_X0_places_K50 at h
  refine J_iload_n (pc' := 51) C 1 dX0_places_50 rfl rfl rfl ?_
  refine J_aload_n (pc' := 52) C 0 dX0_places_51 rfl rfl rfl ?_
  obtain ⟨v52, e52, h⟩ := bd h
  refine jg_174 (pc' := 55) C dX0_places_52 rfl (gR_some e52) ?_
  refine J_iload_n (pc' := 56) C 2 dX0_places_55 rfl rfl rfl ?_
  obtain ⟨v56, e56, h⟩ := bd h
  refine J_iald (pc' := 57) C dX0_places_56 rfl e56 ?_
  refine J_iconst (pc' := 58) (v := (1 : Int32)) C dX0_places_57 rfl (by decide) ?_
  refine J_isub (pc' := 59) C dX0_places_58 rfl ?_
  refine J_iload_n (pc' := 60) C 3 dX0_places_59 rfl rfl rfl ?_
  refine J_isub (pc' := 61) C dX0_places_60 rfl ?_
  refine J_iadd (pc' := 62) C dX0_places_61 rfl ?_
  refine J_istore_n (pc' := 63) (lv' := [(1, .int (x1 + ((v56 - (1 : Int32)) - x3))), (0, .ref x0), (2, .int x2), (3, .int x3)]) C dX0_places_62 rfl rfl (by decide) rfl ?_
  refine J_iinc (pc' := 66) (lv' := [(2, .int (x2 + 1)), (1, .int (x1 + ((v56 - (1 : Int32)) - x3))), (0, .ref x0), (3, .int x3)]) C 2 dX0_places_63 rfl rfl rfl (by decide) rfl ?_
  refine J_goto (tgt := 4) C dX0_places_66 (by decide) ?_
  refine J_sub (lv' := [(0, .ref x0), (1, .int (x1 + ((v56 - (1 : Int32)) - x3))), (2, .int (x2 + 1))]) [2, 1, 0] rfl ?_
  exact hk4 _ _ _ _ _ _ h
def f_X0_places_L17 (N : Nat) (k4 : Nat → Int32 → Int32 → A_M → Option (Int32 × A_M)) : Nat → Nat → Int32 → Int32 → Int32 → Int32 → A_M → Option (Int32 × A_M)
  | 0, _, _, _, _, _, _ => none
  | n + 1, x0, x1, x2, x3, x4, M =>
    if x2 ≤ x4 then
    (f_X0_places_K50 N k4 x0 x1 x2 x3 M)
    else
    ((gR M x0 0 0).bind fun v25 =>
    (ldJ M v25 x2).bind fun v29 =>
    (gR M x0 0 0).bind fun v31 =>
    (ldJ M v31 x4).bind fun v36 =>
    bnd2 (f_X6_alikeSigns N v29 v36 M) fun v37 M37 =>
    f_X0_places_L17 N k4 n x0 x1 x2 (mxI x3 v37) (x4 + 1) M37)
set_option maxHeartbeats 4000000 in
set_option maxRecDepth 100000 in
theorem ok_X0_places_L17 {X : JX} (C : Cx X cX0_places RX0 5 (some .int) 3 66) (N : Nat) {k4 : Nat → Int32 → Int32 → A_M → Option (Int32 × A_M)} (hk4 : ∀ (x0 : Nat) (x1 : Int32) (x2 : Int32) (M : A_M) (r : Int32) (M' : A_M), k4 x0 x1 x2 M = some (r, M') → J X 5 4 [(0, .ref x0), (1, .int x1), (2, .int x2)] [] M 0 0 (some (.int r)) M') : ∀ (n : Nat) (x0 : Nat) (x1 : Int32) (x2 : Int32) (x3 : Int32) (x4 : Int32) (M : A_M) (r : Int32) (M' : A_M), f_X0_places_L17 N k4 n x0 x1 x2 x3 x4 M = some (r, M') → J X 5 17 [(0, .ref x0), (1, .int x1), (2, .int x2), (3, .int x3), (4, .int x4)] [] M 0 0 (some (.int r)) M' := by
  intro n
  induction n with
  | zero =>
    intro x0 x1 x2 x3 x4 M r M' h
    cases h
  | succ n ih =>
    intro x0 x1 x2 x3 x4 M r M' h
    rw [f_X0_places_L17] at h
    refine J_iload (pc' := 19) C 4 dX0_places_17 rfl rfl ?_
    refine J_iload_n (pc' := 20) C 2 dX0_places_19 rfl rfl rfl ?_
    refine J_icmp_ge (tgt := 50) (pc' := 23) C dX0_places_20 (by decide) rfl (fun c20 => ?_) (fun c20 => ?_)
    · rw [if_pos c20] at h
      refine J_sub (lv' := [(0, .ref x0), (1, .int x1), (2, .int x2), (3, .int x3)]) [0, 1, 2, 3] rfl ?_
      exact ok_X0_places_K50 C N hk4 _ _ _ _ _ _ _ h
    · rw [if_neg c20] at h
      refine J_iload_n (pc' := 24) C 3 dX0_places_23 rfl rfl rfl ?_
      refine J_aload_n (pc' := 25) C 0 dX0_places_24 rfl rfl rfl ?_
      obtain ⟨v25, e25, h⟩ := bd h
      refine jg_170 (pc' := 28) C dX0_places_25 rfl (gR_some e25) ?_
      refine J_iload_n (pc' := 29) C 2 dX0_places_28 rfl rfl rfl ?_
      obtain ⟨v29, e29, h⟩ := bd h
      refine J_lald (pc' := 30) C dX0_places_29 rfl e29 ?_
      refine J_aload_n (pc' := 31) C 0 dX0_places_30 rfl rfl rfl ?_
      obtain ⟨v31, e31, h⟩ := bd h
      refine jg_170 (pc' := 34) C dX0_places_31 rfl (gR_some e31) ?_
      refine J_iload (pc' := 36) C 4 dX0_places_34 rfl rfl ?_
      obtain ⟨v36, e36, h⟩ := bd h
      refine J_lald (pc' := 37) C dX0_places_36 rfl e36 ?_
      obtain ⟨v37, M37, e37, h⟩ := bd2 h
      refine J_cSN (pc' := 40) (st := [.int x3]) (st2 := [.int v37, .int x3]) (cs2 := 0) (sl2 := 0) C (ok_X6_alikeSigns N e37) mw_X6_alikeSigns wn_582 rfl dX0_places_37 rfl rfl (Nat.le_of_ble_eq_true rfl) (by decide) (by decide) rfl rfl rfl (Nat.zero_le _) (Nat.zero_le _) ?_
      refine J_mmax (pc' := 43) C wq_855 dX0_places_40 rfl (Nat.le_of_ble_eq_true rfl) (by decide) (by decide) (Nat.zero_le _) (Nat.zero_le _) ?_
      refine J_istore_n (pc' := 44) (lv' := [(3, .int (mxI x3 v37)), (0, .ref x0), (1, .int x1), (2, .int x2), (4, .int x4)]) C dX0_places_43 rfl rfl (by decide) rfl ?_
      refine J_iinc (pc' := 47) (lv' := [(4, .int (x4 + 1)), (3, .int (mxI x3 v37)), (0, .ref x0), (1, .int x1), (2, .int x2)]) C 4 dX0_places_44 rfl rfl rfl (by decide) rfl ?_
      refine J_goto (tgt := 17) C dX0_places_47 (by decide) ?_
      refine J_sub (lv' := [(0, .ref x0), (1, .int x1), (2, .int x2), (3, .int (mxI x3 v37)), (4, .int (x4 + 1))]) [2, 3, 4, 1, 0] rfl ?_
      exact ih _ _ _ _ _ _ _ _ h
def f_X0_places_L4 (N : Nat) : Nat → Nat → Int32 → Int32 → A_M → Option (Int32 × A_M)
  | 0, _, _, _, _ => none
  | n + 1, x0, x1, x2, M =>
    (gI M x0 0 2).bind fun v6 =>
    if v6 ≤ x2 then
    (some (x1, M))
    else
    (f_X0_places_L17 N (f_X0_places_L4 N n) N x0 x1 x2 (-1 : Int32) (0 : Int32) M)
set_option maxHeartbeats 4000000 in
set_option maxRecDepth 100000 in
theorem ok_X0_places_L4 {X : JX} (C : Cx X cX0_places RX0 5 (some .int) 3 66) (N : Nat) : ∀ (n : Nat) (x0 : Nat) (x1 : Int32) (x2 : Int32) (M : A_M) (r : Int32) (M' : A_M), f_X0_places_L4 N n x0 x1 x2 M = some (r, M') → J X 5 4 [(0, .ref x0), (1, .int x1), (2, .int x2)] [] M 0 0 (some (.int r)) M' := by
  intro n
  induction n with
  | zero =>
    intro x0 x1 x2 M r M' h
    cases h
  | succ n ih =>
    intro x0 x1 x2 M r M' h
    rw [f_X0_places_L4] at h
    refine J_iload_n (pc' := 5) C 2 dX0_places_4 rfl rfl rfl ?_
    refine J_aload_n (pc' := 6) C 0 dX0_places_5 rfl rfl rfl ?_
    obtain ⟨v6, e6, h⟩ := bd h
    refine jg_178 (pc' := 9) C dX0_places_6 rfl (gI_some e6) ?_
    refine J_icmp_ge (tgt := 69) (pc' := 12) C dX0_places_9 (by decide) rfl (fun c9 => ?_) (fun c9 => ?_)
    · rw [if_pos c9] at h
      refine J_iload_n (pc' := 70) C 1 dX0_places_69 rfl rfl rfl ?_
      obtain ⟨rfl, rfl⟩ := rt2 h
      exact J_iret C dX0_places_70 (Nat.zero_le _) (Nat.zero_le _)
    · rw [if_neg c9] at h
      refine J_iconst (pc' := 13) (v := (-1 : Int32)) C dX0_places_12 rfl (by decide) ?_
      refine J_istore_n (pc' := 14) (lv' := [(3, .int (-1 : Int32)), (0, .ref x0), (1, .int x1), (2, .int x2)]) C dX0_places_13 rfl rfl (by decide) rfl ?_
      refine J_iconst (pc' := 15) (v := (0 : Int32)) C dX0_places_14 rfl (by decide) ?_
      refine J_istore (pc' := 17) (lv' := [(4, .int (0 : Int32)), (3, .int (-1 : Int32)), (0, .ref x0), (1, .int x1), (2, .int x2)]) C dX0_places_15 rfl (by decide) rfl ?_
      refine J_sub (lv' := [(0, .ref x0), (1, .int x1), (2, .int x2), (3, .int (-1 : Int32)), (4, .int (0 : Int32))]) [2, 3, 4, 1, 0] rfl ?_
      exact ok_X0_places_L17 C N ih N _ _ _ _ _ _ _ _ h
def f_X0_places (N : Nat) (a0 : Nat) (M : A_M) : Option (Int32 × A_M) :=
  f_X0_places_L4 N N a0 (0 : Int32) (0 : Int32) M
set_option maxHeartbeats 4000000 in
set_option maxRecDepth 100000 in
theorem ok_X0_places (N : Nat) {a0 : Nat} {M : A_M} {r : Int32} {M' : A_M} (h : f_X0_places N a0 M = some (r, M')) : Runs yX0_places cX0_places 5 (some .int) 3 66 0 0 [.ref a0] M (some (.int r)) M' := by
  refine Runs.intro (by decide) (Nat.le_of_ble_eq_true rfl) (fun X C hnm hMC hMS => ?_)
  have C : Cx X cX0_places RX0 5 (some .int) 3 66 := C
  show J X 5 0 [(0, .ref a0)] [] M 0 0 (some (.int r)) M'
  unfold f_X0_places at h
  refine J_iconst (pc' := 1) (v := (0 : Int32)) C dX0_places_0 rfl (by decide) ?_
  refine J_istore_n (pc' := 2) (lv' := [(1, .int (0 : Int32)), (0, .ref a0)]) C dX0_places_1 rfl rfl (by decide) rfl ?_
  refine J_iconst (pc' := 3) (v := (0 : Int32)) C dX0_places_2 rfl (by decide) ?_
  refine J_istore_n (pc' := 4) (lv' := [(2, .int (0 : Int32)), (1, .int (0 : Int32)), (0, .ref a0)]) C dX0_places_3 rfl rfl (by decide) rfl ?_
  refine J_sub (lv' := [(0, .ref a0), (1, .int (0 : Int32)), (2, .int (0 : Int32))]) [2, 1, 0] rfl ?_
  exact ok_X0_places_L4 C N N _ _ _ _ _ _ h
def f_X0_orderBySize_K49 (N : Nat) (k2 : Nat → Nat → Int32 → A_M → Option A_M) (x0 : Nat) (x1 : Nat) (x2 : Int32) (x3 : Int32) (M : A_M) : Option A_M :=
  (stI M x1 x3 x2).bind fun M52 =>
  k2 x0 x1 (x2 + 1) M52
set_option maxHeartbeats 4000000 in
set_option maxRecDepth 100000 in
theorem ok_X0_orderBySize_K49 {X : JX} (C : Cx X cX0_orderBySize RX0 4 none 0 0) (N : Nat) {k2 : Nat → Nat → Int32 → A_M → Option A_M} (hk2 : ∀ (x0 : Nat) (x1 : Nat) (x2 : Int32) (M : A_M) (M' : A_M), k2 x0 x1 x2 M = some M' → J X 4 2 [(0, .ref x0), (1, .ref x1), (2, .int x2)] [] M 0 0 none M') : ∀ (x0 : Nat) (x1 : Nat) (x2 : Int32) (x3 : Int32) (M : A_M) (M' : A_M), f_X0_orderBySize_K49 N k2 x0 x1 x2 x3 M = some M' → J X 4 49 [(0, .ref x0), (1, .ref x1), (2, .int x2), (3, .int x3)] [] M 0 0 none M' := by
  intro x0 x1 x2 x3 M M' h
  unfold f_X0_orderBySize_K49 at h
  refine J_aload_n (pc' := 50) C 1 dX0_orderBySize_49 rfl rfl rfl ?_
  refine J_iload_n (pc' := 51) C 3 dX0_orderBySize_50 rfl rfl rfl ?_
  refine J_iload_n (pc' := 52) C 2 dX0_orderBySize_51 rfl rfl rfl ?_
  obtain ⟨M52, e52, h⟩ := bd h
  refine J_iast (pc' := 53) C dX0_orderBySize_52 rfl e52 ?_
  refine J_iinc (pc' := 56) (lv' := [(2, .int (x2 + 1)), (0, .ref x0), (1, .ref x1), (3, .int x3)]) C 2 dX0_orderBySize_53 rfl rfl rfl (by decide) rfl ?_
  refine J_goto (tgt := 2) C dX0_orderBySize_56 (by decide) ?_
  refine J_sub (lv' := [(0, .ref x0), (1, .ref x1), (2, .int (x2 + 1))]) [1, 2, 0] rfl ?_
  exact hk2 _ _ _ _ _ h
def f_X0_orderBySize_L12 (N : Nat) (k2 : Nat → Nat → Int32 → A_M → Option A_M) : Nat → Nat → Nat → Int32 → Int32 → A_M → Option A_M
  | 0, _, _, _, _, _ => none
  | n + 1, x0, x1, x2, x3, M =>
    if x3 ≤ 0 then
    (f_X0_orderBySize_K49 N k2 x0 x1 x2 x3 M)
    else
    ((gR M x0 0 1).bind fun v17 =>
    (ldI M x1 (x3 - (1 : Int32))).bind fun v24 =>
    (ldI M v17 v24).bind fun v25 =>
    (gR M x0 0 1).bind fun v27 =>
    (ldI M v27 x2).bind fun v31 =>
    if v25 ≤ v31 then
    (f_X0_orderBySize_K49 N k2 x0 x1 x2 x3 M)
    else
    ((ldI M x1 (x3 - (1 : Int32))).bind fun v41 =>
    (stI M x1 x3 v41).bind fun M42 =>
    f_X0_orderBySize_L12 N k2 n x0 x1 x2 (x3 + (-1)) M42))
set_option maxHeartbeats 4000000 in
set_option maxRecDepth 100000 in
theorem ok_X0_orderBySize_L12 {X : JX} (C : Cx X cX0_orderBySize RX0 4 none 0 0) (N : Nat) {k2 : Nat → Nat → Int32 → A_M → Option A_M} (hk2 : ∀ (x0 : Nat) (x1 : Nat) (x2 : Int32) (M : A_M) (M' : A_M), k2 x0 x1 x2 M = some M' → J X 4 2 [(0, .ref x0), (1, .ref x1), (2, .int x2)] [] M 0 0 none M') : ∀ (n : Nat) (x0 : Nat) (x1 : Nat) (x2 : Int32) (x3 : Int32) (M : A_M) (M' : A_M), f_X0_orderBySize_L12 N k2 n x0 x1 x2 x3 M = some M' → J X 4 12 [(0, .ref x0), (1, .ref x1), (2, .int x2), (3, .int x3)] [] M 0 0 none M' := by
  intro n
  induction n with
  | zero =>
    intro x0 x1 x2 x3 M M' h
    cases h
  | succ n ih =>
    intro x0 x1 x2 x3 M M' h
    rw [f_X0_orderBySize_L12] at h
    refine J_iload_n (pc' := 13) C 3 dX0_orderBySize_12 rfl rfl rfl ?_
    refine J_if_le (tgt := 49) (pc' := 16) C dX0_orderBySize_13 (by decide) rfl (fun c13 => ?_) (fun c13 => ?_)
    · rw [if_pos c13] at h
      refine J_sub (lv' := [(0, .ref x0), (1, .ref x1), (2, .int x2), (3, .int x3)]) [0, 1, 2, 3] rfl ?_
      exact ok_X0_orderBySize_K49 C N hk2 _ _ _ _ _ _ h
    · rw [if_neg c13] at h
      refine J_aload_n (pc' := 17) C 0 dX0_orderBySize_16 rfl rfl rfl ?_
      obtain ⟨v17, e17, h⟩ := bd h
      refine jg_174 (pc' := 20) C dX0_orderBySize_17 rfl (gR_some e17) ?_
      refine J_aload_n (pc' := 21) C 1 dX0_orderBySize_20 rfl rfl rfl ?_
      refine J_iload_n (pc' := 22) C 3 dX0_orderBySize_21 rfl rfl rfl ?_
      refine J_iconst (pc' := 23) (v := (1 : Int32)) C dX0_orderBySize_22 rfl (by decide) ?_
      refine J_isub (pc' := 24) C dX0_orderBySize_23 rfl ?_
      obtain ⟨v24, e24, h⟩ := bd h
      refine J_iald (pc' := 25) C dX0_orderBySize_24 rfl e24 ?_
      obtain ⟨v25, e25, h⟩ := bd h
      refine J_iald (pc' := 26) C dX0_orderBySize_25 rfl e25 ?_
      refine J_aload_n (pc' := 27) C 0 dX0_orderBySize_26 rfl rfl rfl ?_
      obtain ⟨v27, e27, h⟩ := bd h
      refine jg_174 (pc' := 30) C dX0_orderBySize_27 rfl (gR_some e27) ?_
      refine J_iload_n (pc' := 31) C 2 dX0_orderBySize_30 rfl rfl rfl ?_
      obtain ⟨v31, e31, h⟩ := bd h
      refine J_iald (pc' := 32) C dX0_orderBySize_31 rfl e31 ?_
      refine J_icmp_le (tgt := 49) (pc' := 35) C dX0_orderBySize_32 (by decide) rfl (fun c32 => ?_) (fun c32 => ?_)
      · rw [if_pos c32] at h
        refine J_sub (lv' := [(0, .ref x0), (1, .ref x1), (2, .int x2), (3, .int x3)]) [0, 1, 2, 3] rfl ?_
        exact ok_X0_orderBySize_K49 C N hk2 _ _ _ _ _ _ h
      · rw [if_neg c32] at h
        refine J_aload_n (pc' := 36) C 1 dX0_orderBySize_35 rfl rfl rfl ?_
        refine J_iload_n (pc' := 37) C 3 dX0_orderBySize_36 rfl rfl rfl ?_
        refine J_aload_n (pc' := 38) C 1 dX0_orderBySize_37 rfl rfl rfl ?_
        refine J_iload_n (pc' := 39) C 3 dX0_orderBySize_38 rfl rfl rfl ?_
        refine J_iconst (pc' := 40) (v := (1 : Int32)) C dX0_orderBySize_39 rfl (by decide) ?_
        refine J_isub (pc' := 41) C dX0_orderBySize_40 rfl ?_
        obtain ⟨v41, e41, h⟩ := bd h
        refine J_iald (pc' := 42) C dX0_orderBySize_41 rfl e41 ?_
        obtain ⟨M42, e42, h⟩ := bd h
        refine J_iast (pc' := 43) C dX0_orderBySize_42 rfl e42 ?_
        refine J_iinc (pc' := 46) (lv' := [(3, .int (x3 + (-1))), (0, .ref x0), (1, .ref x1), (2, .int x2)]) C 3 dX0_orderBySize_43 rfl rfl rfl (by decide) rfl ?_
        refine J_goto (tgt := 12) C dX0_orderBySize_46 (by decide) ?_
        refine J_sub (lv' := [(0, .ref x0), (1, .ref x1), (2, .int x2), (3, .int (x3 + (-1)))]) [1, 2, 3, 0] rfl ?_
        exact ih _ _ _ _ _ _ h
def f_X0_orderBySize_L2 (N : Nat) : Nat → Nat → Nat → Int32 → A_M → Option A_M
  | 0, _, _, _, _ => none
  | n + 1, x0, x1, x2, M =>
    (gI M x0 0 2).bind fun v4 =>
    if v4 ≤ x2 then
    (some M)
    else
    (f_X0_orderBySize_L12 N (f_X0_orderBySize_L2 N n) N x0 x1 x2 x2 M)
set_option maxHeartbeats 4000000 in
set_option maxRecDepth 100000 in
theorem ok_X0_orderBySize_L2 {X : JX} (C : Cx X cX0_orderBySize RX0 4 none 0 0) (N : Nat) : ∀ (n : Nat) (x0 : Nat) (x1 : Nat) (x2 : Int32) (M : A_M) (M' : A_M), f_X0_orderBySize_L2 N n x0 x1 x2 M = some M' → J X 4 2 [(0, .ref x0), (1, .ref x1), (2, .int x2)] [] M 0 0 none M' := by
  intro n
  induction n with
  | zero =>
    intro x0 x1 x2 M M' h
    cases h
  | succ n ih =>
    intro x0 x1 x2 M M' h
    rw [f_X0_orderBySize_L2] at h
    refine J_iload_n (pc' := 3) C 2 dX0_orderBySize_2 rfl rfl rfl ?_
    refine J_aload_n (pc' := 4) C 0 dX0_orderBySize_3 rfl rfl rfl ?_
    obtain ⟨v4, e4, h⟩ := bd h
    refine jg_178 (pc' := 7) C dX0_orderBySize_4 rfl (gI_some e4) ?_
    refine J_icmp_ge (tgt := 59) (pc' := 10) C dX0_orderBySize_7 (by decide) rfl (fun c7 => ?_) (fun c7 => ?_)
    · rw [if_pos c7] at h
      obtain rfl := rt1 h
      exact J_vret C dX0_orderBySize_59 (Nat.zero_le _) (Nat.zero_le _)
    · rw [if_neg c7] at h
      refine J_iload_n (pc' := 11) C 2 dX0_orderBySize_10 rfl rfl rfl ?_
      refine J_istore_n (pc' := 12) (lv' := [(3, .int x2), (0, .ref x0), (1, .ref x1), (2, .int x2)]) C dX0_orderBySize_11 rfl rfl (by decide) rfl ?_
      refine J_sub (lv' := [(0, .ref x0), (1, .ref x1), (2, .int x2), (3, .int x2)]) [1, 2, 3, 0] rfl ?_
      exact ok_X0_orderBySize_L12 C N ih N _ _ _ _ _ _ h
def f_X0_orderBySize (N : Nat) (a0 : Nat) (a1 : Nat) (M : A_M) : Option A_M :=
  f_X0_orderBySize_L2 N N a0 a1 (0 : Int32) M
set_option maxHeartbeats 4000000 in
set_option maxRecDepth 100000 in
theorem ok_X0_orderBySize (N : Nat) {a0 : Nat} {a1 : Nat} {M : A_M} {M' : A_M} (h : f_X0_orderBySize N a0 a1 M = some M') : Runs yX0_orderBySize cX0_orderBySize 4 none 0 0 0 0 [.ref a0, .ref a1] M none M' := by
  refine Runs.intro (by decide) (Nat.le_of_ble_eq_true rfl) (fun X C hnm hMC hMS => ?_)
  have C : Cx X cX0_orderBySize RX0 4 none 0 0 := C
  show J X 4 0 [(0, .ref a0), (1, .ref a1)] [] M 0 0 none M'
  unfold f_X0_orderBySize at h
  refine J_iconst (pc' := 1) (v := (0 : Int32)) C dX0_orderBySize_0 rfl (by decide) ?_
  refine J_istore_n (pc' := 2) (lv' := [(2, .int (0 : Int32)), (0, .ref a0), (1, .ref a1)]) C dX0_orderBySize_1 rfl rfl (by decide) rfl ?_
  refine J_sub (lv' := [(0, .ref a0), (1, .ref a1), (2, .int (0 : Int32))]) [1, 2, 0] rfl ?_
  exact ok_X0_orderBySize_L2 C N N _ _ _ _ _ h
def f_X1_prepare_K61 (N : Nat) (k27 : Nat → Nat → Int32 → A_M → Option A_M) (x0 : Nat) (x1 : Nat) (x5 : Int32) (s0 : Int32) (s1 : Int32) (s2 : Nat) (M : A_M) : Option A_M :=
  (stI M s2 s1 s0).bind fun M61 =>
  (gR M61 x0 1 5).bind fun v63 =>
  (gR M61 x0 1 4).bind fun v67 =>
  (ldI M61 v67 x5).bind fun v72 =>
  (ldI M61 v63 v72).bind fun v74 =>
  (stI M61 v63 v72 (v74 + (1 : Int32))).bind fun M77 =>
  k27 x0 x1 (x5 + 1) M77
set_option maxHeartbeats 4000000 in
set_option maxRecDepth 100000 in
theorem ok_X1_prepare_K61 {X : JX} (C : Cx X cX1_prepare RX1 6 none 1 23) (N : Nat) {k27 : Nat → Nat → Int32 → A_M → Option A_M} (hk27 : ∀ (x0 : Nat) (x1 : Nat) (x5 : Int32) (M : A_M) (M' : A_M), k27 x0 x1 x5 M = some M' → J X 6 27 [(0, .ref x0), (1, .ref x1), (5, .int x5)] [] M 0 0 none M') : ∀ (x0 : Nat) (x1 : Nat) (x5 : Int32) (s0 : Int32) (s1 : Int32) (s2 : Nat) (M : A_M) (M' : A_M), f_X1_prepare_K61 N k27 x0 x1 x5 s0 s1 s2 M = some M' → J X 6 61 [(0, .ref x0), (1, .ref x1), (5, .int x5)] [.int s0, .int s1, .ref s2] M 0 0 none M' := by
  intro x0 x1 x5 s0 s1 s2 M M' h
  unfold f_X1_prepare_K61 at h
  obtain ⟨M61, e61, h⟩ := bd h
  refine J_iast (pc' := 62) C dX1_prepare_61 rfl e61 ?_
  refine J_aload_n (pc' := 63) C 0 dX1_prepare_62 rfl rfl rfl ?_
  obtain ⟨v63, e63, h⟩ := bd h
  refine jg_332 (pc' := 66) C dX1_prepare_63 rfl (gR_some e63) ?_
  refine J_aload_n (pc' := 67) C 0 dX1_prepare_66 rfl rfl rfl ?_
  obtain ⟨v67, e67, h⟩ := bd h
  refine jg_331 (pc' := 70) C dX1_prepare_67 rfl (gR_some e67) ?_
  refine J_iload (pc' := 72) C 2 dX1_prepare_70 rfl rfl ?_
  obtain ⟨v72, e72, h⟩ := bd h
  refine J_iald (pc' := 73) C dX1_prepare_72 rfl e72 ?_
  refine J_dup2 (pc' := 74) C dX1_prepare_73 rfl rfl rfl ?_
  obtain ⟨v74, e74, h⟩ := bd h
  refine J_iald (pc' := 75) C dX1_prepare_74 rfl e74 ?_
  refine J_iconst (pc' := 76) (v := (1 : Int32)) C dX1_prepare_75 rfl (by decide) ?_
  refine J_iadd (pc' := 77) C dX1_prepare_76 rfl ?_
  obtain ⟨M77, e77, h⟩ := bd h
  refine J_iast (pc' := 78) C dX1_prepare_77 rfl e77 ?_
  refine J_iinc (pc' := 81) (lv' := [(5, .int (x5 + 1)), (0, .ref x0), (1, .ref x1)]) C 2 dX1_prepare_78 rfl rfl rfl (by decide) rfl ?_
  refine J_goto (tgt := 27) C dX1_prepare_81 (by decide) ?_
  refine J_sub (lv' := [(0, .ref x0), (1, .ref x1), (5, .int (x5 + 1))]) [1, 2, 0] rfl ?_
  exact hk27 _ _ _ _ _ h
def f_X1_prepare_L27 (N : Nat) : Nat → Nat → Nat → Int32 → A_M → Option A_M
  | 0, _, _, _, _ => none
  | n + 1, x0, x1, x5, M =>
    (gI M x0 1 8).bind fun v30 =>
    if v30 ≤ x5 then
    (some M)
    else
    ((gR M x0 1 4).bind fun v37 =>
    (gI M x0 1 10).bind fun v43 =>
    if v43 = 0 then
    (f_X1_prepare_K61 N (f_X1_prepare_L27 N n) x0 x1 x5 (1 : Int32) x5 v37 M)
    else
    ((ldI M x1 x5).bind fun v52 =>
    f_X1_prepare_K61 N (f_X1_prepare_L27 N n) x0 x1 x5 (mnI v52 (3 : Int32)) x5 v37 M))
set_option maxHeartbeats 4000000 in
set_option maxRecDepth 100000 in
theorem ok_X1_prepare_L27 {X : JX} (C : Cx X cX1_prepare RX1 6 none 1 23) (N : Nat) : ∀ (n : Nat) (x0 : Nat) (x1 : Nat) (x5 : Int32) (M : A_M) (M' : A_M), f_X1_prepare_L27 N n x0 x1 x5 M = some M' → J X 6 27 [(0, .ref x0), (1, .ref x1), (5, .int x5)] [] M 0 0 none M' := by
  intro n
  induction n with
  | zero =>
    intro x0 x1 x5 M M' h
    cases h
  | succ n ih =>
    intro x0 x1 x5 M M' h
    rw [f_X1_prepare_L27] at h
    refine J_iload (pc' := 29) C 2 dX1_prepare_27 rfl rfl ?_
    refine J_aload_n (pc' := 30) C 0 dX1_prepare_29 rfl rfl rfl ?_
    obtain ⟨v30, e30, h⟩ := bd h
    refine jg_335 (pc' := 33) C dX1_prepare_30 rfl (gI_some e30) ?_
    refine J_icmp_ge (tgt := 84) (pc' := 36) C dX1_prepare_33 (by decide) rfl (fun c33 => ?_) (fun c33 => ?_)
    · rw [if_pos c33] at h
      obtain rfl := rt1 h
      exact J_vret C dX1_prepare_84 (Nat.zero_le _) (Nat.zero_le _)
    · rw [if_neg c33] at h
      refine J_aload_n (pc' := 37) C 0 dX1_prepare_36 rfl rfl rfl ?_
      obtain ⟨v37, e37, h⟩ := bd h
      refine jg_331 (pc' := 40) C dX1_prepare_37 rfl (gR_some e37) ?_
      refine J_iload (pc' := 42) C 2 dX1_prepare_40 rfl rfl ?_
      refine J_aload_n (pc' := 43) C 0 dX1_prepare_42 rfl rfl rfl ?_
      obtain ⟨v43, e43, h⟩ := bd h
      refine jg_337 (pc' := 46) C dX1_prepare_43 rfl (gI_some e43) ?_
      refine J_if_eq (tgt := 60) (pc' := 49) C dX1_prepare_46 (by decide) rfl (fun c46 => ?_) (fun c46 => ?_)
      · rw [if_pos c46] at h
        refine J_iconst (pc' := 61) (v := (1 : Int32)) C dX1_prepare_60 rfl (by decide) ?_
        refine J_sub (lv' := [(0, .ref x0), (1, .ref x1), (5, .int x5)]) [0, 1, 2] rfl ?_
        exact ok_X1_prepare_K61 C N ih _ _ _ _ _ _ _ _ h
      · rw [if_neg c46] at h
        refine J_aload_n (pc' := 50) C 1 dX1_prepare_49 rfl rfl rfl ?_
        refine J_iload (pc' := 52) C 2 dX1_prepare_50 rfl rfl ?_
        obtain ⟨v52, e52, h⟩ := bd h
        refine J_iald (pc' := 53) C dX1_prepare_52 rfl e52 ?_
        refine J_iconst (pc' := 54) (v := (3 : Int32)) C dX1_prepare_53 rfl (by decide) ?_
        refine J_mmin (pc' := 57) C wq_366 dX1_prepare_54 rfl (Nat.le_of_ble_eq_true rfl) (by decide) (by decide) (Nat.zero_le _) (Nat.zero_le _) ?_
        refine J_goto (tgt := 61) C dX1_prepare_57 (by decide) ?_
        refine J_sub (lv' := [(0, .ref x0), (1, .ref x1), (5, .int x5)]) [0, 1, 2] rfl ?_
        exact ok_X1_prepare_K61 C N ih _ _ _ _ _ _ _ _ h
def f_X1_prepare (N : Nat) (a0 : Nat) (a1 : Nat) (a2 : Int32) (a3 : Int32) (a4 : Int32) (M : A_M) : Option A_M :=
  (pV M a0 1 8 (.int a2)).bind fun M2 =>
  (zb a3).bind fun _ =>
  (pV M2 a0 1 10 (.int a3)).bind fun M7 =>
  (pV M7 a0 1 9 (.int a4)).bind fun M13 =>
  (gR M13 a0 1 5).bind fun v17 =>
  (f_J7_fill_53178 N v17 (0 : Int32) M13).bind fun M21 =>
  f_X1_prepare_L27 N N a0 a1 (0 : Int32) M21
set_option maxHeartbeats 4000000 in
set_option maxRecDepth 100000 in
theorem ok_X1_prepare (N : Nat) {a0 : Nat} {a1 : Nat} {a2 : Int32} {a3 : Int32} {a4 : Int32} {M : A_M} {M' : A_M} (h : f_X1_prepare N a0 a1 a2 a3 a4 M = some M') : Runs yX1_prepare cX1_prepare 6 none 1 23 0 0 [.ref a0, .ref a1, .int a2, .int a3, .int a4] M none M' := by
  refine Runs.intro (by decide) (Nat.le_of_ble_eq_true rfl) (fun X C hnm hMC hMS => ?_)
  have C : Cx X cX1_prepare RX1 6 none 1 23 := C
  show J X 6 0 [(0, .ref a0), (1, .ref a1), (2, .int a2), (3, .int a3), (4, .int a4)] [] M 0 0 none M'
  unfold f_X1_prepare at h
  refine J_aload_n (pc' := 1) C 0 dX1_prepare_0 rfl rfl rfl ?_
  refine J_iload_n (pc' := 2) C 2 dX1_prepare_1 rfl rfl rfl ?_
  obtain ⟨M2, e2, h⟩ := bd h
  refine jp_335 (pc' := 5) C (fun _ => ⟨rfl, rfl⟩) dX1_prepare_2 rfl e2 ?_
  refine J_aload_n (pc' := 6) C 0 dX1_prepare_5 rfl rfl rfl ?_
  refine J_iload_n (pc' := 7) C 3 dX1_prepare_6 rfl rfl rfl ?_
  obtain ⟨_, z7, h⟩ := bd h
  obtain ⟨M7, e7, h⟩ := bd h
  refine jp_337 (pc' := 10) C (zb_ok (zb_some z7)) dX1_prepare_7 rfl e7 ?_
  refine J_aload_n (pc' := 11) C 0 dX1_prepare_10 rfl rfl rfl ?_
  refine J_iload (pc' := 13) C 4 dX1_prepare_11 rfl rfl ?_
  obtain ⟨M13, e13, h⟩ := bd h
  refine jp_336 (pc' := 16) C (fun _ => ⟨rfl, rfl⟩) dX1_prepare_13 rfl e13 ?_
  refine J_aload_n (pc' := 17) C 0 dX1_prepare_16 rfl rfl rfl ?_
  obtain ⟨v17, e17, h⟩ := bd h
  refine jg_332 (pc' := 20) C dX1_prepare_17 rfl (gR_some e17) ?_
  refine J_iconst (pc' := 21) (v := (0 : Int32)) C dX1_prepare_20 rfl (by decide) ?_
  obtain ⟨M21, e21, h⟩ := bd h
  refine J_cS (pc' := 24) (st := []) (st2 := []) (cs2 := 0) (sl2 := 0) C (ok_J7_fill_53178 N e21) mw_J7_fill_53178 wq_365 rfl dX1_prepare_21 rfl rfl (Nat.le_of_ble_eq_true rfl) (by decide) (by decide) rfl rfl rfl (Nat.zero_le _) (Nat.zero_le _) ?_
  refine J_iconst (pc' := 25) (v := (0 : Int32)) C dX1_prepare_24 rfl (by decide) ?_
  refine J_istore (pc' := 27) (lv' := [(5, .int (0 : Int32)), (0, .ref a0), (1, .ref a1), (2, .int a2), (3, .int a3), (4, .int a4)]) C dX1_prepare_25 rfl (by decide) rfl ?_
  refine J_sub (lv' := [(0, .ref a0), (1, .ref a1), (5, .int (0 : Int32))]) [1, 2, 0] rfl ?_
  exact ok_X1_prepare_L27 C N N _ _ _ _ _ h
def f_X6_rankThings_K45 (N : Nat) (k2 : Nat → Nat → Int32 → Int32 → A_M → Option A_M) (x0 : Nat) (x1 : Nat) (x2 : Int32) (x3 : Int32) (x4 : Int32) (M : A_M) : Option A_M :=
  (stI M x0 x4 x3).bind fun M49 =>
  k2 x0 x1 x2 (x3 + 1) M49
set_option maxHeartbeats 4000000 in
set_option maxRecDepth 100000 in
theorem ok_X6_rankThings_K45 {X : JX} (C : Cx X cX6_rankThings RX6 5 none 0 0) (N : Nat) {k2 : Nat → Nat → Int32 → Int32 → A_M → Option A_M} (hk2 : ∀ (x0 : Nat) (x1 : Nat) (x2 : Int32) (x3 : Int32) (M : A_M) (M' : A_M), k2 x0 x1 x2 x3 M = some M' → J X 5 2 [(0, .ref x0), (1, .ref x1), (2, .int x2), (3, .int x3)] [] M 0 0 none M') : ∀ (x0 : Nat) (x1 : Nat) (x2 : Int32) (x3 : Int32) (x4 : Int32) (M : A_M) (M' : A_M), f_X6_rankThings_K45 N k2 x0 x1 x2 x3 x4 M = some M' → J X 5 45 [(0, .ref x0), (1, .ref x1), (2, .int x2), (3, .int x3), (4, .int x4)] [] M 0 0 none M' := by
  intro x0 x1 x2 x3 x4 M M' h
  unfold f_X6_rankThings_K45 at h
  refine J_aload_n (pc' := 46) C 0 dX6_rankThings_45 rfl rfl rfl ?_
  refine J_iload (pc' := 48) C 4 dX6_rankThings_46 rfl rfl ?_
  refine J_iload_n (pc' := 49) C 3 dX6_rankThings_48 rfl rfl rfl ?_
  obtain ⟨M49, e49, h⟩ := bd h
  refine J_iast (pc' := 50) C dX6_rankThings_49 rfl e49 ?_
  refine J_iinc (pc' := 53) (lv' := [(3, .int (x3 + 1)), (0, .ref x0), (1, .ref x1), (2, .int x2), (4, .int x4)]) C 3 dX6_rankThings_50 rfl rfl rfl (by decide) rfl ?_
  refine J_goto (tgt := 2) C dX6_rankThings_53 (by decide) ?_
  refine J_sub (lv' := [(0, .ref x0), (1, .ref x1), (2, .int x2), (3, .int (x3 + 1))]) [1, 2, 3, 0] rfl ?_
  exact hk2 _ _ _ _ _ _ h
def f_X6_rankThings_L10 (N : Nat) (k2 : Nat → Nat → Int32 → Int32 → A_M → Option A_M) : Nat → Nat → Nat → Int32 → Int32 → Int32 → A_M → Option A_M
  | 0, _, _, _, _, _, _ => none
  | n + 1, x0, x1, x2, x3, x4, M =>
    if x4 ≤ 0 then
    (f_X6_rankThings_K45 N k2 x0 x1 x2 x3 x4 M)
    else
    ((ldI M x0 (x4 - (1 : Int32))).bind fun v21 =>
    (ldI M x1 v21).bind fun v22 =>
    (ldI M x1 x3).bind fun v25 =>
    if v25 ≤ v22 then
    (f_X6_rankThings_K45 N k2 x0 x1 x2 x3 x4 M)
    else
    ((ldI M x0 (x4 - (1 : Int32))).bind fun v37 =>
    (stI M x0 x4 v37).bind fun M38 =>
    f_X6_rankThings_L10 N k2 n x0 x1 x2 x3 (x4 + (-1)) M38))
set_option maxHeartbeats 4000000 in
set_option maxRecDepth 100000 in
theorem ok_X6_rankThings_L10 {X : JX} (C : Cx X cX6_rankThings RX6 5 none 0 0) (N : Nat) {k2 : Nat → Nat → Int32 → Int32 → A_M → Option A_M} (hk2 : ∀ (x0 : Nat) (x1 : Nat) (x2 : Int32) (x3 : Int32) (M : A_M) (M' : A_M), k2 x0 x1 x2 x3 M = some M' → J X 5 2 [(0, .ref x0), (1, .ref x1), (2, .int x2), (3, .int x3)] [] M 0 0 none M') : ∀ (n : Nat) (x0 : Nat) (x1 : Nat) (x2 : Int32) (x3 : Int32) (x4 : Int32) (M : A_M) (M' : A_M), f_X6_rankThings_L10 N k2 n x0 x1 x2 x3 x4 M = some M' → J X 5 10 [(0, .ref x0), (1, .ref x1), (2, .int x2), (3, .int x3), (4, .int x4)] [] M 0 0 none M' := by
  intro n
  induction n with
  | zero =>
    intro x0 x1 x2 x3 x4 M M' h
    cases h
  | succ n ih =>
    intro x0 x1 x2 x3 x4 M M' h
    rw [f_X6_rankThings_L10] at h
    refine J_iload (pc' := 12) C 4 dX6_rankThings_10 rfl rfl ?_
    refine J_if_le (tgt := 45) (pc' := 15) C dX6_rankThings_12 (by decide) rfl (fun c12 => ?_) (fun c12 => ?_)
    · rw [if_pos c12] at h
      refine J_sub (lv' := [(0, .ref x0), (1, .ref x1), (2, .int x2), (3, .int x3), (4, .int x4)]) [0, 1, 2, 3, 4] rfl ?_
      exact ok_X6_rankThings_K45 C N hk2 _ _ _ _ _ _ _ h
    · rw [if_neg c12] at h
      refine J_aload_n (pc' := 16) C 1 dX6_rankThings_15 rfl rfl rfl ?_
      refine J_aload_n (pc' := 17) C 0 dX6_rankThings_16 rfl rfl rfl ?_
      refine J_iload (pc' := 19) C 4 dX6_rankThings_17 rfl rfl ?_
      refine J_iconst (pc' := 20) (v := (1 : Int32)) C dX6_rankThings_19 rfl (by decide) ?_
      refine J_isub (pc' := 21) C dX6_rankThings_20 rfl ?_
      obtain ⟨v21, e21, h⟩ := bd h
      refine J_iald (pc' := 22) C dX6_rankThings_21 rfl e21 ?_
      obtain ⟨v22, e22, h⟩ := bd h
      refine J_iald (pc' := 23) C dX6_rankThings_22 rfl e22 ?_
      refine J_aload_n (pc' := 24) C 1 dX6_rankThings_23 rfl rfl rfl ?_
      refine J_iload_n (pc' := 25) C 3 dX6_rankThings_24 rfl rfl rfl ?_
      obtain ⟨v25, e25, h⟩ := bd h
      refine J_iald (pc' := 26) C dX6_rankThings_25 rfl e25 ?_
      refine J_icmp_ge (tgt := 45) (pc' := 29) C dX6_rankThings_26 (by decide) rfl (fun c26 => ?_) (fun c26 => ?_)
      · rw [if_pos c26] at h
        refine J_sub (lv' := [(0, .ref x0), (1, .ref x1), (2, .int x2), (3, .int x3), (4, .int x4)]) [0, 1, 2, 3, 4] rfl ?_
        exact ok_X6_rankThings_K45 C N hk2 _ _ _ _ _ _ _ h
      · rw [if_neg c26] at h
        refine J_aload_n (pc' := 30) C 0 dX6_rankThings_29 rfl rfl rfl ?_
        refine J_iload (pc' := 32) C 4 dX6_rankThings_30 rfl rfl ?_
        refine J_aload_n (pc' := 33) C 0 dX6_rankThings_32 rfl rfl rfl ?_
        refine J_iload (pc' := 35) C 4 dX6_rankThings_33 rfl rfl ?_
        refine J_iconst (pc' := 36) (v := (1 : Int32)) C dX6_rankThings_35 rfl (by decide) ?_
        refine J_isub (pc' := 37) C dX6_rankThings_36 rfl ?_
        obtain ⟨v37, e37, h⟩ := bd h
        refine J_iald (pc' := 38) C dX6_rankThings_37 rfl e37 ?_
        obtain ⟨M38, e38, h⟩ := bd h
        refine J_iast (pc' := 39) C dX6_rankThings_38 rfl e38 ?_
        refine J_iinc (pc' := 42) (lv' := [(4, .int (x4 + (-1))), (0, .ref x0), (1, .ref x1), (2, .int x2), (3, .int x3)]) C 4 dX6_rankThings_39 rfl rfl rfl (by decide) rfl ?_
        refine J_goto (tgt := 10) C dX6_rankThings_42 (by decide) ?_
        refine J_sub (lv' := [(0, .ref x0), (1, .ref x1), (2, .int x2), (3, .int x3), (4, .int (x4 + (-1)))]) [1, 2, 3, 4, 0] rfl ?_
        exact ih _ _ _ _ _ _ _ h
def f_X6_rankThings_L2 (N : Nat) : Nat → Nat → Nat → Int32 → Int32 → A_M → Option A_M
  | 0, _, _, _, _, _ => none
  | n + 1, x0, x1, x2, x3, M =>
    if x2 ≤ x3 then
    (some M)
    else
    (f_X6_rankThings_L10 N (f_X6_rankThings_L2 N n) N x0 x1 x2 x3 x3 M)
set_option maxHeartbeats 4000000 in
set_option maxRecDepth 100000 in
theorem ok_X6_rankThings_L2 {X : JX} (C : Cx X cX6_rankThings RX6 5 none 0 0) (N : Nat) : ∀ (n : Nat) (x0 : Nat) (x1 : Nat) (x2 : Int32) (x3 : Int32) (M : A_M) (M' : A_M), f_X6_rankThings_L2 N n x0 x1 x2 x3 M = some M' → J X 5 2 [(0, .ref x0), (1, .ref x1), (2, .int x2), (3, .int x3)] [] M 0 0 none M' := by
  intro n
  induction n with
  | zero =>
    intro x0 x1 x2 x3 M M' h
    cases h
  | succ n ih =>
    intro x0 x1 x2 x3 M M' h
    rw [f_X6_rankThings_L2] at h
    refine J_iload_n (pc' := 3) C 3 dX6_rankThings_2 rfl rfl rfl ?_
    refine J_iload_n (pc' := 4) C 2 dX6_rankThings_3 rfl rfl rfl ?_
    refine J_icmp_ge (tgt := 56) (pc' := 7) C dX6_rankThings_4 (by decide) rfl (fun c4 => ?_) (fun c4 => ?_)
    · rw [if_pos c4] at h
      obtain rfl := rt1 h
      exact J_vret C dX6_rankThings_56 (Nat.zero_le _) (Nat.zero_le _)
    · rw [if_neg c4] at h
      refine J_iload_n (pc' := 8) C 3 dX6_rankThings_7 rfl rfl rfl ?_
      refine J_istore (pc' := 10) (lv' := [(4, .int x3), (0, .ref x0), (1, .ref x1), (2, .int x2), (3, .int x3)]) C dX6_rankThings_8 rfl (by decide) rfl ?_
      refine J_sub (lv' := [(0, .ref x0), (1, .ref x1), (2, .int x2), (3, .int x3), (4, .int x3)]) [1, 2, 3, 4, 0] rfl ?_
      exact ok_X6_rankThings_L10 C N ih N _ _ _ _ _ _ _ h
def f_X6_rankThings (N : Nat) (a0 : Nat) (a1 : Nat) (a2 : Int32) (M : A_M) : Option A_M :=
  f_X6_rankThings_L2 N N a0 a1 a2 (0 : Int32) M
set_option maxHeartbeats 4000000 in
set_option maxRecDepth 100000 in
theorem ok_X6_rankThings (N : Nat) {a0 : Nat} {a1 : Nat} {a2 : Int32} {M : A_M} {M' : A_M} (h : f_X6_rankThings N a0 a1 a2 M = some M') : Runs yX6_rankThings cX6_rankThings 5 none 0 0 0 0 [.ref a0, .ref a1, .int a2] M none M' := by
  refine Runs.intro (by decide) (Nat.le_of_ble_eq_true rfl) (fun X C hnm hMC hMS => ?_)
  have C : Cx X cX6_rankThings RX6 5 none 0 0 := C
  show J X 5 0 [(0, .ref a0), (1, .ref a1), (2, .int a2)] [] M 0 0 none M'
  unfold f_X6_rankThings at h
  refine J_iconst (pc' := 1) (v := (0 : Int32)) C dX6_rankThings_0 rfl (by decide) ?_
  refine J_istore_n (pc' := 2) (lv' := [(3, .int (0 : Int32)), (0, .ref a0), (1, .ref a1), (2, .int a2)]) C dX6_rankThings_1 rfl rfl (by decide) rfl ?_
  refine J_sub (lv' := [(0, .ref a0), (1, .ref a1), (2, .int a2), (3, .int (0 : Int32))]) [1, 2, 3, 0] rfl ?_
  exact ok_X6_rankThings_L2 C N N _ _ _ _ _ _ h
def f_X1_sumLastCounts_L9 (N : Nat) : Nat → Nat → Nat → Int32 → Int32 → A_M → Option A_M
  | 0, _, _, _, _, _ => none
  | n + 1, x0, x1, x2, x3, M =>
    if x2 < x3 then
    (some M)
    else
    ((gR M x0 1 2).bind fun v15 =>
    (gR M x0 1 2).bind fun v20 =>
    (ldJ M v20 (x3 - (1 : Int32))).bind fun v26 =>
    (gR M x0 1 3).bind fun v29 =>
    (ldI M v29 (x2 - x3)).bind fun v35 =>
    (ldI M x1 v35).bind fun v36 =>
    (stJ M v15 x3 (v26 + (v36.toInt64))).bind fun M39 =>
    f_X1_sumLastCounts_L9 N n x0 x1 x2 (x3 + 1) M39)
set_option maxHeartbeats 4000000 in
set_option maxRecDepth 100000 in
theorem ok_X1_sumLastCounts_L9 {X : JX} (C : Cx X cX1_sumLastCounts RX1 4 none 0 0) (N : Nat) : ∀ (n : Nat) (x0 : Nat) (x1 : Nat) (x2 : Int32) (x3 : Int32) (M : A_M) (M' : A_M), f_X1_sumLastCounts_L9 N n x0 x1 x2 x3 M = some M' → J X 4 9 [(0, .ref x0), (1, .ref x1), (2, .int x2), (3, .int x3)] [] M 0 0 none M' := by
  intro n
  induction n with
  | zero =>
    intro x0 x1 x2 x3 M M' h
    cases h
  | succ n ih =>
    intro x0 x1 x2 x3 M M' h
    rw [f_X1_sumLastCounts_L9] at h
    refine J_iload_n (pc' := 10) C 3 dX1_sumLastCounts_9 rfl rfl rfl ?_
    refine J_iload_n (pc' := 11) C 2 dX1_sumLastCounts_10 rfl rfl rfl ?_
    refine J_icmp_gt (tgt := 46) (pc' := 14) C dX1_sumLastCounts_11 (by decide) rfl (fun c11 => ?_) (fun c11 => ?_)
    · rw [if_pos c11] at h
      obtain rfl := rt1 h
      exact J_vret C dX1_sumLastCounts_46 (Nat.zero_le _) (Nat.zero_le _)
    · rw [if_neg c11] at h
      refine J_aload_n (pc' := 15) C 0 dX1_sumLastCounts_14 rfl rfl rfl ?_
      obtain ⟨v15, e15, h⟩ := bd h
      refine jg_329 (pc' := 18) C dX1_sumLastCounts_15 rfl (gR_some e15) ?_
      refine J_iload_n (pc' := 19) C 3 dX1_sumLastCounts_18 rfl rfl rfl ?_
      refine J_aload_n (pc' := 20) C 0 dX1_sumLastCounts_19 rfl rfl rfl ?_
      obtain ⟨v20, e20, h⟩ := bd h
      refine jg_329 (pc' := 23) C dX1_sumLastCounts_20 rfl (gR_some e20) ?_
      refine J_iload_n (pc' := 24) C 3 dX1_sumLastCounts_23 rfl rfl rfl ?_
      refine J_iconst (pc' := 25) (v := (1 : Int32)) C dX1_sumLastCounts_24 rfl (by decide) ?_
      refine J_isub (pc' := 26) C dX1_sumLastCounts_25 rfl ?_
      obtain ⟨v26, e26, h⟩ := bd h
      refine J_lald (pc' := 27) C dX1_sumLastCounts_26 rfl e26 ?_
      refine J_aload_n (pc' := 28) C 1 dX1_sumLastCounts_27 rfl rfl rfl ?_
      refine J_aload_n (pc' := 29) C 0 dX1_sumLastCounts_28 rfl rfl rfl ?_
      obtain ⟨v29, e29, h⟩ := bd h
      refine jg_330 (pc' := 32) C dX1_sumLastCounts_29 rfl (gR_some e29) ?_
      refine J_iload_n (pc' := 33) C 2 dX1_sumLastCounts_32 rfl rfl rfl ?_
      refine J_iload_n (pc' := 34) C 3 dX1_sumLastCounts_33 rfl rfl rfl ?_
      refine J_isub (pc' := 35) C dX1_sumLastCounts_34 rfl ?_
      obtain ⟨v35, e35, h⟩ := bd h
      refine J_iald (pc' := 36) C dX1_sumLastCounts_35 rfl e35 ?_
      obtain ⟨v36, e36, h⟩ := bd h
      refine J_iald (pc' := 37) C dX1_sumLastCounts_36 rfl e36 ?_
      refine J_i2l (pc' := 38) C dX1_sumLastCounts_37 rfl ?_
      refine J_ladd (pc' := 39) C dX1_sumLastCounts_38 rfl ?_
      obtain ⟨M39, e39, h⟩ := bd h
      refine J_last (pc' := 40) C dX1_sumLastCounts_39 rfl e39 ?_
      refine J_iinc (pc' := 43) (lv' := [(3, .int (x3 + 1)), (0, .ref x0), (1, .ref x1), (2, .int x2)]) C 3 dX1_sumLastCounts_40 rfl rfl rfl (by decide) rfl ?_
      refine J_goto (tgt := 9) C dX1_sumLastCounts_43 (by decide) ?_
      refine J_sub (lv' := [(0, .ref x0), (1, .ref x1), (2, .int x2), (3, .int (x3 + 1))]) [1, 2, 3, 0] rfl ?_
      exact ih _ _ _ _ _ _ h
def f_X1_sumLastCounts (N : Nat) (a0 : Nat) (a1 : Nat) (a2 : Int32) (M : A_M) : Option A_M :=
  (gR M a0 1 2).bind fun v1 =>
  (stJ M v1 (0 : Int32) (0 : Int64)).bind fun M6 =>
  f_X1_sumLastCounts_L9 N N a0 a1 a2 (1 : Int32) M6
set_option maxHeartbeats 4000000 in
set_option maxRecDepth 100000 in
theorem ok_X1_sumLastCounts (N : Nat) {a0 : Nat} {a1 : Nat} {a2 : Int32} {M : A_M} {M' : A_M} (h : f_X1_sumLastCounts N a0 a1 a2 M = some M') : Runs yX1_sumLastCounts cX1_sumLastCounts 4 none 0 0 0 0 [.ref a0, .ref a1, .int a2] M none M' := by
  refine Runs.intro (by decide) (Nat.le_of_ble_eq_true rfl) (fun X C hnm hMC hMS => ?_)
  have C : Cx X cX1_sumLastCounts RX1 4 none 0 0 := C
  show J X 4 0 [(0, .ref a0), (1, .ref a1), (2, .int a2)] [] M 0 0 none M'
  unfold f_X1_sumLastCounts at h
  refine J_aload_n (pc' := 1) C 0 dX1_sumLastCounts_0 rfl rfl rfl ?_
  obtain ⟨v1, e1, h⟩ := bd h
  refine jg_329 (pc' := 4) C dX1_sumLastCounts_1 rfl (gR_some e1) ?_
  refine J_iconst (pc' := 5) (v := (0 : Int32)) C dX1_sumLastCounts_4 rfl (by decide) ?_
  refine J_lconst (pc' := 6) (v := (0 : Int64)) C dX1_sumLastCounts_5 rfl (by decide) ?_
  obtain ⟨M6, e6, h⟩ := bd h
  refine J_last (pc' := 7) C dX1_sumLastCounts_6 rfl e6 ?_
  refine J_iconst (pc' := 8) (v := (1 : Int32)) C dX1_sumLastCounts_7 rfl (by decide) ?_
  refine J_istore_n (pc' := 9) (lv' := [(3, .int (1 : Int32)), (0, .ref a0), (1, .ref a1), (2, .int a2)]) C dX1_sumLastCounts_8 rfl rfl (by decide) rfl ?_
  refine J_sub (lv' := [(0, .ref a0), (1, .ref a1), (2, .int a2), (3, .int (1 : Int32))]) [1, 2, 3, 0] rfl ?_
  exact ok_X1_sumLastCounts_L9 C N N _ _ _ _ _ _ h
def f_X1_memoPlace (N : Nat) (a0 : Nat) (a1 : Int32) (a2 : Int32) (a3 : Int32) (a4 : Int32) (a5 : Int32) (M : A_M) : Option (Int32 × A_M) :=
  (gI M a0 1 10).bind fun v1 =>
  if v1 = 0 then
  ((gI M a0 1 9).bind fun v29 =>
  if v29 ≤ 0 then
  (some ((((0 : Int32) + (a5 * (12 : Int32))) + (a2 >>> ((1 : Int32) &&& 31))), M))
  else
  (some ((((a1 * (300 : Int32)) + (a5 * (12 : Int32))) + (a2 >>> ((1 : Int32) &&& 31))), M)))
  else
  (some ((((((((a5 - (1 : Int32)) * (8 : Int32)) + a2) * (9 : Int32)) + a3) * (9 : Int32)) + a4), M))
set_option maxHeartbeats 4000000 in
set_option maxRecDepth 100000 in
theorem ok_X1_memoPlace (N : Nat) {a0 : Nat} {a1 : Int32} {a2 : Int32} {a3 : Int32} {a4 : Int32} {a5 : Int32} {M : A_M} {r : Int32} {M' : A_M} (h : f_X1_memoPlace N a0 a1 a2 a3 a4 a5 M = some (r, M')) : Runs yX1_memoPlace cX1_memoPlace 6 (some .int) 0 0 0 0 [.ref a0, .int a1, .int a2, .int a3, .int a4, .int a5] M (some (.int r)) M' := by
  refine Runs.intro (by decide) (Nat.le_of_ble_eq_true rfl) (fun X C hnm hMC hMS => ?_)
  have C : Cx X cX1_memoPlace RX1 6 (some .int) 0 0 := C
  show J X 6 0 [(0, .ref a0), (1, .int a1), (2, .int a2), (3, .int a3), (4, .int a4), (5, .int a5)] [] M 0 0 (some (.int r)) M'
  unfold f_X1_memoPlace at h
  refine J_aload_n (pc' := 1) C 0 dX1_memoPlace_0 rfl rfl rfl ?_
  obtain ⟨v1, e1, h⟩ := bd h
  refine jg_337 (pc' := 4) C dX1_memoPlace_1 rfl (gI_some e1) ?_
  refine J_if_eq (tgt := 28) (pc' := 7) C dX1_memoPlace_4 (by decide) rfl (fun c4 => ?_) (fun c4 => ?_)
  · rw [if_pos c4] at h
    refine J_aload_n (pc' := 29) C 0 dX1_memoPlace_28 rfl rfl rfl ?_
    obtain ⟨v29, e29, h⟩ := bd h
    refine jg_336 (pc' := 32) C dX1_memoPlace_29 rfl (gI_some e29) ?_
    refine J_if_le (tgt := 43) (pc' := 35) C dX1_memoPlace_32 (by decide) rfl (fun c32 => ?_) (fun c32 => ?_)
    · rw [if_pos c32] at h
      refine J_iconst (pc' := 44) (v := (0 : Int32)) C dX1_memoPlace_43 rfl (by decide) ?_
      refine J_iload (pc' := 46) C 5 dX1_memoPlace_44 rfl rfl ?_
      refine J_bipush (pc' := 48) (v := (12 : Int32)) C dX1_memoPlace_46 rfl (by decide) ?_
      refine J_imul (pc' := 49) C dX1_memoPlace_48 rfl ?_
      refine J_iadd (pc' := 50) C dX1_memoPlace_49 rfl ?_
      refine J_iload_n (pc' := 51) C 2 dX1_memoPlace_50 rfl rfl rfl ?_
      refine J_iconst (pc' := 52) (v := (1 : Int32)) C dX1_memoPlace_51 rfl (by decide) ?_
      refine J_ishr (pc' := 53) C dX1_memoPlace_52 rfl ?_
      refine J_iadd (pc' := 54) C dX1_memoPlace_53 rfl ?_
      obtain ⟨rfl, rfl⟩ := rt2 h
      exact J_iret C dX1_memoPlace_54 (Nat.zero_le _) (Nat.zero_le _)
    · rw [if_neg c32] at h
      refine J_iload_n (pc' := 36) C 1 dX1_memoPlace_35 rfl rfl rfl ?_
      refine J_sipush (pc' := 39) (v := (300 : Int32)) C dX1_memoPlace_36 rfl (by decide) ?_
      refine J_imul (pc' := 40) C dX1_memoPlace_39 rfl ?_
      refine J_goto (tgt := 44) C dX1_memoPlace_40 (by decide) ?_
      refine J_iload (pc' := 46) C 5 dX1_memoPlace_44 rfl rfl ?_
      refine J_bipush (pc' := 48) (v := (12 : Int32)) C dX1_memoPlace_46 rfl (by decide) ?_
      refine J_imul (pc' := 49) C dX1_memoPlace_48 rfl ?_
      refine J_iadd (pc' := 50) C dX1_memoPlace_49 rfl ?_
      refine J_iload_n (pc' := 51) C 2 dX1_memoPlace_50 rfl rfl rfl ?_
      refine J_iconst (pc' := 52) (v := (1 : Int32)) C dX1_memoPlace_51 rfl (by decide) ?_
      refine J_ishr (pc' := 53) C dX1_memoPlace_52 rfl ?_
      refine J_iadd (pc' := 54) C dX1_memoPlace_53 rfl ?_
      obtain ⟨rfl, rfl⟩ := rt2 h
      exact J_iret C dX1_memoPlace_54 (Nat.zero_le _) (Nat.zero_le _)
  · rw [if_neg c4] at h
    refine J_iload (pc' := 9) C 5 dX1_memoPlace_7 rfl rfl ?_
    refine J_iconst (pc' := 10) (v := (1 : Int32)) C dX1_memoPlace_9 rfl (by decide) ?_
    refine J_isub (pc' := 11) C dX1_memoPlace_10 rfl ?_
    refine J_bipush (pc' := 13) (v := (8 : Int32)) C dX1_memoPlace_11 rfl (by decide) ?_
    refine J_imul (pc' := 14) C dX1_memoPlace_13 rfl ?_
    refine J_iload_n (pc' := 15) C 2 dX1_memoPlace_14 rfl rfl rfl ?_
    refine J_iadd (pc' := 16) C dX1_memoPlace_15 rfl ?_
    refine J_bipush (pc' := 18) (v := (9 : Int32)) C dX1_memoPlace_16 rfl (by decide) ?_
    refine J_imul (pc' := 19) C dX1_memoPlace_18 rfl ?_
    refine J_iload_n (pc' := 20) C 3 dX1_memoPlace_19 rfl rfl rfl ?_
    refine J_iadd (pc' := 21) C dX1_memoPlace_20 rfl ?_
    refine J_bipush (pc' := 23) (v := (9 : Int32)) C dX1_memoPlace_21 rfl (by decide) ?_
    refine J_imul (pc' := 24) C dX1_memoPlace_23 rfl ?_
    refine J_iload (pc' := 26) C 4 dX1_memoPlace_24 rfl rfl ?_
    refine J_iadd (pc' := 27) C dX1_memoPlace_26 rfl ?_
    obtain ⟨rfl, rfl⟩ := rt2 h
    exact J_iret C dX1_memoPlace_27 (Nat.zero_le _) (Nat.zero_le _)
def f_X1_leastWith (N : Nat) (rec : Nat → Int32 → Int32 → Int32 → Int32 → Int32 → A_M → Option (Int64 × A_M)) (a0 : Nat) (a1 : Int32) (a2 : Int32) (a3 : Int32) (a4 : Int32) (a5 : Int32) (a6 : Int32) (M : A_M) : Option (Int64 × A_M) :=
  (gR M a0 1 5).bind fun v21 =>
  (ldI M v21 (1 : Int32)).bind fun v25 =>
  (gR M a0 1 5).bind fun v38 =>
  (ldI M v38 (2 : Int32)).bind fun v42 =>
  (gR M a0 1 5).bind fun v53 =>
  (ldI M v53 (3 : Int32)).bind fun v57 =>
  (chk M a0 1).bind fun _ =>
  bnd2 (rec a0 (a1 + (1 : Int32)) (mnI (a5 - a6) (a3 + (v25 * (a2 - a6)))) (mnI (a5 - a6) (a4 + (v42 * (a2 - a6)))) (mnI (a5 - a6) (v57 * (a2 - a6))) (a5 - a6) M) fun v66 M66 =>
  if (lg_cmp v66 (1152921504606846976 : Int64)) < 0 then
  ((gR M66 a0 1 2).bind fun v87 =>
  (ldJ M66 v87 (a5 - a6)).bind fun v92 =>
  some ((v92 + v66), M66))
  else
  (some ((1152921504606846976 : Int64), M66))
set_option maxHeartbeats 4000000 in
set_option maxRecDepth 100000 in
theorem ok_X1_leastWith (N : Nat) {Fr Lr : Nat} {rec : Nat → Int32 → Int32 → Int32 → Int32 → Int32 → A_M → Option (Int64 × A_M)} (hrec : ∀ (b0 : Nat) (b1 : Int32) (b2 : Int32) (b3 : Int32) (b4 : Int32) (b5 : Int32) (M : A_M) (r : Int64) (M' : A_M), rec b0 b1 b2 b3 b4 b5 M = some (r, M') → Runs yX1_least cX1_least 11 (some .long) Fr Lr 0 0 [.ref b0, .int b1, .int b2, .int b3, .int b4, .int b5] M (some (.long r)) M') {a0 : Nat} {a1 : Int32} {a2 : Int32} {a3 : Int32} {a4 : Int32} {a5 : Int32} {a6 : Int32} {M : A_M} {r : Int64} {M' : A_M} (h : f_X1_leastWith N rec a0 a1 a2 a3 a4 a5 a6 M = some (r, M')) : Runs yX1_leastWith cX1_leastWith 11 (some .long) (Fr + 1) (Lr + 30) 0 0 [.ref a0, .int a1, .int a2, .int a3, .int a4, .int a5, .int a6] M (some (.long r)) M' := by
  refine Runs.intro (by decide) (Nat.le_of_ble_eq_true rfl) (fun X C hnm hMC hMS => ?_)
  have C : Cx X cX1_leastWith RX1 11 (some .long) (Fr + 1) (Lr + 30) := C
  show J X 11 0 [(0, .ref a0), (1, .int a1), (2, .int a2), (3, .int a3), (4, .int a4), (5, .int a5), (6, .int a6)] [] M 0 0 (some (.long r)) M'
  unfold f_X1_leastWith at h
  refine J_iload (pc' := 2) C 5 dX1_leastWith_0 rfl rfl ?_
  refine J_iload (pc' := 4) C 6 dX1_leastWith_2 rfl rfl ?_
  refine J_isub (pc' := 5) C dX1_leastWith_4 rfl ?_
  refine J_istore (pc' := 7) (lv' := [(7, .int (a5 - a6)), (0, .ref a0), (1, .int a1), (2, .int a2), (3, .int a3), (4, .int a4), (5, .int a5), (6, .int a6)]) C dX1_leastWith_5 rfl (by decide) rfl ?_
  refine J_iload_n (pc' := 8) C 3 dX1_leastWith_7 rfl rfl rfl ?_
  refine J_iload (pc' := 10) C 7 dX1_leastWith_8 rfl rfl ?_
  refine J_isub (pc' := 11) C dX1_leastWith_10 rfl ?_
  refine J_istore (pc' := 13) (lv' := [(8, .int (a2 - a6)), (7, .int (a5 - a6)), (0, .ref a0), (1, .int a1), (2, .int a2), (3, .int a3), (4, .int a4), (5, .int a5), (6, .int a6)]) C dX1_leastWith_11 rfl (by decide) rfl ?_
  refine J_aload_n (pc' := 14) C 2 dX1_leastWith_13 rfl rfl rfl ?_
  refine J_iload_n (pc' := 15) C 3 dX1_leastWith_14 rfl rfl rfl ?_
  refine J_iconst (pc' := 16) (v := (1 : Int32)) C dX1_leastWith_15 rfl (by decide) ?_
  refine J_iadd (pc' := 17) C dX1_leastWith_16 rfl ?_
  refine J_iload (pc' := 19) C 1 dX1_leastWith_17 rfl rfl ?_
  refine J_iload_n (pc' := 20) C 5 dX1_leastWith_19 rfl rfl rfl ?_
  refine J_aload_n (pc' := 21) C 2 dX1_leastWith_20 rfl rfl rfl ?_
  obtain ⟨v21, e21, h⟩ := bd h
  refine jg_332 (pc' := 24) C dX1_leastWith_21 rfl (gR_some e21) ?_
  refine J_iconst (pc' := 25) (v := (1 : Int32)) C dX1_leastWith_24 rfl (by decide) ?_
  obtain ⟨v25, e25, h⟩ := bd h
  refine J_iald (pc' := 26) C dX1_leastWith_25 rfl e25 ?_
  refine J_iload (pc' := 28) C 0 dX1_leastWith_26 rfl rfl ?_
  refine J_imul (pc' := 29) C dX1_leastWith_28 rfl ?_
  refine J_iadd (pc' := 30) C dX1_leastWith_29 rfl ?_
  refine J_mmin (pc' := 33) C wq_366 dX1_leastWith_30 rfl (Nat.le_of_ble_eq_true rfl) (by omega) (by omega) (Nat.zero_le _) (Nat.zero_le _) ?_
  refine J_iload (pc' := 35) C 1 dX1_leastWith_33 rfl rfl ?_
  refine J_iload (pc' := 37) C 6 dX1_leastWith_35 rfl rfl ?_
  refine J_aload_n (pc' := 38) C 2 dX1_leastWith_37 rfl rfl rfl ?_
  obtain ⟨v38, e38, h⟩ := bd h
  refine jg_332 (pc' := 41) C dX1_leastWith_38 rfl (gR_some e38) ?_
  refine J_iconst (pc' := 42) (v := (2 : Int32)) C dX1_leastWith_41 rfl (by decide) ?_
  obtain ⟨v42, e42, h⟩ := bd h
  refine J_iald (pc' := 43) C dX1_leastWith_42 rfl e42 ?_
  refine J_iload (pc' := 45) C 0 dX1_leastWith_43 rfl rfl ?_
  refine J_imul (pc' := 46) C dX1_leastWith_45 rfl ?_
  refine J_iadd (pc' := 47) C dX1_leastWith_46 rfl ?_
  refine J_mmin (pc' := 50) C wq_366 dX1_leastWith_47 rfl (Nat.le_of_ble_eq_true rfl) (by omega) (by omega) (Nat.zero_le _) (Nat.zero_le _) ?_
  refine J_iload (pc' := 52) C 1 dX1_leastWith_50 rfl rfl ?_
  refine J_aload_n (pc' := 53) C 2 dX1_leastWith_52 rfl rfl rfl ?_
  obtain ⟨v53, e53, h⟩ := bd h
  refine jg_332 (pc' := 56) C dX1_leastWith_53 rfl (gR_some e53) ?_
  refine J_iconst (pc' := 57) (v := (3 : Int32)) C dX1_leastWith_56 rfl (by decide) ?_
  obtain ⟨v57, e57, h⟩ := bd h
  refine J_iald (pc' := 58) C dX1_leastWith_57 rfl e57 ?_
  refine J_iload (pc' := 60) C 0 dX1_leastWith_58 rfl rfl ?_
  refine J_imul (pc' := 61) C dX1_leastWith_60 rfl ?_
  refine J_mmin (pc' := 64) C wq_366 dX1_leastWith_61 rfl (Nat.le_of_ble_eq_true rfl) (by omega) (by omega) (Nat.zero_le _) (Nat.zero_le _) ?_
  refine J_iload (pc' := 66) C 1 dX1_leastWith_64 rfl rfl ?_
  obtain ⟨_, q66, h⟩ := bd h
  obtain ⟨v66, M66, e66, h⟩ := bd2 h
  refine J_cV (pc' := 69) (st := []) (st2 := [.long v66]) (cs2 := 0) (sl2 := 0) C 1 rfl rfl q66 (hrec a0 (a1 + (1 : Int32)) (mnI (a5 - a6) (a3 + (v25 * (a2 - a6)))) (mnI (a5 - a6) (a4 + (v42 * (a2 - a6)))) (mnI (a5 - a6) (v57 * (a2 - a6))) (a5 - a6) _ _ _ e66) mw_X1_least wq_380 rfl dX1_leastWith_66 rfl rfl (Nat.le_of_ble_eq_true rfl) (by omega) (by omega) rfl rfl rfl (Nat.zero_le _) (Nat.zero_le _) ?_
  refine J_lstore (pc' := 71) (lv' := [(9, .long v66), (8, .int (a2 - a6)), (7, .int (a5 - a6)), (0, .ref a0), (1, .int a1), (2, .int a2), (3, .int a3), (4, .int a4), (5, .int a5), (6, .int a6)]) C dX1_leastWith_69 rfl (by decide) rfl ?_
  refine J_lload (pc' := 73) C 0 dX1_leastWith_71 rfl rfl ?_
  refine J_ldc2 (pc' := 76) C dX1_leastWith_73 rfl wq_384 ?_
  refine J_lcmp (pc' := 77) C dX1_leastWith_76 rfl ?_
  refine J_if_lt (tgt := 86) (pc' := 80) C dX1_leastWith_77 (by decide) rfl (fun c77 => ?_) (fun c77 => ?_)
  · rw [if_pos c77] at h
    refine J_aload_n (pc' := 87) C 3 dX1_leastWith_86 rfl rfl rfl ?_
    obtain ⟨v87, e87, h⟩ := bd h
    refine jg_329 (pc' := 90) C dX1_leastWith_87 rfl (gR_some e87) ?_
    refine J_iload (pc' := 92) C 2 dX1_leastWith_90 rfl rfl ?_
    obtain ⟨v92, e92, h⟩ := bd h
    refine J_lald (pc' := 93) C dX1_leastWith_92 rfl e92 ?_
    refine J_lload (pc' := 95) C 0 dX1_leastWith_93 rfl rfl ?_
    refine J_ladd (pc' := 96) C dX1_leastWith_95 rfl ?_
    obtain ⟨rfl, rfl⟩ := rt2 h
    exact J_lret C dX1_leastWith_96 (Nat.zero_le _) (Nat.zero_le _)
  · rw [if_neg c77] at h
    refine J_ldc2 (pc' := 83) C dX1_leastWith_80 rfl wq_384 ?_
    refine J_goto (tgt := 96) C dX1_leastWith_83 (by decide) ?_
    obtain ⟨rfl, rfl⟩ := rt2 h
    exact J_lret C dX1_leastWith_96 (Nat.zero_le _) (Nat.zero_le _)
