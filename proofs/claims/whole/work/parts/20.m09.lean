def f_X7_costOf_K71 (N : Nat) (x0 : Nat) (x8 : Int64) (s0 : Int32) (M : A_M) : Option (Int64 × A_M) :=
  if s0 < 0 then
  (some ((1152921504606846976 : Int64), M))
  else
  ((gR M x0 7 11).bind fun v79 =>
  (ldJ M v79 s0).bind fun v84 =>
  if (lg_cmp v84 (1152921504606846976 : Int64)) < 0 then
  ((gR M x0 7 11).bind fun v101 =>
  (ldJ M v101 s0).bind fun v106 =>
  some ((x8 + v106), M))
  else
  (some ((1152921504606846976 : Int64), M)))
set_option maxHeartbeats 4000000 in
set_option maxRecDepth 100000 in
theorem ok_X7_costOf_K71 {X : JX} (C : Cx X cX7_costOf RX7 11 (some .long) 2 56) (N : Nat) : ∀ (x0 : Nat) (x8 : Int64) (s0 : Int32) (M : A_M) (r : Int64) (M' : A_M), f_X7_costOf_K71 N x0 x8 s0 M = some (r, M') → J X 11 71 [(0, .ref x0), (8, .long x8)] [.int s0] M 0 0 (some (.long r)) M' := by
  intro x0 x8 s0 M r M' h
  unfold f_X7_costOf_K71 at h
  refine J_istore (pc' := 73) (lv' := [(10, .int s0), (0, .ref x0), (8, .long x8)]) C dX7_costOf_71 rfl (by decide) rfl ?_
  refine J_iload (pc' := 75) C 0 dX7_costOf_73 rfl rfl ?_
  refine J_if_lt (tgt := 92) (pc' := 78) C dX7_costOf_75 (by decide) rfl (fun c75 => ?_) (fun c75 => ?_)
  · rw [if_pos c75] at h
    refine J_ldc2 (pc' := 95) C dX7_costOf_92 rfl wq_1092 ?_
    refine J_goto (tgt := 108) C dX7_costOf_95 (by decide) ?_
    obtain ⟨rfl, rfl⟩ := rt2 h
    exact J_lret C dX7_costOf_108 (Nat.zero_le _) (Nat.zero_le _)
  · rw [if_neg c75] at h
    refine J_aload_n (pc' := 79) C 1 dX7_costOf_78 rfl rfl rfl ?_
    obtain ⟨v79, e79, h⟩ := bd h
    refine jg_890 (pc' := 82) C dX7_costOf_79 rfl (gR_some e79) ?_
    refine J_iload (pc' := 84) C 0 dX7_costOf_82 rfl rfl ?_
    obtain ⟨v84, e84, h⟩ := bd h
    refine J_lald (pc' := 85) C dX7_costOf_84 rfl e84 ?_
    refine J_ldc2 (pc' := 88) C dX7_costOf_85 rfl wq_1092 ?_
    refine J_lcmp (pc' := 89) C dX7_costOf_88 rfl ?_
    refine J_if_lt (tgt := 98) (pc' := 92) C dX7_costOf_89 (by decide) rfl (fun c89 => ?_) (fun c89 => ?_)
    · rw [if_pos c89] at h
      refine J_lload (pc' := 100) C 2 dX7_costOf_98 rfl rfl ?_
      refine J_aload_n (pc' := 101) C 1 dX7_costOf_100 rfl rfl rfl ?_
      obtain ⟨v101, e101, h⟩ := bd h
      refine jg_890 (pc' := 104) C dX7_costOf_101 rfl (gR_some e101) ?_
      refine J_iload (pc' := 106) C 0 dX7_costOf_104 rfl rfl ?_
      obtain ⟨v106, e106, h⟩ := bd h
      refine J_lald (pc' := 107) C dX7_costOf_106 rfl e106 ?_
      refine J_ladd (pc' := 108) C dX7_costOf_107 rfl ?_
      obtain ⟨rfl, rfl⟩ := rt2 h
      exact J_lret C dX7_costOf_108 (Nat.zero_le _) (Nat.zero_le _)
    · rw [if_neg c89] at h
      refine J_ldc2 (pc' := 95) C dX7_costOf_92 rfl wq_1092 ?_
      refine J_goto (tgt := 108) C dX7_costOf_95 (by decide) ?_
      obtain ⟨rfl, rfl⟩ := rt2 h
      exact J_lret C dX7_costOf_108 (Nat.zero_le _) (Nat.zero_le _)
def f_X7_costOf (N : Nat) (a0 : Nat) (a1 : Int32) (a2 : Int32) (a3 : Int32) (a4 : Int32) (a5 : Int32) (a6 : Int32) (a7 : Int32) (M : A_M) : Option (Int64 × A_M) :=
  (gI M a0 7 15).bind fun v3 =>
  (gR M a0 7 13).bind fun v9 =>
  (ldJ M v9 (a5 + a6)).bind fun v17 =>
  (gR M a0 7 13).bind fun v19 =>
  (ldJ M v19 a5).bind fun v24 =>
  (gI M a0 7 3).bind fun v35 =>
  if (a5 + a6) = v35 then
  (some ((((a1.toInt64) * (v3.toInt64)) * (v17 - v24)), M))
  else
  ((gI M a0 7 16).bind fun v46 =>
  if v46 ≤ a1 then
  (f_X7_costOf_K71 N a0 (((a1.toInt64) * (v3.toInt64)) * (v17 - v24)) (-1 : Int32) M)
  else
  ((chk M a0 7).bind fun _ =>
  bnd2 (f_X7_behind N a0 a1 a2 a3 a4 a5 a6 a7 M) fun v64 M64 =>
  f_X7_costOf_K71 N a0 (((a1.toInt64) * (v3.toInt64)) * (v17 - v24)) v64 M64))
set_option maxHeartbeats 4000000 in
set_option maxRecDepth 100000 in
theorem ok_X7_costOf (N : Nat) {a0 : Nat} {a1 : Int32} {a2 : Int32} {a3 : Int32} {a4 : Int32} {a5 : Int32} {a6 : Int32} {a7 : Int32} {M : A_M} {r : Int64} {M' : A_M} (h : f_X7_costOf N a0 a1 a2 a3 a4 a5 a6 a7 M = some (r, M')) : Runs yX7_costOf cX7_costOf 11 (some .long) 2 56 0 0 [.ref a0, .int a1, .int a2, .int a3, .int a4, .int a5, .int a6, .int a7] M (some (.long r)) M' := by
  refine Runs.intro (by decide) (Nat.le_of_ble_eq_true rfl) (fun X C hnm hMC hMS => ?_)
  have C : Cx X cX7_costOf RX7 11 (some .long) 2 56 := C
  show J X 11 0 [(0, .ref a0), (1, .int a1), (2, .int a2), (3, .int a3), (4, .int a4), (5, .int a5), (6, .int a6), (7, .int a7)] [] M 0 0 (some (.long r)) M'
  unfold f_X7_costOf at h
  refine J_iload_n (pc' := 1) C 1 dX7_costOf_0 rfl rfl rfl ?_
  refine J_i2l (pc' := 2) C dX7_costOf_1 rfl ?_
  refine J_aload_n (pc' := 3) C 0 dX7_costOf_2 rfl rfl rfl ?_
  obtain ⟨v3, e3, h⟩ := bd h
  refine jg_894 (pc' := 6) C dX7_costOf_3 rfl (gI_some e3) ?_
  refine J_i2l (pc' := 7) C dX7_costOf_6 rfl ?_
  refine J_lmul (pc' := 8) C dX7_costOf_7 rfl ?_
  refine J_aload_n (pc' := 9) C 0 dX7_costOf_8 rfl rfl rfl ?_
  obtain ⟨v9, e9, h⟩ := bd h
  refine jg_892 (pc' := 12) C dX7_costOf_9 rfl (gR_some e9) ?_
  refine J_iload (pc' := 14) C 5 dX7_costOf_12 rfl rfl ?_
  refine J_iload (pc' := 16) C 6 dX7_costOf_14 rfl rfl ?_
  refine J_iadd (pc' := 17) C dX7_costOf_16 rfl ?_
  obtain ⟨v17, e17, h⟩ := bd h
  refine J_lald (pc' := 18) C dX7_costOf_17 rfl e17 ?_
  refine J_aload_n (pc' := 19) C 0 dX7_costOf_18 rfl rfl rfl ?_
  obtain ⟨v19, e19, h⟩ := bd h
  refine jg_892 (pc' := 22) C dX7_costOf_19 rfl (gR_some e19) ?_
  refine J_iload (pc' := 24) C 5 dX7_costOf_22 rfl rfl ?_
  obtain ⟨v24, e24, h⟩ := bd h
  refine J_lald (pc' := 25) C dX7_costOf_24 rfl e24 ?_
  refine J_lsub (pc' := 26) C dX7_costOf_25 rfl ?_
  refine J_lmul (pc' := 27) C dX7_costOf_26 rfl ?_
  refine J_lstore (pc' := 29) (lv' := [(8, .long (((a1.toInt64) * (v3.toInt64)) * (v17 - v24))), (0, .ref a0), (1, .int a1), (2, .int a2), (3, .int a3), (4, .int a4), (5, .int a5), (6, .int a6), (7, .int a7)]) C dX7_costOf_27 rfl (by decide) rfl ?_
  refine J_iload (pc' := 31) C 6 dX7_costOf_29 rfl rfl ?_
  refine J_iload (pc' := 33) C 7 dX7_costOf_31 rfl rfl ?_
  refine J_iadd (pc' := 34) C dX7_costOf_33 rfl ?_
  refine J_aload_n (pc' := 35) C 1 dX7_costOf_34 rfl rfl rfl ?_
  obtain ⟨v35, e35, h⟩ := bd h
  refine jg_882 (pc' := 38) C dX7_costOf_35 rfl (gI_some e35) ?_
  refine J_icmp_ne (tgt := 44) (pc' := 41) C dX7_costOf_38 (by decide) rfl (fun c38 => ?_) (fun c38 => ?_)
  · rw [if_neg c38] at h
    refine J_iload_n (pc' := 45) C 2 dX7_costOf_44 rfl rfl rfl ?_
    refine J_aload_n (pc' := 46) C 1 dX7_costOf_45 rfl rfl rfl ?_
    obtain ⟨v46, e46, h⟩ := bd h
    refine jg_895 (pc' := 49) C dX7_costOf_46 rfl (gI_some e46) ?_
    refine J_icmp_ge (tgt := 70) (pc' := 52) C dX7_costOf_49 (by decide) rfl (fun c49 => ?_) (fun c49 => ?_)
    · rw [if_pos c49] at h
      refine J_iconst (pc' := 71) (v := (-1 : Int32)) C dX7_costOf_70 rfl (by decide) ?_
      refine J_sub (lv' := [(0, .ref a0), (8, .long (((a1.toInt64) * (v3.toInt64)) * (v17 - v24)))]) [1, 0] rfl ?_
      exact ok_X7_costOf_K71 C N _ _ _ _ _ _ h
    · rw [if_neg c49] at h
      refine J_aload_n (pc' := 53) C 1 dX7_costOf_52 rfl rfl rfl ?_
      refine J_iload_n (pc' := 54) C 2 dX7_costOf_53 rfl rfl rfl ?_
      refine J_iload_n (pc' := 55) C 3 dX7_costOf_54 rfl rfl rfl ?_
      refine J_iload_n (pc' := 56) C 4 dX7_costOf_55 rfl rfl rfl ?_
      refine J_iload (pc' := 58) C 5 dX7_costOf_56 rfl rfl ?_
      refine J_iload (pc' := 60) C 6 dX7_costOf_58 rfl rfl ?_
      refine J_iload (pc' := 62) C 7 dX7_costOf_60 rfl rfl ?_
      refine J_iload (pc' := 64) C 8 dX7_costOf_62 rfl rfl ?_
      obtain ⟨_, q64, h⟩ := bd h
      obtain ⟨v64, M64, e64, h⟩ := bd2 h
      refine J_cV (pc' := 67) (st := []) (st2 := [.int v64]) (cs2 := 0) (sl2 := 0) C 7 rfl rfl q64 (ok_X7_behind N e64) mw_X7_behind wq_1151 rfl dX7_costOf_64 rfl rfl (Nat.le_of_ble_eq_true rfl) (by decide) (by decide) rfl rfl rfl (Nat.zero_le _) (Nat.zero_le _) ?_
      refine J_goto (tgt := 71) C dX7_costOf_67 (by decide) ?_
      refine J_sub (lv' := [(0, .ref a0), (8, .long (((a1.toInt64) * (v3.toInt64)) * (v17 - v24)))]) [1, 0] rfl ?_
      exact ok_X7_costOf_K71 C N _ _ _ _ _ _ h
  · rw [if_pos c38] at h
    refine J_lload (pc' := 43) C 0 dX7_costOf_41 rfl rfl ?_
    obtain ⟨rfl, rfl⟩ := rt2 h
    exact J_lret C dX7_costOf_43 (Nat.zero_le _) (Nat.zero_le _)
def f_X7_weigh_K116 (N : Nat) (k33 : Nat → Int32 → Int32 → Int32 → Int32 → Int32 → Int32 → Int64 → Int32 → Int32 → A_M → Option A_M) (x0 : Nat) (x1 : Int32) (x2 : Int32) (x3 : Int32) (x4 : Int32) (x5 : Int32) (x6 : Int32) (x7 : Int64) (x9 : Int32) (x10 : Int32) (M : A_M) : Option A_M :=
  k33 x0 x1 x2 x3 x4 x5 x6 x7 x9 (x10 + 1) M
set_option maxHeartbeats 4000000 in
set_option maxRecDepth 100000 in
theorem ok_X7_weigh_K116 {X : JX} (C : Cx X cX7_weigh RX7 15 none 3 86) (N : Nat) {k33 : Nat → Int32 → Int32 → Int32 → Int32 → Int32 → Int32 → Int64 → Int32 → Int32 → A_M → Option A_M} (hk33 : ∀ (x0 : Nat) (x1 : Int32) (x2 : Int32) (x3 : Int32) (x4 : Int32) (x5 : Int32) (x6 : Int32) (x7 : Int64) (x9 : Int32) (x10 : Int32) (M : A_M) (M' : A_M), k33 x0 x1 x2 x3 x4 x5 x6 x7 x9 x10 M = some M' → J X 15 33 [(0, .ref x0), (1, .int x1), (2, .int x2), (3, .int x3), (4, .int x4), (5, .int x5), (6, .int x6), (7, .long x7), (9, .int x9), (10, .int x10)] [] M 0 0 none M') : ∀ (x0 : Nat) (x1 : Int32) (x2 : Int32) (x3 : Int32) (x4 : Int32) (x5 : Int32) (x6 : Int32) (x7 : Int64) (x9 : Int32) (x10 : Int32) (M : A_M) (M' : A_M), f_X7_weigh_K116 N k33 x0 x1 x2 x3 x4 x5 x6 x7 x9 x10 M = some M' → J X 15 116 [(0, .ref x0), (1, .int x1), (2, .int x2), (3, .int x3), (4, .int x4), (5, .int x5), (6, .int x6), (7, .long x7), (9, .int x9), (10, .int x10)] [] M 0 0 none M' := by
  intro x0 x1 x2 x3 x4 x5 x6 x7 x9 x10 M M' h
  unfold f_X7_weigh_K116 at h
  refine J_iinc (pc' := 119) (lv' := [(10, .int (x10 + 1)), (0, .ref x0), (1, .int x1), (2, .int x2), (3, .int x3), (4, .int x4), (5, .int x5), (6, .int x6), (7, .long x7), (9, .int x9)]) C 9 dX7_weigh_116 rfl rfl rfl (by decide) rfl ?_
  refine J_goto (tgt := 33) C dX7_weigh_119 (by decide) ?_
  refine J_sub (lv' := [(0, .ref x0), (1, .int x1), (2, .int x2), (3, .int x3), (4, .int x4), (5, .int x5), (6, .int x6), (7, .long x7), (9, .int x9), (10, .int (x10 + 1))]) [1, 2, 3, 4, 5, 6, 7, 8, 9, 0] rfl ?_
  exact hk33 _ _ _ _ _ _ _ _ _ _ _ _ h
def f_X7_weigh_K108 (N : Nat) (k33 : Nat → Int32 → Int32 → Int32 → Int32 → Int32 → Int32 → Int64 → Int32 → Int32 → A_M → Option A_M) (k69 : Nat → Int32 → Int32 → Int32 → Int32 → Int32 → Int32 → Int64 → Int32 → Int32 → Int32 → Int32 → A_M → Option A_M) (x0 : Nat) (x1 : Int32) (x2 : Int32) (x3 : Int32) (x4 : Int32) (x5 : Int32) (x6 : Int32) (x9 : Int32) (x10 : Int32) (x11 : Int32) (x12 : Int32) (s0 : Int64) (M : A_M) : Option A_M :=
  k69 x0 x1 x2 x3 x4 x5 x6 s0 x9 x10 x11 (x12 + 1) M
set_option maxHeartbeats 4000000 in
set_option maxRecDepth 100000 in
theorem ok_X7_weigh_K108 {X : JX} (C : Cx X cX7_weigh RX7 15 none 3 86) (N : Nat) {k33 : Nat → Int32 → Int32 → Int32 → Int32 → Int32 → Int32 → Int64 → Int32 → Int32 → A_M → Option A_M} (hk33 : ∀ (x0 : Nat) (x1 : Int32) (x2 : Int32) (x3 : Int32) (x4 : Int32) (x5 : Int32) (x6 : Int32) (x7 : Int64) (x9 : Int32) (x10 : Int32) (M : A_M) (M' : A_M), k33 x0 x1 x2 x3 x4 x5 x6 x7 x9 x10 M = some M' → J X 15 33 [(0, .ref x0), (1, .int x1), (2, .int x2), (3, .int x3), (4, .int x4), (5, .int x5), (6, .int x6), (7, .long x7), (9, .int x9), (10, .int x10)] [] M 0 0 none M') {k69 : Nat → Int32 → Int32 → Int32 → Int32 → Int32 → Int32 → Int64 → Int32 → Int32 → Int32 → Int32 → A_M → Option A_M} (hk69 : ∀ (x0 : Nat) (x1 : Int32) (x2 : Int32) (x3 : Int32) (x4 : Int32) (x5 : Int32) (x6 : Int32) (x7 : Int64) (x9 : Int32) (x10 : Int32) (x11 : Int32) (x12 : Int32) (M : A_M) (M' : A_M), k69 x0 x1 x2 x3 x4 x5 x6 x7 x9 x10 x11 x12 M = some M' → J X 15 69 [(0, .ref x0), (1, .int x1), (2, .int x2), (3, .int x3), (4, .int x4), (5, .int x5), (6, .int x6), (7, .long x7), (9, .int x9), (10, .int x10), (11, .int x11), (12, .int x12)] [] M 0 0 none M') : ∀ (x0 : Nat) (x1 : Int32) (x2 : Int32) (x3 : Int32) (x4 : Int32) (x5 : Int32) (x6 : Int32) (x9 : Int32) (x10 : Int32) (x11 : Int32) (x12 : Int32) (s0 : Int64) (M : A_M) (M' : A_M), f_X7_weigh_K108 N k33 k69 x0 x1 x2 x3 x4 x5 x6 x9 x10 x11 x12 s0 M = some M' → J X 15 108 [(0, .ref x0), (1, .int x1), (2, .int x2), (3, .int x3), (4, .int x4), (5, .int x5), (6, .int x6), (9, .int x9), (10, .int x10), (11, .int x11), (12, .int x12)] [.long s0] M 0 0 none M' := by
  intro x0 x1 x2 x3 x4 x5 x6 x9 x10 x11 x12 s0 M M' h
  unfold f_X7_weigh_K108 at h
  refine J_lstore (pc' := 110) (lv' := [(7, .long s0), (0, .ref x0), (1, .int x1), (2, .int x2), (3, .int x3), (4, .int x4), (5, .int x5), (6, .int x6), (9, .int x9), (10, .int x10), (11, .int x11), (12, .int x12)]) C dX7_weigh_108 rfl (by decide) rfl ?_
  refine J_iinc (pc' := 113) (lv' := [(12, .int (x12 + 1)), (7, .long s0), (0, .ref x0), (1, .int x1), (2, .int x2), (3, .int x3), (4, .int x4), (5, .int x5), (6, .int x6), (9, .int x9), (10, .int x10), (11, .int x11)]) C 11 dX7_weigh_110 rfl rfl rfl (by decide) rfl ?_
  refine J_goto (tgt := 69) C dX7_weigh_113 (by decide) ?_
  refine J_sub (lv' := [(0, .ref x0), (1, .int x1), (2, .int x2), (3, .int x3), (4, .int x4), (5, .int x5), (6, .int x6), (7, .long s0), (9, .int x9), (10, .int x10), (11, .int x11), (12, .int (x12 + 1))]) [2, 3, 4, 5, 6, 7, 8, 1, 9, 10, 11, 0] rfl ?_
  exact hk69 _ _ _ _ _ _ _ _ _ _ _ _ _ _ h
def f_X7_weigh_L69 (N : Nat) (k33 : Nat → Int32 → Int32 → Int32 → Int32 → Int32 → Int32 → Int64 → Int32 → Int32 → A_M → Option A_M) : Nat → Nat → Int32 → Int32 → Int32 → Int32 → Int32 → Int32 → Int64 → Int32 → Int32 → Int32 → Int32 → A_M → Option A_M
  | 0, _, _, _, _, _, _, _, _, _, _, _, _, _ => none
  | n + 1, x0, x1, x2, x3, x4, x5, x6, x7, x9, x10, x11, x12, M =>
    if x11 < x12 then
    (f_X7_weigh_K116 N k33 x0 x1 x2 x3 x4 x5 x6 x7 x9 x10 M)
    else
    ((chk M x0 7).bind fun _ =>
    bnd2 (f_X7_costOf N x0 x1 x2 x3 x4 x5 x10 x12 M) fun v88 M88 =>
    if 0 ≤ (lg_cmp v88 x7) then
    (f_X7_weigh_K108 N k33 (f_X7_weigh_L69 N k33 n) x0 x1 x2 x3 x4 x5 x6 x9 x10 x11 x12 x7 M88)
    else
    (f_X7_weigh_K108 N k33 (f_X7_weigh_L69 N k33 n) x0 x1 x2 x3 x4 x5 x6 x9 x10 x11 x12 v88 M88))
set_option maxHeartbeats 4000000 in
set_option maxRecDepth 100000 in
theorem ok_X7_weigh_L69 {X : JX} (C : Cx X cX7_weigh RX7 15 none 3 86) (N : Nat) {k33 : Nat → Int32 → Int32 → Int32 → Int32 → Int32 → Int32 → Int64 → Int32 → Int32 → A_M → Option A_M} (hk33 : ∀ (x0 : Nat) (x1 : Int32) (x2 : Int32) (x3 : Int32) (x4 : Int32) (x5 : Int32) (x6 : Int32) (x7 : Int64) (x9 : Int32) (x10 : Int32) (M : A_M) (M' : A_M), k33 x0 x1 x2 x3 x4 x5 x6 x7 x9 x10 M = some M' → J X 15 33 [(0, .ref x0), (1, .int x1), (2, .int x2), (3, .int x3), (4, .int x4), (5, .int x5), (6, .int x6), (7, .long x7), (9, .int x9), (10, .int x10)] [] M 0 0 none M') : ∀ (n : Nat) (x0 : Nat) (x1 : Int32) (x2 : Int32) (x3 : Int32) (x4 : Int32) (x5 : Int32) (x6 : Int32) (x7 : Int64) (x9 : Int32) (x10 : Int32) (x11 : Int32) (x12 : Int32) (M : A_M) (M' : A_M), f_X7_weigh_L69 N k33 n x0 x1 x2 x3 x4 x5 x6 x7 x9 x10 x11 x12 M = some M' → J X 15 69 [(0, .ref x0), (1, .int x1), (2, .int x2), (3, .int x3), (4, .int x4), (5, .int x5), (6, .int x6), (7, .long x7), (9, .int x9), (10, .int x10), (11, .int x11), (12, .int x12)] [] M 0 0 none M' := by
  intro n
  induction n with
  | zero =>
    intro x0 x1 x2 x3 x4 x5 x6 x7 x9 x10 x11 x12 M M' h
    cases h
  | succ n ih =>
    intro x0 x1 x2 x3 x4 x5 x6 x7 x9 x10 x11 x12 M M' h
    rw [f_X7_weigh_L69] at h
    refine J_iload (pc' := 71) C 11 dX7_weigh_69 rfl rfl ?_
    refine J_iload (pc' := 73) C 10 dX7_weigh_71 rfl rfl ?_
    refine J_icmp_gt (tgt := 116) (pc' := 76) C dX7_weigh_73 (by decide) rfl (fun c73 => ?_) (fun c73 => ?_)
    · rw [if_pos c73] at h
      refine J_sub (lv' := [(0, .ref x0), (1, .int x1), (2, .int x2), (3, .int x3), (4, .int x4), (5, .int x5), (6, .int x6), (7, .long x7), (9, .int x9), (10, .int x10)]) [0, 1, 2, 3, 4, 5, 6, 7, 8, 9] rfl ?_
      exact ok_X7_weigh_K116 C N hk33 _ _ _ _ _ _ _ _ _ _ _ _ h
    · rw [if_neg c73] at h
      refine J_aload_n (pc' := 77) C 0 dX7_weigh_76 rfl rfl rfl ?_
      refine J_iload_n (pc' := 78) C 1 dX7_weigh_77 rfl rfl rfl ?_
      refine J_iload_n (pc' := 79) C 2 dX7_weigh_78 rfl rfl rfl ?_
      refine J_iload_n (pc' := 80) C 3 dX7_weigh_79 rfl rfl rfl ?_
      refine J_iload (pc' := 82) C 4 dX7_weigh_80 rfl rfl ?_
      refine J_iload (pc' := 84) C 5 dX7_weigh_82 rfl rfl ?_
      refine J_iload (pc' := 86) C 9 dX7_weigh_84 rfl rfl ?_
      refine J_iload (pc' := 88) C 11 dX7_weigh_86 rfl rfl ?_
      obtain ⟨_, q88, h⟩ := bd h
      obtain ⟨v88, M88, e88, h⟩ := bd2 h
      refine J_cV (pc' := 91) (st := []) (st2 := [.long v88]) (cs2 := 0) (sl2 := 0) C 7 rfl rfl q88 (ok_X7_costOf N e88) mw_X7_costOf wq_1159 rfl dX7_weigh_88 rfl rfl (Nat.le_of_ble_eq_true rfl) (by decide) (by decide) rfl rfl rfl (Nat.zero_le _) (Nat.zero_le _) ?_
      refine J_lstore (pc' := 93) (lv' := [(13, .long v88), (0, .ref x0), (1, .int x1), (2, .int x2), (3, .int x3), (4, .int x4), (5, .int x5), (6, .int x6), (7, .long x7), (9, .int x9), (10, .int x10), (11, .int x11), (12, .int x12)]) C dX7_weigh_91 rfl (by decide) rfl ?_
      refine J_lload (pc' := 95) C 0 dX7_weigh_93 rfl rfl ?_
      refine J_lload (pc' := 97) C 8 dX7_weigh_95 rfl rfl ?_
      refine J_lcmp (pc' := 98) C dX7_weigh_97 rfl ?_
      refine J_if_ge (tgt := 106) (pc' := 101) C dX7_weigh_98 (by decide) rfl (fun c98 => ?_) (fun c98 => ?_)
      · rw [if_pos c98] at h
        refine J_lload (pc' := 108) C 8 dX7_weigh_106 rfl rfl ?_
        refine J_sub (lv' := [(0, .ref x0), (1, .int x1), (2, .int x2), (3, .int x3), (4, .int x4), (5, .int x5), (6, .int x6), (9, .int x9), (10, .int x10), (11, .int x11), (12, .int x12)]) [1, 2, 3, 4, 5, 6, 7, 9, 10, 11, 12] rfl ?_
        exact ok_X7_weigh_K108 C N hk33 ih _ _ _ _ _ _ _ _ _ _ _ _ _ _ h
      · rw [if_neg c98] at h
        refine J_lload (pc' := 103) C 0 dX7_weigh_101 rfl rfl ?_
        refine J_goto (tgt := 108) C dX7_weigh_103 (by decide) ?_
        refine J_sub (lv' := [(0, .ref x0), (1, .int x1), (2, .int x2), (3, .int x3), (4, .int x4), (5, .int x5), (6, .int x6), (9, .int x9), (10, .int x10), (11, .int x11), (12, .int x12)]) [1, 2, 3, 4, 5, 6, 7, 9, 10, 11, 12] rfl ?_
        exact ok_X7_weigh_K108 C N hk33 ih _ _ _ _ _ _ _ _ _ _ _ _ _ _ h
def f_X7_weigh_K64 (N : Nat) (k33 : Nat → Int32 → Int32 → Int32 → Int32 → Int32 → Int32 → Int64 → Int32 → Int32 → A_M → Option A_M) (x0 : Nat) (x1 : Int32) (x2 : Int32) (x3 : Int32) (x4 : Int32) (x5 : Int32) (x6 : Int32) (x7 : Int64) (x9 : Int32) (x10 : Int32) (s0 : Int32) (M : A_M) : Option A_M :=
  f_X7_weigh_L69 N k33 N x0 x1 x2 x3 x4 x5 x6 x7 x9 x10 s0 (0 : Int32) M
set_option maxHeartbeats 4000000 in
set_option maxRecDepth 100000 in
theorem ok_X7_weigh_K64 {X : JX} (C : Cx X cX7_weigh RX7 15 none 3 86) (N : Nat) {k33 : Nat → Int32 → Int32 → Int32 → Int32 → Int32 → Int32 → Int64 → Int32 → Int32 → A_M → Option A_M} (hk33 : ∀ (x0 : Nat) (x1 : Int32) (x2 : Int32) (x3 : Int32) (x4 : Int32) (x5 : Int32) (x6 : Int32) (x7 : Int64) (x9 : Int32) (x10 : Int32) (M : A_M) (M' : A_M), k33 x0 x1 x2 x3 x4 x5 x6 x7 x9 x10 M = some M' → J X 15 33 [(0, .ref x0), (1, .int x1), (2, .int x2), (3, .int x3), (4, .int x4), (5, .int x5), (6, .int x6), (7, .long x7), (9, .int x9), (10, .int x10)] [] M 0 0 none M') : ∀ (x0 : Nat) (x1 : Int32) (x2 : Int32) (x3 : Int32) (x4 : Int32) (x5 : Int32) (x6 : Int32) (x7 : Int64) (x9 : Int32) (x10 : Int32) (s0 : Int32) (M : A_M) (M' : A_M), f_X7_weigh_K64 N k33 x0 x1 x2 x3 x4 x5 x6 x7 x9 x10 s0 M = some M' → J X 15 64 [(0, .ref x0), (1, .int x1), (2, .int x2), (3, .int x3), (4, .int x4), (5, .int x5), (6, .int x6), (7, .long x7), (9, .int x9), (10, .int x10)] [.int s0] M 0 0 none M' := by
  intro x0 x1 x2 x3 x4 x5 x6 x7 x9 x10 s0 M M' h
  unfold f_X7_weigh_K64 at h
  refine J_istore (pc' := 66) (lv' := [(11, .int s0), (0, .ref x0), (1, .int x1), (2, .int x2), (3, .int x3), (4, .int x4), (5, .int x5), (6, .int x6), (7, .long x7), (9, .int x9), (10, .int x10)]) C dX7_weigh_64 rfl (by decide) rfl ?_
  refine J_iconst (pc' := 67) (v := (0 : Int32)) C dX7_weigh_66 rfl (by decide) ?_
  refine J_istore (pc' := 69) (lv' := [(12, .int (0 : Int32)), (11, .int s0), (0, .ref x0), (1, .int x1), (2, .int x2), (3, .int x3), (4, .int x4), (5, .int x5), (6, .int x6), (7, .long x7), (9, .int x9), (10, .int x10)]) C dX7_weigh_67 rfl (by decide) rfl ?_
  refine J_sub (lv' := [(0, .ref x0), (1, .int x1), (2, .int x2), (3, .int x3), (4, .int x4), (5, .int x5), (6, .int x6), (7, .long x7), (9, .int x9), (10, .int x10), (11, .int s0), (12, .int (0 : Int32))]) [2, 3, 4, 5, 6, 7, 8, 9, 10, 11, 1, 0] rfl ?_
  exact ok_X7_weigh_L69 C N hk33 N _ _ _ _ _ _ _ _ _ _ _ _ _ _ h
def f_X7_weigh_K122 (N : Nat) (x0 : Nat) (x1 : Int32) (x2 : Int32) (x3 : Int32) (x4 : Int32) (x5 : Int32) (x7 : Int64) (M : A_M) : Option A_M :=
  (gR M x0 7 11).bind fun v123 =>
  (chk M x0 7).bind fun _ =>
  bnd2 (f_X7_at N x0 x1 x2 x3 x4 x5 M) fun v134 M134 =>
  (stJ M134 v123 v134 x7).bind fun M139 =>
  some M139
set_option maxHeartbeats 4000000 in
set_option maxRecDepth 100000 in
theorem ok_X7_weigh_K122 {X : JX} (C : Cx X cX7_weigh RX7 15 none 3 86) (N : Nat) : ∀ (x0 : Nat) (x1 : Int32) (x2 : Int32) (x3 : Int32) (x4 : Int32) (x5 : Int32) (x7 : Int64) (M : A_M) (M' : A_M), f_X7_weigh_K122 N x0 x1 x2 x3 x4 x5 x7 M = some M' → J X 15 122 [(0, .ref x0), (1, .int x1), (2, .int x2), (3, .int x3), (4, .int x4), (5, .int x5), (7, .long x7)] [] M 0 0 none M' := by
  intro x0 x1 x2 x3 x4 x5 x7 M M' h
  unfold f_X7_weigh_K122 at h
  refine J_aload_n (pc' := 123) C 0 dX7_weigh_122 rfl rfl rfl ?_
  obtain ⟨v123, e123, h⟩ := bd h
  refine jg_890 (pc' := 126) C dX7_weigh_123 rfl (gR_some e123) ?_
  refine J_aload_n (pc' := 127) C 0 dX7_weigh_126 rfl rfl rfl ?_
  refine J_iload_n (pc' := 128) C 1 dX7_weigh_127 rfl rfl rfl ?_
  refine J_iload_n (pc' := 129) C 2 dX7_weigh_128 rfl rfl rfl ?_
  refine J_iload_n (pc' := 130) C 3 dX7_weigh_129 rfl rfl rfl ?_
  refine J_iload (pc' := 132) C 4 dX7_weigh_130 rfl rfl ?_
  refine J_iload (pc' := 134) C 5 dX7_weigh_132 rfl rfl ?_
  obtain ⟨_, q134, h⟩ := bd h
  obtain ⟨v134, M134, e134, h⟩ := bd2 h
  refine J_cV (pc' := 137) (st := [.ref v123]) (st2 := [.int v134, .ref v123]) (cs2 := 0) (sl2 := 0) C 7 rfl rfl q134 (ok_X7_at N e134) mw_X7_at wq_1136 rfl dX7_weigh_134 rfl rfl (Nat.le_of_ble_eq_true rfl) (by decide) (by decide) rfl rfl rfl (Nat.zero_le _) (Nat.zero_le _) ?_
  refine J_lload (pc' := 139) C 6 dX7_weigh_137 rfl rfl ?_
  obtain ⟨M139, e139, h⟩ := bd h
  refine J_last (pc' := 140) C dX7_weigh_139 rfl e139 ?_
  obtain rfl := rt1 h
  exact J_vret C dX7_weigh_140 (Nat.zero_le _) (Nat.zero_le _)
def f_X7_weigh_L33 (N : Nat) : Nat → Nat → Int32 → Int32 → Int32 → Int32 → Int32 → Int32 → Int64 → Int32 → Int32 → A_M → Option A_M
  | 0, _, _, _, _, _, _, _, _, _, _, _ => none
  | n + 1, x0, x1, x2, x3, x4, x5, x6, x7, x9, x10, M =>
    if x9 < x10 then
    (f_X7_weigh_K122 N x0 x1 x2 x3 x4 x5 x7 M)
    else
    ((gI M x0 7 16).bind fun v42 =>
    if x1 = v42 then
    (f_X7_weigh_K64 N (f_X7_weigh_L33 N n) x0 x1 x2 x3 x4 x5 x6 x7 x9 x10 (0 : Int32) M)
    else
    (bnd2 (f_X7_least N (x2 - x10) (x6 - x10) M) fun v61 M61 =>
    f_X7_weigh_K64 N (f_X7_weigh_L33 N n) x0 x1 x2 x3 x4 x5 x6 x7 x9 x10 v61 M61))
set_option maxHeartbeats 4000000 in
set_option maxRecDepth 100000 in
theorem ok_X7_weigh_L33 {X : JX} (C : Cx X cX7_weigh RX7 15 none 3 86) (N : Nat) : ∀ (n : Nat) (x0 : Nat) (x1 : Int32) (x2 : Int32) (x3 : Int32) (x4 : Int32) (x5 : Int32) (x6 : Int32) (x7 : Int64) (x9 : Int32) (x10 : Int32) (M : A_M) (M' : A_M), f_X7_weigh_L33 N n x0 x1 x2 x3 x4 x5 x6 x7 x9 x10 M = some M' → J X 15 33 [(0, .ref x0), (1, .int x1), (2, .int x2), (3, .int x3), (4, .int x4), (5, .int x5), (6, .int x6), (7, .long x7), (9, .int x9), (10, .int x10)] [] M 0 0 none M' := by
  intro n
  induction n with
  | zero =>
    intro x0 x1 x2 x3 x4 x5 x6 x7 x9 x10 M M' h
    cases h
  | succ n ih =>
    intro x0 x1 x2 x3 x4 x5 x6 x7 x9 x10 M M' h
    rw [f_X7_weigh_L33] at h
    refine J_iload (pc' := 35) C 9 dX7_weigh_33 rfl rfl ?_
    refine J_iload (pc' := 37) C 8 dX7_weigh_35 rfl rfl ?_
    refine J_icmp_gt (tgt := 122) (pc' := 40) C dX7_weigh_37 (by decide) rfl (fun c37 => ?_) (fun c37 => ?_)
    · rw [if_pos c37] at h
      refine J_sub (lv' := [(0, .ref x0), (1, .int x1), (2, .int x2), (3, .int x3), (4, .int x4), (5, .int x5), (7, .long x7)]) [0, 1, 2, 3, 4, 5, 7] rfl ?_
      exact ok_X7_weigh_K122 C N _ _ _ _ _ _ _ _ _ h
    · rw [if_neg c37] at h
      refine J_iload_n (pc' := 41) C 1 dX7_weigh_40 rfl rfl rfl ?_
      refine J_aload_n (pc' := 42) C 0 dX7_weigh_41 rfl rfl rfl ?_
      obtain ⟨v42, e42, h⟩ := bd h
      refine jg_895 (pc' := 45) C dX7_weigh_42 rfl (gI_some e42) ?_
      refine J_icmp_ne (tgt := 52) (pc' := 48) C dX7_weigh_45 (by decide) rfl (fun c45 => ?_) (fun c45 => ?_)
      · rw [if_neg c45] at h
        refine J_iload_n (pc' := 53) C 2 dX7_weigh_52 rfl rfl rfl ?_
        refine J_iload (pc' := 55) C 9 dX7_weigh_53 rfl rfl ?_
        refine J_isub (pc' := 56) C dX7_weigh_55 rfl ?_
        refine J_iload (pc' := 58) C 6 dX7_weigh_56 rfl rfl ?_
        refine J_iload (pc' := 60) C 9 dX7_weigh_58 rfl rfl ?_
        refine J_isub (pc' := 61) C dX7_weigh_60 rfl ?_
        obtain ⟨v61, M61, e61, h⟩ := bd2 h
        refine J_cS (pc' := 64) (st := []) (st2 := [.int v61]) (cs2 := 0) (sl2 := 0) C (ok_X7_least N e61) mw_X7_least wq_1148 rfl dX7_weigh_61 rfl rfl (Nat.le_of_ble_eq_true rfl) (by decide) (by decide) rfl rfl rfl (Nat.zero_le _) (Nat.zero_le _) ?_
        refine J_sub (lv' := [(0, .ref x0), (1, .int x1), (2, .int x2), (3, .int x3), (4, .int x4), (5, .int x5), (6, .int x6), (7, .long x7), (9, .int x9), (10, .int x10)]) [0, 1, 2, 3, 4, 5, 6, 7, 8, 9] rfl ?_
        exact ok_X7_weigh_K64 C N ih _ _ _ _ _ _ _ _ _ _ _ _ _ h
      · rw [if_pos c45] at h
        refine J_iconst (pc' := 49) (v := (0 : Int32)) C dX7_weigh_48 rfl (by decide) ?_
        refine J_goto (tgt := 64) C dX7_weigh_49 (by decide) ?_
        refine J_sub (lv' := [(0, .ref x0), (1, .int x1), (2, .int x2), (3, .int x3), (4, .int x4), (5, .int x5), (6, .int x6), (7, .long x7), (9, .int x9), (10, .int x10)]) [0, 1, 2, 3, 4, 5, 6, 7, 8, 9] rfl ?_
        exact ok_X7_weigh_K64 C N ih _ _ _ _ _ _ _ _ _ _ _ _ _ h
def f_X7_weigh_K28 (N : Nat) (x0 : Nat) (x1 : Int32) (x2 : Int32) (x3 : Int32) (x4 : Int32) (x5 : Int32) (x6 : Int32) (x7 : Int64) (s0 : Int32) (M : A_M) : Option A_M :=
  f_X7_weigh_L33 N N x0 x1 x2 x3 x4 x5 x6 x7 s0 (0 : Int32) M
set_option maxHeartbeats 4000000 in
set_option maxRecDepth 100000 in
theorem ok_X7_weigh_K28 {X : JX} (C : Cx X cX7_weigh RX7 15 none 3 86) (N : Nat) : ∀ (x0 : Nat) (x1 : Int32) (x2 : Int32) (x3 : Int32) (x4 : Int32) (x5 : Int32) (x6 : Int32) (x7 : Int64) (s0 : Int32) (M : A_M) (M' : A_M), f_X7_weigh_K28 N x0 x1 x2 x3 x4 x5 x6 x7 s0 M = some M' → J X 15 28 [(0, .ref x0), (1, .int x1), (2, .int x2), (3, .int x3), (4, .int x4), (5, .int x5), (6, .int x6), (7, .long x7)] [.int s0] M 0 0 none M' := by
  intro x0 x1 x2 x3 x4 x5 x6 x7 s0 M M' h
  unfold f_X7_weigh_K28 at h
  refine J_istore (pc' := 30) (lv' := [(9, .int s0), (0, .ref x0), (1, .int x1), (2, .int x2), (3, .int x3), (4, .int x4), (5, .int x5), (6, .int x6), (7, .long x7)]) C dX7_weigh_28 rfl (by decide) rfl ?_
  refine J_iconst (pc' := 31) (v := (0 : Int32)) C dX7_weigh_30 rfl (by decide) ?_
  refine J_istore (pc' := 33) (lv' := [(10, .int (0 : Int32)), (9, .int s0), (0, .ref x0), (1, .int x1), (2, .int x2), (3, .int x3), (4, .int x4), (5, .int x5), (6, .int x6), (7, .long x7)]) C dX7_weigh_31 rfl (by decide) rfl ?_
  refine J_sub (lv' := [(0, .ref x0), (1, .int x1), (2, .int x2), (3, .int x3), (4, .int x4), (5, .int x5), (6, .int x6), (7, .long x7), (9, .int s0), (10, .int (0 : Int32))]) [2, 3, 4, 5, 6, 7, 8, 9, 1, 0] rfl ?_
  exact ok_X7_weigh_L33 C N N _ _ _ _ _ _ _ _ _ _ _ _ h
def f_X7_weigh (N : Nat) (a0 : Nat) (a1 : Int32) (a2 : Int32) (a3 : Int32) (a4 : Int32) (a5 : Int32) (M : A_M) : Option A_M :=
  (gI M a0 7 3).bind fun v1 =>
  if a1 = 0 then
  (f_X7_weigh_K28 N a0 a1 a2 a3 a4 a5 (v1 - a5) (1152921504606846976 : Int64) (0 : Int32) M)
  else
  (bnd2 (f_X7_least N a2 (v1 - a5) M) fun v25 M25 =>
  f_X7_weigh_K28 N a0 a1 a2 a3 a4 a5 (v1 - a5) (1152921504606846976 : Int64) v25 M25)
set_option maxHeartbeats 4000000 in
set_option maxRecDepth 100000 in
theorem ok_X7_weigh (N : Nat) {a0 : Nat} {a1 : Int32} {a2 : Int32} {a3 : Int32} {a4 : Int32} {a5 : Int32} {M : A_M} {M' : A_M} (h : f_X7_weigh N a0 a1 a2 a3 a4 a5 M = some M') : Runs yX7_weigh cX7_weigh 15 none 3 86 0 0 [.ref a0, .int a1, .int a2, .int a3, .int a4, .int a5] M none M' := by
  refine Runs.intro (by decide) (Nat.le_of_ble_eq_true rfl) (fun X C hnm hMC hMS => ?_)
  have C : Cx X cX7_weigh RX7 15 none 3 86 := C
  show J X 15 0 [(0, .ref a0), (1, .int a1), (2, .int a2), (3, .int a3), (4, .int a4), (5, .int a5)] [] M 0 0 none M'
  unfold f_X7_weigh at h
  refine J_aload_n (pc' := 1) C 0 dX7_weigh_0 rfl rfl rfl ?_
  obtain ⟨v1, e1, h⟩ := bd h
  refine jg_882 (pc' := 4) C dX7_weigh_1 rfl (gI_some e1) ?_
  refine J_iload (pc' := 6) C 5 dX7_weigh_4 rfl rfl ?_
  refine J_isub (pc' := 7) C dX7_weigh_6 rfl ?_
  refine J_istore (pc' := 9) (lv' := [(6, .int (v1 - a5)), (0, .ref a0), (1, .int a1), (2, .int a2), (3, .int a3), (4, .int a4), (5, .int a5)]) C dX7_weigh_7 rfl (by decide) rfl ?_
  refine J_ldc2 (pc' := 12) C dX7_weigh_9 rfl wq_1092 ?_
  refine J_lstore (pc' := 14) (lv' := [(7, .long (1152921504606846976 : Int64)), (6, .int (v1 - a5)), (0, .ref a0), (1, .int a1), (2, .int a2), (3, .int a3), (4, .int a4), (5, .int a5)]) C dX7_weigh_12 rfl (by decide) rfl ?_
  refine J_iload_n (pc' := 15) C 3 dX7_weigh_14 rfl rfl rfl ?_
  refine J_if_ne (tgt := 22) (pc' := 18) C dX7_weigh_15 (by decide) rfl (fun c15 => ?_) (fun c15 => ?_)
  · rw [if_neg c15] at h
    refine J_iload_n (pc' := 23) C 4 dX7_weigh_22 rfl rfl rfl ?_
    refine J_iload (pc' := 25) C 1 dX7_weigh_23 rfl rfl ?_
    obtain ⟨v25, M25, e25, h⟩ := bd2 h
    refine J_cS (pc' := 28) (st := []) (st2 := [.int v25]) (cs2 := 0) (sl2 := 0) C (ok_X7_least N e25) mw_X7_least wq_1148 rfl dX7_weigh_25 rfl rfl (Nat.le_of_ble_eq_true rfl) (by decide) (by decide) rfl rfl rfl (Nat.zero_le _) (Nat.zero_le _) ?_
    refine J_sub (lv' := [(0, .ref a0), (1, .int a1), (2, .int a2), (3, .int a3), (4, .int a4), (5, .int a5), (6, .int (v1 - a5)), (7, .long (1152921504606846976 : Int64))]) [2, 3, 4, 5, 6, 7, 1, 0] rfl ?_
    exact ok_X7_weigh_K28 C N _ _ _ _ _ _ _ _ _ _ _ h
  · rw [if_pos c15] at h
    refine J_iconst (pc' := 19) (v := (0 : Int32)) C dX7_weigh_18 rfl (by decide) ?_
    refine J_goto (tgt := 28) C dX7_weigh_19 (by decide) ?_
    refine J_sub (lv' := [(0, .ref a0), (1, .int a1), (2, .int a2), (3, .int a3), (4, .int a4), (5, .int a5), (6, .int (v1 - a5)), (7, .long (1152921504606846976 : Int64))]) [2, 3, 4, 5, 6, 7, 1, 0] rfl ?_
    exact ok_X7_weigh_K28 C N _ _ _ _ _ _ _ _ _ _ _ h
def f_X7_goThrough_K143 (N : Nat) (k33 : Nat → Int32 → Int32 → Int32 → Int32 → Int32 → A_M → Option A_M) (x0 : Nat) (x1 : Int32) (x2 : Int32) (x3 : Int32) (x4 : Int32) (x5 : Int32) (M : A_M) : Option A_M :=
  k33 x0 x1 x2 x3 x4 (x5 + 1) M
set_option maxHeartbeats 4000000 in
set_option maxRecDepth 100000 in
theorem ok_X7_goThrough_K143 {X : JX} (C : Cx X cX7_goThrough RX7 9 none 4 120) (N : Nat) {k33 : Nat → Int32 → Int32 → Int32 → Int32 → Int32 → A_M → Option A_M} (hk33 : ∀ (x0 : Nat) (x1 : Int32) (x2 : Int32) (x3 : Int32) (x4 : Int32) (x5 : Int32) (M : A_M) (M' : A_M), k33 x0 x1 x2 x3 x4 x5 M = some M' → J X 9 33 [(0, .ref x0), (1, .int x1), (2, .int x2), (3, .int x3), (4, .int x4), (5, .int x5)] [] M 0 0 none M') : ∀ (x0 : Nat) (x1 : Int32) (x2 : Int32) (x3 : Int32) (x4 : Int32) (x5 : Int32) (M : A_M) (M' : A_M), f_X7_goThrough_K143 N k33 x0 x1 x2 x3 x4 x5 M = some M' → J X 9 143 [(0, .ref x0), (1, .int x1), (2, .int x2), (3, .int x3), (4, .int x4), (5, .int x5)] [] M 0 0 none M' := by
  intro x0 x1 x2 x3 x4 x5 M M' h
  unfold f_X7_goThrough_K143 at h
  refine J_iinc (pc' := 146) (lv' := [(5, .int (x5 + 1)), (0, .ref x0), (1, .int x1), (2, .int x2), (3, .int x3), (4, .int x4)]) C 5 dX7_goThrough_143 rfl rfl rfl (by decide) rfl ?_
  refine J_goto (tgt := 33) C dX7_goThrough_146 (by decide) ?_
  refine J_sub (lv' := [(0, .ref x0), (1, .int x1), (2, .int x2), (3, .int x3), (4, .int x4), (5, .int (x5 + 1))]) [1, 2, 3, 4, 5, 0] rfl ?_
  exact hk33 _ _ _ _ _ _ _ _ h
def f_X7_goThrough_K137 (N : Nat) (k33 : Nat → Int32 → Int32 → Int32 → Int32 → Int32 → A_M → Option A_M) (k42 : Nat → Int32 → Int32 → Int32 → Int32 → Int32 → Int32 → A_M → Option A_M) (x0 : Nat) (x1 : Int32) (x2 : Int32) (x3 : Int32) (x4 : Int32) (x5 : Int32) (x6 : Int32) (M : A_M) : Option A_M :=
  k42 x0 x1 x2 x3 x4 x5 (x6 + 1) M
set_option maxHeartbeats 4000000 in
set_option maxRecDepth 100000 in
theorem ok_X7_goThrough_K137 {X : JX} (C : Cx X cX7_goThrough RX7 9 none 4 120) (N : Nat) {k33 : Nat → Int32 → Int32 → Int32 → Int32 → Int32 → A_M → Option A_M} (hk33 : ∀ (x0 : Nat) (x1 : Int32) (x2 : Int32) (x3 : Int32) (x4 : Int32) (x5 : Int32) (M : A_M) (M' : A_M), k33 x0 x1 x2 x3 x4 x5 M = some M' → J X 9 33 [(0, .ref x0), (1, .int x1), (2, .int x2), (3, .int x3), (4, .int x4), (5, .int x5)] [] M 0 0 none M') {k42 : Nat → Int32 → Int32 → Int32 → Int32 → Int32 → Int32 → A_M → Option A_M} (hk42 : ∀ (x0 : Nat) (x1 : Int32) (x2 : Int32) (x3 : Int32) (x4 : Int32) (x5 : Int32) (x6 : Int32) (M : A_M) (M' : A_M), k42 x0 x1 x2 x3 x4 x5 x6 M = some M' → J X 9 42 [(0, .ref x0), (1, .int x1), (2, .int x2), (3, .int x3), (4, .int x4), (5, .int x5), (6, .int x6)] [] M 0 0 none M') : ∀ (x0 : Nat) (x1 : Int32) (x2 : Int32) (x3 : Int32) (x4 : Int32) (x5 : Int32) (x6 : Int32) (M : A_M) (M' : A_M), f_X7_goThrough_K137 N k33 k42 x0 x1 x2 x3 x4 x5 x6 M = some M' → J X 9 137 [(0, .ref x0), (1, .int x1), (2, .int x2), (3, .int x3), (4, .int x4), (5, .int x5), (6, .int x6)] [] M 0 0 none M' := by
  intro x0 x1 x2 x3 x4 x5 x6 M M' h
  unfold f_X7_goThrough_K137 at h
  refine J_iinc (pc' := 140) (lv' := [(6, .int (x6 + 1)), (0, .ref x0), (1, .int x1), (2, .int x2), (3, .int x3), (4, .int x4), (5, .int x5)]) C 6 dX7_goThrough_137 rfl rfl rfl (by decide) rfl ?_
  refine J_goto (tgt := 42) C dX7_goThrough_140 (by decide) ?_
  refine J_sub (lv' := [(0, .ref x0), (1, .int x1), (2, .int x2), (3, .int x3), (4, .int x4), (5, .int x5), (6, .int (x6 + 1))]) [1, 2, 3, 4, 5, 6, 0] rfl ?_
  exact hk42 _ _ _ _ _ _ _ _ _ h
def f_X7_goThrough_K131 (N : Nat) (k33 : Nat → Int32 → Int32 → Int32 → Int32 → Int32 → A_M → Option A_M) (k42 : Nat → Int32 → Int32 → Int32 → Int32 → Int32 → Int32 → A_M → Option A_M) (k52 : Nat → Int32 → Int32 → Int32 → Int32 → Int32 → Int32 → Int32 → A_M → Option A_M) (x0 : Nat) (x1 : Int32) (x2 : Int32) (x3 : Int32) (x4 : Int32) (x5 : Int32) (x6 : Int32) (x7 : Int32) (M : A_M) : Option A_M :=
  k52 x0 x1 x2 x3 x4 x5 x6 (x7 + 1) M
set_option maxHeartbeats 4000000 in
set_option maxRecDepth 100000 in
theorem ok_X7_goThrough_K131 {X : JX} (C : Cx X cX7_goThrough RX7 9 none 4 120) (N : Nat) {k33 : Nat → Int32 → Int32 → Int32 → Int32 → Int32 → A_M → Option A_M} (hk33 : ∀ (x0 : Nat) (x1 : Int32) (x2 : Int32) (x3 : Int32) (x4 : Int32) (x5 : Int32) (M : A_M) (M' : A_M), k33 x0 x1 x2 x3 x4 x5 M = some M' → J X 9 33 [(0, .ref x0), (1, .int x1), (2, .int x2), (3, .int x3), (4, .int x4), (5, .int x5)] [] M 0 0 none M') {k42 : Nat → Int32 → Int32 → Int32 → Int32 → Int32 → Int32 → A_M → Option A_M} (hk42 : ∀ (x0 : Nat) (x1 : Int32) (x2 : Int32) (x3 : Int32) (x4 : Int32) (x5 : Int32) (x6 : Int32) (M : A_M) (M' : A_M), k42 x0 x1 x2 x3 x4 x5 x6 M = some M' → J X 9 42 [(0, .ref x0), (1, .int x1), (2, .int x2), (3, .int x3), (4, .int x4), (5, .int x5), (6, .int x6)] [] M 0 0 none M') {k52 : Nat → Int32 → Int32 → Int32 → Int32 → Int32 → Int32 → Int32 → A_M → Option A_M} (hk52 : ∀ (x0 : Nat) (x1 : Int32) (x2 : Int32) (x3 : Int32) (x4 : Int32) (x5 : Int32) (x6 : Int32) (x7 : Int32) (M : A_M) (M' : A_M), k52 x0 x1 x2 x3 x4 x5 x6 x7 M = some M' → J X 9 52 [(0, .ref x0), (1, .int x1), (2, .int x2), (3, .int x3), (4, .int x4), (5, .int x5), (6, .int x6), (7, .int x7)] [] M 0 0 none M') : ∀ (x0 : Nat) (x1 : Int32) (x2 : Int32) (x3 : Int32) (x4 : Int32) (x5 : Int32) (x6 : Int32) (x7 : Int32) (M : A_M) (M' : A_M), f_X7_goThrough_K131 N k33 k42 k52 x0 x1 x2 x3 x4 x5 x6 x7 M = some M' → J X 9 131 [(0, .ref x0), (1, .int x1), (2, .int x2), (3, .int x3), (4, .int x4), (5, .int x5), (6, .int x6), (7, .int x7)] [] M 0 0 none M' := by
  intro x0 x1 x2 x3 x4 x5 x6 x7 M M' h
  unfold f_X7_goThrough_K131 at h
  refine J_iinc (pc' := 134) (lv' := [(7, .int (x7 + 1)), (0, .ref x0), (1, .int x1), (2, .int x2), (3, .int x3), (4, .int x4), (5, .int x5), (6, .int x6)]) C 7 dX7_goThrough_131 rfl rfl rfl (by decide) rfl ?_
  refine J_goto (tgt := 52) C dX7_goThrough_134 (by decide) ?_
  refine J_sub (lv' := [(0, .ref x0), (1, .int x1), (2, .int x2), (3, .int x3), (4, .int x4), (5, .int x5), (6, .int x6), (7, .int (x7 + 1))]) [1, 2, 3, 4, 5, 6, 7, 0] rfl ?_
  exact hk52 _ _ _ _ _ _ _ _ _ _ h
def f_X7_goThrough_K125 (N : Nat) (k33 : Nat → Int32 → Int32 → Int32 → Int32 → Int32 → A_M → Option A_M) (k42 : Nat → Int32 → Int32 → Int32 → Int32 → Int32 → Int32 → A_M → Option A_M) (k52 : Nat → Int32 → Int32 → Int32 → Int32 → Int32 → Int32 → Int32 → A_M → Option A_M) (k62 : Nat → Int32 → Int32 → Int32 → Int32 → Int32 → Int32 → Int32 → Int32 → A_M → Option A_M) (x0 : Nat) (x1 : Int32) (x2 : Int32) (x3 : Int32) (x4 : Int32) (x5 : Int32) (x6 : Int32) (x7 : Int32) (x8 : Int32) (M : A_M) : Option A_M :=
  k62 x0 x1 x2 x3 x4 x5 x6 x7 (x8 + 1) M
set_option maxHeartbeats 4000000 in
set_option maxRecDepth 100000 in
theorem ok_X7_goThrough_K125 {X : JX} (C : Cx X cX7_goThrough RX7 9 none 4 120) (N : Nat) {k33 : Nat → Int32 → Int32 → Int32 → Int32 → Int32 → A_M → Option A_M} (hk33 : ∀ (x0 : Nat) (x1 : Int32) (x2 : Int32) (x3 : Int32) (x4 : Int32) (x5 : Int32) (M : A_M) (M' : A_M), k33 x0 x1 x2 x3 x4 x5 M = some M' → J X 9 33 [(0, .ref x0), (1, .int x1), (2, .int x2), (3, .int x3), (4, .int x4), (5, .int x5)] [] M 0 0 none M') {k42 : Nat → Int32 → Int32 → Int32 → Int32 → Int32 → Int32 → A_M → Option A_M} (hk42 : ∀ (x0 : Nat) (x1 : Int32) (x2 : Int32) (x3 : Int32) (x4 : Int32) (x5 : Int32) (x6 : Int32) (M : A_M) (M' : A_M), k42 x0 x1 x2 x3 x4 x5 x6 M = some M' → J X 9 42 [(0, .ref x0), (1, .int x1), (2, .int x2), (3, .int x3), (4, .int x4), (5, .int x5), (6, .int x6)] [] M 0 0 none M') {k52 : Nat → Int32 → Int32 → Int32 → Int32 → Int32 → Int32 → Int32 → A_M → Option A_M} (hk52 : ∀ (x0 : Nat) (x1 : Int32) (x2 : Int32) (x3 : Int32) (x4 : Int32) (x5 : Int32) (x6 : Int32) (x7 : Int32) (M : A_M) (M' : A_M), k52 x0 x1 x2 x3 x4 x5 x6 x7 M = some M' → J X 9 52 [(0, .ref x0), (1, .int x1), (2, .int x2), (3, .int x3), (4, .int x4), (5, .int x5), (6, .int x6), (7, .int x7)] [] M 0 0 none M') {k62 : Nat → Int32 → Int32 → Int32 → Int32 → Int32 → Int32 → Int32 → Int32 → A_M → Option A_M} (hk62 : ∀ (x0 : Nat) (x1 : Int32) (x2 : Int32) (x3 : Int32) (x4 : Int32) (x5 : Int32) (x6 : Int32) (x7 : Int32) (x8 : Int32) (M : A_M) (M' : A_M), k62 x0 x1 x2 x3 x4 x5 x6 x7 x8 M = some M' → J X 9 62 [(0, .ref x0), (1, .int x1), (2, .int x2), (3, .int x3), (4, .int x4), (5, .int x5), (6, .int x6), (7, .int x7), (8, .int x8)] [] M 0 0 none M') : ∀ (x0 : Nat) (x1 : Int32) (x2 : Int32) (x3 : Int32) (x4 : Int32) (x5 : Int32) (x6 : Int32) (x7 : Int32) (x8 : Int32) (M : A_M) (M' : A_M), f_X7_goThrough_K125 N k33 k42 k52 k62 x0 x1 x2 x3 x4 x5 x6 x7 x8 M = some M' → J X 9 125 [(0, .ref x0), (1, .int x1), (2, .int x2), (3, .int x3), (4, .int x4), (5, .int x5), (6, .int x6), (7, .int x7), (8, .int x8)] [] M 0 0 none M' := by
  intro x0 x1 x2 x3 x4 x5 x6 x7 x8 M M' h
  unfold f_X7_goThrough_K125 at h
  refine J_iinc (pc' := 128) (lv' := [(8, .int (x8 + 1)), (0, .ref x0), (1, .int x1), (2, .int x2), (3, .int x3), (4, .int x4), (5, .int x5), (6, .int x6), (7, .int x7)]) C 8 dX7_goThrough_125 rfl rfl rfl (by decide) rfl ?_
  refine J_goto (tgt := 62) C dX7_goThrough_128 (by decide) ?_
  refine J_sub (lv' := [(0, .ref x0), (1, .int x1), (2, .int x2), (3, .int x3), (4, .int x4), (5, .int x5), (6, .int x6), (7, .int x7), (8, .int (x8 + 1))]) [1, 2, 3, 4, 5, 6, 7, 8, 0] rfl ?_
  exact hk62 _ _ _ _ _ _ _ _ _ _ _ h
def f_X7_goThrough_L62 (N : Nat) (k33 : Nat → Int32 → Int32 → Int32 → Int32 → Int32 → A_M → Option A_M) (k42 : Nat → Int32 → Int32 → Int32 → Int32 → Int32 → Int32 → A_M → Option A_M) (k52 : Nat → Int32 → Int32 → Int32 → Int32 → Int32 → Int32 → Int32 → A_M → Option A_M) : Nat → Nat → Int32 → Int32 → Int32 → Int32 → Int32 → Int32 → Int32 → Int32 → A_M → Option A_M
  | 0, _, _, _, _, _, _, _, _, _, _ => none
  | n + 1, x0, x1, x2, x3, x4, x5, x6, x7, x8, M =>
    (gI M x0 7 3).bind fun v65 =>
    if v65 ≤ x8 then
    (f_X7_goThrough_K131 N k33 k42 k52 x0 x1 x2 x3 x4 x5 x6 x7 M)
    else
    ((gR M x0 7 12).bind fun v72 =>
    (chk M x0 7).bind fun _ =>
    bnd2 (f_X7_at N x0 x1 x5 x6 x7 x8 M) fun v85 M85 =>
    (ldZ M85 v72 v85).bind fun v88 =>
    if v88 = 0 then
    (f_X7_goThrough_K125 N k33 k42 k52 (f_X7_goThrough_L62 N k33 k42 k52 n) x0 x1 x2 x3 x4 x5 x6 x7 x8 M85)
    else
    (if x2 = 0 then
    ((chk M85 x0 7).bind fun _ =>
    (f_X7_weigh N x0 x1 x5 x6 x7 x8 M85).bind fun M122 =>
    f_X7_goThrough_K125 N k33 k42 k52 (f_X7_goThrough_L62 N k33 k42 k52 n) x0 x1 x2 x3 x4 x5 x6 x7 x8 M122)
    else
    ((chk M85 x0 7).bind fun _ =>
    (f_X7_reachFrom N x0 x1 x5 x6 x7 x8 M85).bind fun M106 =>
    f_X7_goThrough_K125 N k33 k42 k52 (f_X7_goThrough_L62 N k33 k42 k52 n) x0 x1 x2 x3 x4 x5 x6 x7 x8 M106)))
set_option maxHeartbeats 4000000 in
set_option maxRecDepth 100000 in
theorem ok_X7_goThrough_L62 {X : JX} (C : Cx X cX7_goThrough RX7 9 none 4 120) (N : Nat) {k33 : Nat → Int32 → Int32 → Int32 → Int32 → Int32 → A_M → Option A_M} (hk33 : ∀ (x0 : Nat) (x1 : Int32) (x2 : Int32) (x3 : Int32) (x4 : Int32) (x5 : Int32) (M : A_M) (M' : A_M), k33 x0 x1 x2 x3 x4 x5 M = some M' → J X 9 33 [(0, .ref x0), (1, .int x1), (2, .int x2), (3, .int x3), (4, .int x4), (5, .int x5)] [] M 0 0 none M') {k42 : Nat → Int32 → Int32 → Int32 → Int32 → Int32 → Int32 → A_M → Option A_M} (hk42 : ∀ (x0 : Nat) (x1 : Int32) (x2 : Int32) (x3 : Int32) (x4 : Int32) (x5 : Int32) (x6 : Int32) (M : A_M) (M' : A_M), k42 x0 x1 x2 x3 x4 x5 x6 M = some M' → J X 9 42 [(0, .ref x0), (1, .int x1), (2, .int x2), (3, .int x3), (4, .int x4), (5, .int x5), (6, .int x6)] [] M 0 0 none M') {k52 : Nat → Int32 → Int32 → Int32 → Int32 → Int32 → Int32 → Int32 → A_M → Option A_M} (hk52 : ∀ (x0 : Nat) (x1 : Int32) (x2 : Int32) (x3 : Int32) (x4 : Int32) (x5 : Int32) (x6 : Int32) (x7 : Int32) (M : A_M) (M' : A_M), k52 x0 x1 x2 x3 x4 x5 x6 x7 M = some M' → J X 9 52 [(0, .ref x0), (1, .int x1), (2, .int x2), (3, .int x3), (4, .int x4), (5, .int x5), (6, .int x6), (7, .int x7)] [] M 0 0 none M') : ∀ (n : Nat) (x0 : Nat) (x1 : Int32) (x2 : Int32) (x3 : Int32) (x4 : Int32) (x5 : Int32) (x6 : Int32) (x7 : Int32) (x8 : Int32) (M : A_M) (M' : A_M), f_X7_goThrough_L62 N k33 k42 k52 n x0 x1 x2 x3 x4 x5 x6 x7 x8 M = some M' → J X 9 62 [(0, .ref x0), (1, .int x1), (2, .int x2), (3, .int x3), (4, .int x4), (5, .int x5), (6, .int x6), (7, .int x7), (8, .int x8)] [] M 0 0 none M' := by
  intro n
  induction n with
  | zero =>
    intro x0 x1 x2 x3 x4 x5 x6 x7 x8 M M' h
    cases h
  | succ n ih =>
    intro x0 x1 x2 x3 x4 x5 x6 x7 x8 M M' h
    rw [f_X7_goThrough_L62] at h
    refine J_iload (pc' := 64) C 8 dX7_goThrough_62 rfl rfl ?_
    refine J_aload_n (pc' := 65) C 0 dX7_goThrough_64 rfl rfl rfl ?_
    obtain ⟨v65, e65, h⟩ := bd h
    refine jg_882 (pc' := 68) C dX7_goThrough_65 rfl (gI_some e65) ?_
    refine J_icmp_ge (tgt := 131) (pc' := 71) C dX7_goThrough_68 (by decide) rfl (fun c68 => ?_) (fun c68 => ?_)
    · rw [if_pos c68] at h
      refine J_sub (lv' := [(0, .ref x0), (1, .int x1), (2, .int x2), (3, .int x3), (4, .int x4), (5, .int x5), (6, .int x6), (7, .int x7)]) [0, 1, 2, 3, 4, 5, 6, 7] rfl ?_
      exact ok_X7_goThrough_K131 C N hk33 hk42 hk52 _ _ _ _ _ _ _ _ _ _ h
    · rw [if_neg c68] at h
      refine J_aload_n (pc' := 72) C 0 dX7_goThrough_71 rfl rfl rfl ?_
      obtain ⟨v72, e72, h⟩ := bd h
      refine jg_891 (pc' := 75) C dX7_goThrough_72 rfl (gR_some e72) ?_
      refine J_aload_n (pc' := 76) C 0 dX7_goThrough_75 rfl rfl rfl ?_
      refine J_iload_n (pc' := 77) C 1 dX7_goThrough_76 rfl rfl rfl ?_
      refine J_iload (pc' := 79) C 5 dX7_goThrough_77 rfl rfl ?_
      refine J_iload (pc' := 81) C 6 dX7_goThrough_79 rfl rfl ?_
      refine J_iload (pc' := 83) C 7 dX7_goThrough_81 rfl rfl ?_
      refine J_iload (pc' := 85) C 8 dX7_goThrough_83 rfl rfl ?_
      obtain ⟨_, q85, h⟩ := bd h
      obtain ⟨v85, M85, e85, h⟩ := bd2 h
      refine J_cV (pc' := 88) (st := [.ref v72]) (st2 := [.int v85, .ref v72]) (cs2 := 0) (sl2 := 0) C 7 rfl rfl q85 (ok_X7_at N e85) mw_X7_at wq_1136 rfl dX7_goThrough_85 rfl rfl (Nat.le_of_ble_eq_true rfl) (by decide) (by decide) rfl rfl rfl (Nat.zero_le _) (Nat.zero_le _) ?_
      obtain ⟨v88, e88, h⟩ := bd h
      refine J_zald (pc' := 89) C dX7_goThrough_88 rfl e88 ?_
      refine J_if_eq (tgt := 125) (pc' := 92) C dX7_goThrough_89 (by decide) rfl (fun c89 => ?_) (fun c89 => ?_)
      · rw [if_pos c89] at h
        refine J_sub (lv' := [(0, .ref x0), (1, .int x1), (2, .int x2), (3, .int x3), (4, .int x4), (5, .int x5), (6, .int x6), (7, .int x7), (8, .int x8)]) [0, 1, 2, 3, 4, 5, 6, 7, 8] rfl ?_
        exact ok_X7_goThrough_K125 C N hk33 hk42 hk52 ih _ _ _ _ _ _ _ _ _ _ _ h
      · rw [if_neg c89] at h
        refine J_iload_n (pc' := 93) C 2 dX7_goThrough_92 rfl rfl rfl ?_
        refine J_if_eq (tgt := 112) (pc' := 96) C dX7_goThrough_93 (by decide) rfl (fun c93 => ?_) (fun c93 => ?_)
        · rw [if_pos c93] at h
          refine J_aload_n (pc' := 113) C 0 dX7_goThrough_112 rfl rfl rfl ?_
          refine J_iload_n (pc' := 114) C 1 dX7_goThrough_113 rfl rfl rfl ?_
          refine J_iload (pc' := 116) C 5 dX7_goThrough_114 rfl rfl ?_
          refine J_iload (pc' := 118) C 6 dX7_goThrough_116 rfl rfl ?_
          refine J_iload (pc' := 120) C 7 dX7_goThrough_118 rfl rfl ?_
          refine J_iload (pc' := 122) C 8 dX7_goThrough_120 rfl rfl ?_
          obtain ⟨_, q122, h⟩ := bd h
          obtain ⟨M122, e122, h⟩ := bd h
          refine J_cV (pc' := 125) (st := []) (st2 := []) (cs2 := 0) (sl2 := 0) C 7 rfl rfl q122 (ok_X7_weigh N e122) mw_X7_weigh wq_1155 rfl dX7_goThrough_122 rfl rfl (Nat.le_of_ble_eq_true rfl) (by decide) (by decide) rfl rfl rfl (Nat.zero_le _) (Nat.zero_le _) ?_
          refine J_sub (lv' := [(0, .ref x0), (1, .int x1), (2, .int x2), (3, .int x3), (4, .int x4), (5, .int x5), (6, .int x6), (7, .int x7), (8, .int x8)]) [0, 1, 2, 3, 4, 5, 6, 7, 8] rfl ?_
          exact ok_X7_goThrough_K125 C N hk33 hk42 hk52 ih _ _ _ _ _ _ _ _ _ _ _ h
        · rw [if_neg c93] at h
          refine J_aload_n (pc' := 97) C 0 dX7_goThrough_96 rfl rfl rfl ?_
          refine J_iload_n (pc' := 98) C 1 dX7_goThrough_97 rfl rfl rfl ?_
          refine J_iload (pc' := 100) C 5 dX7_goThrough_98 rfl rfl ?_
          refine J_iload (pc' := 102) C 6 dX7_goThrough_100 rfl rfl ?_
          refine J_iload (pc' := 104) C 7 dX7_goThrough_102 rfl rfl ?_
          refine J_iload (pc' := 106) C 8 dX7_goThrough_104 rfl rfl ?_
          obtain ⟨_, q106, h⟩ := bd h
          obtain ⟨M106, e106, h⟩ := bd h
          refine J_cV (pc' := 109) (st := []) (st2 := []) (cs2 := 0) (sl2 := 0) C 7 rfl rfl q106 (ok_X7_reachFrom N e106) mw_X7_reachFrom wq_1144 rfl dX7_goThrough_106 rfl rfl (Nat.le_of_ble_eq_true rfl) (by decide) (by decide) rfl rfl rfl (Nat.zero_le _) (Nat.zero_le _) ?_
          refine J_goto (tgt := 125) C dX7_goThrough_109 (by decide) ?_
          refine J_sub (lv' := [(0, .ref x0), (1, .int x1), (2, .int x2), (3, .int x3), (4, .int x4), (5, .int x5), (6, .int x6), (7, .int x7), (8, .int x8)]) [0, 1, 2, 3, 4, 5, 6, 7, 8] rfl ?_
          exact ok_X7_goThrough_K125 C N hk33 hk42 hk52 ih _ _ _ _ _ _ _ _ _ _ _ h
def f_X7_goThrough_L52 (N : Nat) (k33 : Nat → Int32 → Int32 → Int32 → Int32 → Int32 → A_M → Option A_M) (k42 : Nat → Int32 → Int32 → Int32 → Int32 → Int32 → Int32 → A_M → Option A_M) : Nat → Nat → Int32 → Int32 → Int32 → Int32 → Int32 → Int32 → Int32 → A_M → Option A_M
  | 0, _, _, _, _, _, _, _, _, _ => none
  | n + 1, x0, x1, x2, x3, x4, x5, x6, x7, M =>
    if x4 < x7 then
    (f_X7_goThrough_K137 N k33 k42 x0 x1 x2 x3 x4 x5 x6 M)
    else
    (f_X7_goThrough_L62 N k33 k42 (f_X7_goThrough_L52 N k33 k42 n) N x0 x1 x2 x3 x4 x5 x6 x7 (0 : Int32) M)
set_option maxHeartbeats 4000000 in
set_option maxRecDepth 100000 in
theorem ok_X7_goThrough_L52 {X : JX} (C : Cx X cX7_goThrough RX7 9 none 4 120) (N : Nat) {k33 : Nat → Int32 → Int32 → Int32 → Int32 → Int32 → A_M → Option A_M} (hk33 : ∀ (x0 : Nat) (x1 : Int32) (x2 : Int32) (x3 : Int32) (x4 : Int32) (x5 : Int32) (M : A_M) (M' : A_M), k33 x0 x1 x2 x3 x4 x5 M = some M' → J X 9 33 [(0, .ref x0), (1, .int x1), (2, .int x2), (3, .int x3), (4, .int x4), (5, .int x5)] [] M 0 0 none M') {k42 : Nat → Int32 → Int32 → Int32 → Int32 → Int32 → Int32 → A_M → Option A_M} (hk42 : ∀ (x0 : Nat) (x1 : Int32) (x2 : Int32) (x3 : Int32) (x4 : Int32) (x5 : Int32) (x6 : Int32) (M : A_M) (M' : A_M), k42 x0 x1 x2 x3 x4 x5 x6 M = some M' → J X 9 42 [(0, .ref x0), (1, .int x1), (2, .int x2), (3, .int x3), (4, .int x4), (5, .int x5), (6, .int x6)] [] M 0 0 none M') : ∀ (n : Nat) (x0 : Nat) (x1 : Int32) (x2 : Int32) (x3 : Int32) (x4 : Int32) (x5 : Int32) (x6 : Int32) (x7 : Int32) (M : A_M) (M' : A_M), f_X7_goThrough_L52 N k33 k42 n x0 x1 x2 x3 x4 x5 x6 x7 M = some M' → J X 9 52 [(0, .ref x0), (1, .int x1), (2, .int x2), (3, .int x3), (4, .int x4), (5, .int x5), (6, .int x6), (7, .int x7)] [] M 0 0 none M' := by
  intro n
  induction n with
  | zero =>
    intro x0 x1 x2 x3 x4 x5 x6 x7 M M' h
    cases h
  | succ n ih =>
    intro x0 x1 x2 x3 x4 x5 x6 x7 M M' h
    rw [f_X7_goThrough_L52] at h
    refine J_iload (pc' := 54) C 7 dX7_goThrough_52 rfl rfl ?_
    refine J_iload (pc' := 56) C 4 dX7_goThrough_54 rfl rfl ?_
    refine J_icmp_gt (tgt := 137) (pc' := 59) C dX7_goThrough_56 (by decide) rfl (fun c56 => ?_) (fun c56 => ?_)
    · rw [if_pos c56] at h
      refine J_sub (lv' := [(0, .ref x0), (1, .int x1), (2, .int x2), (3, .int x3), (4, .int x4), (5, .int x5), (6, .int x6)]) [0, 1, 2, 3, 4, 5, 6] rfl ?_
      exact ok_X7_goThrough_K137 C N hk33 hk42 _ _ _ _ _ _ _ _ _ h
    · rw [if_neg c56] at h
      refine J_iconst (pc' := 60) (v := (0 : Int32)) C dX7_goThrough_59 rfl (by decide) ?_
      refine J_istore (pc' := 62) (lv' := [(8, .int (0 : Int32)), (0, .ref x0), (1, .int x1), (2, .int x2), (3, .int x3), (4, .int x4), (5, .int x5), (6, .int x6), (7, .int x7)]) C dX7_goThrough_60 rfl (by decide) rfl ?_
      refine J_sub (lv' := [(0, .ref x0), (1, .int x1), (2, .int x2), (3, .int x3), (4, .int x4), (5, .int x5), (6, .int x6), (7, .int x7), (8, .int (0 : Int32))]) [1, 2, 3, 4, 5, 6, 7, 8, 0] rfl ?_
      exact ok_X7_goThrough_L62 C N hk33 hk42 ih N _ _ _ _ _ _ _ _ _ _ _ h
def f_X7_goThrough_L42 (N : Nat) (k33 : Nat → Int32 → Int32 → Int32 → Int32 → Int32 → A_M → Option A_M) : Nat → Nat → Int32 → Int32 → Int32 → Int32 → Int32 → Int32 → A_M → Option A_M
  | 0, _, _, _, _, _, _, _, _ => none
  | n + 1, x0, x1, x2, x3, x4, x5, x6, M =>
    if x4 < x6 then
    (f_X7_goThrough_K143 N k33 x0 x1 x2 x3 x4 x5 M)
    else
    (f_X7_goThrough_L52 N k33 (f_X7_goThrough_L42 N k33 n) N x0 x1 x2 x3 x4 x5 x6 (0 : Int32) M)
set_option maxHeartbeats 4000000 in
set_option maxRecDepth 100000 in
theorem ok_X7_goThrough_L42 {X : JX} (C : Cx X cX7_goThrough RX7 9 none 4 120) (N : Nat) {k33 : Nat → Int32 → Int32 → Int32 → Int32 → Int32 → A_M → Option A_M} (hk33 : ∀ (x0 : Nat) (x1 : Int32) (x2 : Int32) (x3 : Int32) (x4 : Int32) (x5 : Int32) (M : A_M) (M' : A_M), k33 x0 x1 x2 x3 x4 x5 M = some M' → J X 9 33 [(0, .ref x0), (1, .int x1), (2, .int x2), (3, .int x3), (4, .int x4), (5, .int x5)] [] M 0 0 none M') : ∀ (n : Nat) (x0 : Nat) (x1 : Int32) (x2 : Int32) (x3 : Int32) (x4 : Int32) (x5 : Int32) (x6 : Int32) (M : A_M) (M' : A_M), f_X7_goThrough_L42 N k33 n x0 x1 x2 x3 x4 x5 x6 M = some M' → J X 9 42 [(0, .ref x0), (1, .int x1), (2, .int x2), (3, .int x3), (4, .int x4), (5, .int x5), (6, .int x6)] [] M 0 0 none M' := by
  intro n
  induction n with
  | zero =>
    intro x0 x1 x2 x3 x4 x5 x6 M M' h
    cases h
  | succ n ih =>
    intro x0 x1 x2 x3 x4 x5 x6 M M' h
    rw [f_X7_goThrough_L42] at h
    refine J_iload (pc' := 44) C 6 dX7_goThrough_42 rfl rfl ?_
    refine J_iload (pc' := 46) C 4 dX7_goThrough_44 rfl rfl ?_
    refine J_icmp_gt (tgt := 143) (pc' := 49) C dX7_goThrough_46 (by decide) rfl (fun c46 => ?_) (fun c46 => ?_)
    · rw [if_pos c46] at h
      refine J_sub (lv' := [(0, .ref x0), (1, .int x1), (2, .int x2), (3, .int x3), (4, .int x4), (5, .int x5)]) [0, 1, 2, 3, 4, 5] rfl ?_
      exact ok_X7_goThrough_K143 C N hk33 _ _ _ _ _ _ _ _ h
    · rw [if_neg c46] at h
      refine J_iconst (pc' := 50) (v := (0 : Int32)) C dX7_goThrough_49 rfl (by decide) ?_
      refine J_istore (pc' := 52) (lv' := [(7, .int (0 : Int32)), (0, .ref x0), (1, .int x1), (2, .int x2), (3, .int x3), (4, .int x4), (5, .int x5), (6, .int x6)]) C dX7_goThrough_50 rfl (by decide) rfl ?_
      refine J_sub (lv' := [(0, .ref x0), (1, .int x1), (2, .int x2), (3, .int x3), (4, .int x4), (5, .int x5), (6, .int x6), (7, .int (0 : Int32))]) [1, 2, 3, 4, 5, 6, 7, 0] rfl ?_
      exact ok_X7_goThrough_L52 C N hk33 ih N _ _ _ _ _ _ _ _ _ _ h
def f_X7_goThrough_L33 (N : Nat) : Nat → Nat → Int32 → Int32 → Int32 → Int32 → Int32 → A_M → Option A_M
  | 0, _, _, _, _, _, _, _ => none
  | n + 1, x0, x1, x2, x3, x4, x5, M =>
    if x3 < x5 then
    (some M)
    else
    (f_X7_goThrough_L42 N (f_X7_goThrough_L33 N n) N x0 x1 x2 x3 x4 x5 (0 : Int32) M)
set_option maxHeartbeats 4000000 in
set_option maxRecDepth 100000 in
theorem ok_X7_goThrough_L33 {X : JX} (C : Cx X cX7_goThrough RX7 9 none 4 120) (N : Nat) : ∀ (n : Nat) (x0 : Nat) (x1 : Int32) (x2 : Int32) (x3 : Int32) (x4 : Int32) (x5 : Int32) (M : A_M) (M' : A_M), f_X7_goThrough_L33 N n x0 x1 x2 x3 x4 x5 M = some M' → J X 9 33 [(0, .ref x0), (1, .int x1), (2, .int x2), (3, .int x3), (4, .int x4), (5, .int x5)] [] M 0 0 none M' := by
  intro n
  induction n with
  | zero =>
    intro x0 x1 x2 x3 x4 x5 M M' h
    cases h
  | succ n ih =>
    intro x0 x1 x2 x3 x4 x5 M M' h
    rw [f_X7_goThrough_L33] at h
    refine J_iload (pc' := 35) C 5 dX7_goThrough_33 rfl rfl ?_
    refine J_iload_n (pc' := 36) C 3 dX7_goThrough_35 rfl rfl rfl ?_
    refine J_icmp_gt (tgt := 149) (pc' := 39) C dX7_goThrough_36 (by decide) rfl (fun c36 => ?_) (fun c36 => ?_)
    · rw [if_pos c36] at h
      obtain rfl := rt1 h
      exact J_vret C dX7_goThrough_149 (Nat.zero_le _) (Nat.zero_le _)
    · rw [if_neg c36] at h
      refine J_iconst (pc' := 40) (v := (0 : Int32)) C dX7_goThrough_39 rfl (by decide) ?_
      refine J_istore (pc' := 42) (lv' := [(6, .int (0 : Int32)), (0, .ref x0), (1, .int x1), (2, .int x2), (3, .int x3), (4, .int x4), (5, .int x5)]) C dX7_goThrough_40 rfl (by decide) rfl ?_
      refine J_sub (lv' := [(0, .ref x0), (1, .int x1), (2, .int x2), (3, .int x3), (4, .int x4), (5, .int x5), (6, .int (0 : Int32))]) [1, 2, 3, 4, 5, 6, 0] rfl ?_
      exact ok_X7_goThrough_L42 C N ih N _ _ _ _ _ _ _ _ _ h
def f_X7_goThrough_K28 (N : Nat) (x0 : Nat) (x1 : Int32) (x2 : Int32) (x3 : Int32) (s0 : Int32) (M : A_M) : Option A_M :=
  f_X7_goThrough_L33 N N x0 x1 x2 x3 s0 (0 : Int32) M
set_option maxHeartbeats 4000000 in
set_option maxRecDepth 100000 in
theorem ok_X7_goThrough_K28 {X : JX} (C : Cx X cX7_goThrough RX7 9 none 4 120) (N : Nat) : ∀ (x0 : Nat) (x1 : Int32) (x2 : Int32) (x3 : Int32) (s0 : Int32) (M : A_M) (M' : A_M), f_X7_goThrough_K28 N x0 x1 x2 x3 s0 M = some M' → J X 9 28 [(0, .ref x0), (1, .int x1), (2, .int x2), (3, .int x3)] [.int s0] M 0 0 none M' := by
  intro x0 x1 x2 x3 s0 M M' h
  unfold f_X7_goThrough_K28 at h
  refine J_istore (pc' := 30) (lv' := [(4, .int s0), (0, .ref x0), (1, .int x1), (2, .int x2), (3, .int x3)]) C dX7_goThrough_28 rfl (by decide) rfl ?_
  refine J_iconst (pc' := 31) (v := (0 : Int32)) C dX7_goThrough_30 rfl (by decide) ?_
  refine J_istore (pc' := 33) (lv' := [(5, .int (0 : Int32)), (4, .int s0), (0, .ref x0), (1, .int x1), (2, .int x2), (3, .int x3)]) C dX7_goThrough_31 rfl (by decide) rfl ?_
  refine J_sub (lv' := [(0, .ref x0), (1, .int x1), (2, .int x2), (3, .int x3), (4, .int s0), (5, .int (0 : Int32))]) [2, 3, 4, 5, 1, 0] rfl ?_
  exact ok_X7_goThrough_L33 C N N _ _ _ _ _ _ _ _ h
def f_X7_goThrough_K14 (N : Nat) (x0 : Nat) (x1 : Int32) (x2 : Int32) (s0 : Int32) (M : A_M) : Option A_M :=
  (gI M x0 7 14).bind fun v16 =>
  if v16 = 0 then
  (f_X7_goThrough_K28 N x0 x1 x2 s0 (8 : Int32) M)
  else
  (f_X7_goThrough_K28 N x0 x1 x2 s0 (0 : Int32) M)
set_option maxHeartbeats 4000000 in
set_option maxRecDepth 100000 in
theorem ok_X7_goThrough_K14 {X : JX} (C : Cx X cX7_goThrough RX7 9 none 4 120) (N : Nat) : ∀ (x0 : Nat) (x1 : Int32) (x2 : Int32) (s0 : Int32) (M : A_M) (M' : A_M), f_X7_goThrough_K14 N x0 x1 x2 s0 M = some M' → J X 9 14 [(0, .ref x0), (1, .int x1), (2, .int x2)] [.int s0] M 0 0 none M' := by
  intro x0 x1 x2 s0 M M' h
  unfold f_X7_goThrough_K14 at h
  refine J_istore_n (pc' := 15) (lv' := [(3, .int s0), (0, .ref x0), (1, .int x1), (2, .int x2)]) C dX7_goThrough_14 rfl rfl (by decide) rfl ?_
  refine J_aload_n (pc' := 16) C 1 dX7_goThrough_15 rfl rfl rfl ?_
  obtain ⟨v16, e16, h⟩ := bd h
  refine jg_893 (pc' := 19) C dX7_goThrough_16 rfl (gI_some e16) ?_
  refine J_if_eq (tgt := 26) (pc' := 22) C dX7_goThrough_19 (by decide) rfl (fun c19 => ?_) (fun c19 => ?_)
  · rw [if_pos c19] at h
    refine J_bipush (pc' := 28) (v := (8 : Int32)) C dX7_goThrough_26 rfl (by decide) ?_
    refine J_sub (lv' := [(0, .ref x0), (1, .int x1), (2, .int x2), (3, .int s0)]) [1, 2, 3, 0] rfl ?_
    exact ok_X7_goThrough_K28 C N _ _ _ _ _ _ _ h
  · rw [if_neg c19] at h
    refine J_iconst (pc' := 23) (v := (0 : Int32)) C dX7_goThrough_22 rfl (by decide) ?_
    refine J_goto (tgt := 28) C dX7_goThrough_23 (by decide) ?_
    refine J_sub (lv' := [(0, .ref x0), (1, .int x1), (2, .int x2), (3, .int s0)]) [1, 2, 3, 0] rfl ?_
    exact ok_X7_goThrough_K28 C N _ _ _ _ _ _ _ h
def f_X7_goThrough (N : Nat) (a0 : Nat) (a1 : Int32) (a2 : Int32) (M : A_M) : Option A_M :=
  (gI M a0 7 14).bind fun v1 =>
  if v1 = 0 then
  (f_X7_goThrough_K14 N a0 a1 a2 (8 : Int32) M)
  else
  (f_X7_goThrough_K14 N a0 a1 a2 (24 : Int32) M)
set_option maxHeartbeats 4000000 in
set_option maxRecDepth 100000 in
theorem ok_X7_goThrough (N : Nat) {a0 : Nat} {a1 : Int32} {a2 : Int32} {M : A_M} {M' : A_M} (h : f_X7_goThrough N a0 a1 a2 M = some M') : Runs yX7_goThrough cX7_goThrough 9 none 4 120 0 0 [.ref a0, .int a1, .int a2] M none M' := by
  refine Runs.intro (by decide) (Nat.le_of_ble_eq_true rfl) (fun X C hnm hMC hMS => ?_)
  have C : Cx X cX7_goThrough RX7 9 none 4 120 := C
  show J X 9 0 [(0, .ref a0), (1, .int a1), (2, .int a2)] [] M 0 0 none M'
  unfold f_X7_goThrough at h
  refine J_aload_n (pc' := 1) C 0 dX7_goThrough_0 rfl rfl rfl ?_
  obtain ⟨v1, e1, h⟩ := bd h
  refine jg_893 (pc' := 4) C dX7_goThrough_1 rfl (gI_some e1) ?_
  refine J_if_eq (tgt := 12) (pc' := 7) C dX7_goThrough_4 (by decide) rfl (fun c4 => ?_) (fun c4 => ?_)
  · rw [if_pos c4] at h
    refine J_bipush (pc' := 14) (v := (8 : Int32)) C dX7_goThrough_12 rfl (by decide) ?_
    refine J_sub (lv' := [(0, .ref a0), (1, .int a1), (2, .int a2)]) [0, 1, 2] rfl ?_
    exact ok_X7_goThrough_K14 C N _ _ _ _ _ _ h
  · rw [if_neg c4] at h
    refine J_bipush (pc' := 9) (v := (24 : Int32)) C dX7_goThrough_7 rfl (by decide) ?_
    refine J_goto (tgt := 14) C dX7_goThrough_9 (by decide) ?_
    refine J_sub (lv' := [(0, .ref a0), (1, .int a1), (2, .int a2)]) [0, 1, 2] rfl ?_
    exact ok_X7_goThrough_K14 C N _ _ _ _ _ _ h
def f_X7_open (N : Nat) (a0 : Nat) (a1 : Int64) (a3 : Int32) (a4 : Int32) (M : A_M) : Option A_M :=
  (gR M a0 7 18).bind fun v1 =>
  (gI M a0 7 21).bind fun v5 =>
  (stJ M v1 v5 a1).bind fun M9 =>
  (gR M9 a0 7 19).bind fun v11 =>
  (gI M9 a0 7 21).bind fun v15 =>
  (stI M9 v11 v15 a3).bind fun M19 =>
  (gR M19 a0 7 20).bind fun v21 =>
  (gI M19 a0 7 21).bind fun v25 =>
  (stI M19 v21 v25 a4).bind fun M30 =>
  (gI M30 a0 7 21).bind fun v33 =>
  (pV M30 a0 7 21 (.int (v33 + (1 : Int32)))).bind fun M38 =>
  some M38
set_option maxHeartbeats 4000000 in
set_option maxRecDepth 100000 in
theorem ok_X7_open (N : Nat) {a0 : Nat} {a1 : Int64} {a3 : Int32} {a4 : Int32} {M : A_M} {M' : A_M} (h : f_X7_open N a0 a1 a3 a4 M = some M') : Runs yX7_open cX7_open 5 none 0 0 0 0 [.ref a0, .long a1, .int a3, .int a4] M none M' := by
  refine Runs.intro (by decide) (Nat.le_of_ble_eq_true rfl) (fun X C hnm hMC hMS => ?_)
  have C : Cx X cX7_open RX7 5 none 0 0 := C
  show J X 5 0 [(0, .ref a0), (1, .long a1), (3, .int a3), (4, .int a4)] [] M 0 0 none M'
  unfold f_X7_open at h
  refine J_aload_n (pc' := 1) C 0 dX7_open_0 rfl rfl rfl ?_
  obtain ⟨v1, e1, h⟩ := bd h
  refine jg_897 (pc' := 4) C dX7_open_1 rfl (gR_some e1) ?_
  refine J_aload_n (pc' := 5) C 0 dX7_open_4 rfl rfl rfl ?_
  obtain ⟨v5, e5, h⟩ := bd h
  refine jg_900 (pc' := 8) C dX7_open_5 rfl (gI_some e5) ?_
  refine J_lload_n (pc' := 9) C 1 dX7_open_8 rfl rfl rfl ?_
  obtain ⟨M9, e9, h⟩ := bd h
  refine J_last (pc' := 10) C dX7_open_9 rfl e9 ?_
  refine J_aload_n (pc' := 11) C 0 dX7_open_10 rfl rfl rfl ?_
  obtain ⟨v11, e11, h⟩ := bd h
  refine jg_898 (pc' := 14) C dX7_open_11 rfl (gR_some e11) ?_
  refine J_aload_n (pc' := 15) C 0 dX7_open_14 rfl rfl rfl ?_
  obtain ⟨v15, e15, h⟩ := bd h
  refine jg_900 (pc' := 18) C dX7_open_15 rfl (gI_some e15) ?_
  refine J_iload_n (pc' := 19) C 2 dX7_open_18 rfl rfl rfl ?_
  obtain ⟨M19, e19, h⟩ := bd h
  refine J_iast (pc' := 20) C dX7_open_19 rfl e19 ?_
  refine J_aload_n (pc' := 21) C 0 dX7_open_20 rfl rfl rfl ?_
  obtain ⟨v21, e21, h⟩ := bd h
  refine jg_899 (pc' := 24) C dX7_open_21 rfl (gR_some e21) ?_
  refine J_aload_n (pc' := 25) C 0 dX7_open_24 rfl rfl rfl ?_
  obtain ⟨v25, e25, h⟩ := bd h
  refine jg_900 (pc' := 28) C dX7_open_25 rfl (gI_some e25) ?_
  refine J_iload (pc' := 30) C 3 dX7_open_28 rfl rfl ?_
  obtain ⟨M30, e30, h⟩ := bd h
  refine J_iast (pc' := 31) C dX7_open_30 rfl e30 ?_
  refine J_aload_n (pc' := 32) C 0 dX7_open_31 rfl rfl rfl ?_
  refine J_dup (pc' := 33) C dX7_open_32 rfl rfl ?_
  obtain ⟨v33, e33, h⟩ := bd h
  refine jg_900 (pc' := 36) C dX7_open_33 rfl (gI_some e33) ?_
  refine J_iconst (pc' := 37) (v := (1 : Int32)) C dX7_open_36 rfl (by decide) ?_
  refine J_iadd (pc' := 38) C dX7_open_37 rfl ?_
  obtain ⟨M38, e38, h⟩ := bd h
  refine jp_900 (pc' := 41) C (fun _ => ⟨rfl, rfl⟩) dX7_open_38 rfl e38 ?_
  obtain rfl := rt1 h
  exact J_vret C dX7_open_41 (Nat.zero_le _) (Nat.zero_le _)
def f_X7_findTurn_K115 (N : Nat) (k7 : Nat → Int32 → Int32 → A_M → Option A_M) (x0 : Nat) (x1 : Int32) (x2 : Int32) (M : A_M) : Option A_M :=
  k7 x0 x1 (x2 + 1) M
set_option maxHeartbeats 4000000 in
set_option maxRecDepth 100000 in
theorem ok_X7_findTurn_K115 {X : JX} (C : Cx X cX7_findTurn RX7 4 none 1 25) (N : Nat) {k7 : Nat → Int32 → Int32 → A_M → Option A_M} (hk7 : ∀ (x0 : Nat) (x1 : Int32) (x2 : Int32) (M : A_M) (M' : A_M), k7 x0 x1 x2 M = some M' → J X 4 7 [(0, .ref x0), (1, .int x1), (2, .int x2)] [] M 0 0 none M') : ∀ (x0 : Nat) (x1 : Int32) (x2 : Int32) (M : A_M) (M' : A_M), f_X7_findTurn_K115 N k7 x0 x1 x2 M = some M' → J X 4 115 [(0, .ref x0), (1, .int x1), (2, .int x2)] [] M 0 0 none M' := by
  intro x0 x1 x2 M M' h
  unfold f_X7_findTurn_K115 at h
  refine J_iinc (pc' := 118) (lv' := [(2, .int (x2 + 1)), (0, .ref x0), (1, .int x1)]) C 2 dX7_findTurn_115 rfl rfl rfl (by decide) rfl ?_
  refine J_goto (tgt := 7) C dX7_findTurn_118 (by decide) ?_
  refine J_sub (lv' := [(0, .ref x0), (1, .int x1), (2, .int (x2 + 1))]) [1, 2, 0] rfl ?_
  exact hk7 _ _ _ _ _ h
def f_X7_findTurn_K98 (N : Nat) (k7 : Nat → Int32 → Int32 → A_M → Option A_M) (x0 : Nat) (x1 : Int32) (x2 : Int32) (x3 : Int32) (M : A_M) : Option A_M :=
  (gR M x0 7 22).bind fun v99 =>
  (stI M v99 x3 x2).bind fun M104 =>
  (gI M104 x0 7 23).bind fun v107 =>
  (pV M104 x0 7 23 (.int (v107 + (1 : Int32)))).bind fun M112 =>
  f_X7_findTurn_K115 N k7 x0 x1 x2 M112
set_option maxHeartbeats 4000000 in
set_option maxRecDepth 100000 in
theorem ok_X7_findTurn_K98 {X : JX} (C : Cx X cX7_findTurn RX7 4 none 1 25) (N : Nat) {k7 : Nat → Int32 → Int32 → A_M → Option A_M} (hk7 : ∀ (x0 : Nat) (x1 : Int32) (x2 : Int32) (M : A_M) (M' : A_M), k7 x0 x1 x2 M = some M' → J X 4 7 [(0, .ref x0), (1, .int x1), (2, .int x2)] [] M 0 0 none M') : ∀ (x0 : Nat) (x1 : Int32) (x2 : Int32) (x3 : Int32) (M : A_M) (M' : A_M), f_X7_findTurn_K98 N k7 x0 x1 x2 x3 M = some M' → J X 4 98 [(0, .ref x0), (1, .int x1), (2, .int x2), (3, .int x3)] [] M 0 0 none M' := by
  intro x0 x1 x2 x3 M M' h
  unfold f_X7_findTurn_K98 at h
  refine J_aload_n (pc' := 99) C 0 dX7_findTurn_98 rfl rfl rfl ?_
  obtain ⟨v99, e99, h⟩ := bd h
  refine jg_901 (pc' := 102) C dX7_findTurn_99 rfl (gR_some e99) ?_
  refine J_iload_n (pc' := 103) C 3 dX7_findTurn_102 rfl rfl rfl ?_
  refine J_iload_n (pc' := 104) C 2 dX7_findTurn_103 rfl rfl rfl ?_
  obtain ⟨M104, e104, h⟩ := bd h
  refine J_iast (pc' := 105) C dX7_findTurn_104 rfl e104 ?_
  refine J_aload_n (pc' := 106) C 0 dX7_findTurn_105 rfl rfl rfl ?_
  refine J_dup (pc' := 107) C dX7_findTurn_106 rfl rfl ?_
  obtain ⟨v107, e107, h⟩ := bd h
  refine jg_902 (pc' := 110) C dX7_findTurn_107 rfl (gI_some e107) ?_
  refine J_iconst (pc' := 111) (v := (1 : Int32)) C dX7_findTurn_110 rfl (by decide) ?_
  refine J_iadd (pc' := 112) C dX7_findTurn_111 rfl ?_
  obtain ⟨M112, e112, h⟩ := bd h
  refine jp_902 (pc' := 115) C (fun _ => ⟨rfl, rfl⟩) dX7_findTurn_112 rfl e112 ?_
  refine J_sub (lv' := [(0, .ref x0), (1, .int x1), (2, .int x2)]) [0, 1, 2] rfl ?_
  exact ok_X7_findTurn_K115 C N hk7 _ _ _ _ _ h
def f_X7_findTurn_L30 (N : Nat) (k7 : Nat → Int32 → Int32 → A_M → Option A_M) : Nat → Nat → Int32 → Int32 → Int32 → A_M → Option A_M
  | 0, _, _, _, _, _ => none
  | n + 1, x0, x1, x2, x3, M =>
    if x3 ≤ 0 then
    (f_X7_findTurn_K98 N k7 x0 x1 x2 x3 M)
    else
    ((gR M x0 7 18).bind fun v35 =>
    (ldJ M v35 x2).bind fun v39 =>
    (gR M x0 7 19).bind fun v41 =>
    (ldI M v41 x2).bind fun v45 =>
    (gR M x0 7 18).bind fun v47 =>
    (gR M x0 7 22).bind fun v51 =>
    (ldI M v51 (x3 - (1 : Int32))).bind fun v57 =>
    (ldJ M v47 v57).bind fun v58 =>
    (gR M x0 7 19).bind fun v60 =>
    (gR M x0 7 22).bind fun v64 =>
    (ldI M v64 (x3 - (1 : Int32))).bind fun v70 =>
    (ldI M v60 v70).bind fun v71 =>
    bnd2 (f_X7_isAhead N v39 v45 v58 v71 M) fun v72 M72 =>
    if v72 = 0 then
    (f_X7_findTurn_K98 N k7 x0 x1 x2 x3 M72)
    else
    ((gR M72 x0 7 22).bind fun v79 =>
    (gR M72 x0 7 22).bind fun v84 =>
    (ldI M72 v84 (x3 - (1 : Int32))).bind fun v90 =>
    (stI M72 v79 x3 v90).bind fun M91 =>
    f_X7_findTurn_L30 N k7 n x0 x1 x2 (x3 + (-1)) M91))
set_option maxHeartbeats 4000000 in
set_option maxRecDepth 100000 in
theorem ok_X7_findTurn_L30 {X : JX} (C : Cx X cX7_findTurn RX7 4 none 1 25) (N : Nat) {k7 : Nat → Int32 → Int32 → A_M → Option A_M} (hk7 : ∀ (x0 : Nat) (x1 : Int32) (x2 : Int32) (M : A_M) (M' : A_M), k7 x0 x1 x2 M = some M' → J X 4 7 [(0, .ref x0), (1, .int x1), (2, .int x2)] [] M 0 0 none M') : ∀ (n : Nat) (x0 : Nat) (x1 : Int32) (x2 : Int32) (x3 : Int32) (M : A_M) (M' : A_M), f_X7_findTurn_L30 N k7 n x0 x1 x2 x3 M = some M' → J X 4 30 [(0, .ref x0), (1, .int x1), (2, .int x2), (3, .int x3)] [] M 0 0 none M' := by
  intro n
  induction n with
  | zero =>
    intro x0 x1 x2 x3 M M' h
    cases h
  | succ n ih =>
    intro x0 x1 x2 x3 M M' h
    rw [f_X7_findTurn_L30] at h
    refine J_iload_n (pc' := 31) C 3 dX7_findTurn_30 rfl rfl rfl ?_
    refine J_if_le (tgt := 98) (pc' := 34) C dX7_findTurn_31 (by decide) rfl (fun c31 => ?_) (fun c31 => ?_)
    · rw [if_pos c31] at h
      refine J_sub (lv' := [(0, .ref x0), (1, .int x1), (2, .int x2), (3, .int x3)]) [0, 1, 2, 3] rfl ?_
      exact ok_X7_findTurn_K98 C N hk7 _ _ _ _ _ _ h
    · rw [if_neg c31] at h
      refine J_aload_n (pc' := 35) C 0 dX7_findTurn_34 rfl rfl rfl ?_
      obtain ⟨v35, e35, h⟩ := bd h
      refine jg_897 (pc' := 38) C dX7_findTurn_35 rfl (gR_some e35) ?_
      refine J_iload_n (pc' := 39) C 2 dX7_findTurn_38 rfl rfl rfl ?_
      obtain ⟨v39, e39, h⟩ := bd h
      refine J_lald (pc' := 40) C dX7_findTurn_39 rfl e39 ?_
      refine J_aload_n (pc' := 41) C 0 dX7_findTurn_40 rfl rfl rfl ?_
      obtain ⟨v41, e41, h⟩ := bd h
      refine jg_898 (pc' := 44) C dX7_findTurn_41 rfl (gR_some e41) ?_
      refine J_iload_n (pc' := 45) C 2 dX7_findTurn_44 rfl rfl rfl ?_
      obtain ⟨v45, e45, h⟩ := bd h
      refine J_iald (pc' := 46) C dX7_findTurn_45 rfl e45 ?_
      refine J_aload_n (pc' := 47) C 0 dX7_findTurn_46 rfl rfl rfl ?_
      obtain ⟨v47, e47, h⟩ := bd h
      refine jg_897 (pc' := 50) C dX7_findTurn_47 rfl (gR_some e47) ?_
      refine J_aload_n (pc' := 51) C 0 dX7_findTurn_50 rfl rfl rfl ?_
      obtain ⟨v51, e51, h⟩ := bd h
      refine jg_901 (pc' := 54) C dX7_findTurn_51 rfl (gR_some e51) ?_
      refine J_iload_n (pc' := 55) C 3 dX7_findTurn_54 rfl rfl rfl ?_
      refine J_iconst (pc' := 56) (v := (1 : Int32)) C dX7_findTurn_55 rfl (by decide) ?_
      refine J_isub (pc' := 57) C dX7_findTurn_56 rfl ?_
      obtain ⟨v57, e57, h⟩ := bd h
      refine J_iald (pc' := 58) C dX7_findTurn_57 rfl e57 ?_
      obtain ⟨v58, e58, h⟩ := bd h
      refine J_lald (pc' := 59) C dX7_findTurn_58 rfl e58 ?_
      refine J_aload_n (pc' := 60) C 0 dX7_findTurn_59 rfl rfl rfl ?_
      obtain ⟨v60, e60, h⟩ := bd h
      refine jg_898 (pc' := 63) C dX7_findTurn_60 rfl (gR_some e60) ?_
      refine J_aload_n (pc' := 64) C 0 dX7_findTurn_63 rfl rfl rfl ?_
      obtain ⟨v64, e64, h⟩ := bd h
      refine jg_901 (pc' := 67) C dX7_findTurn_64 rfl (gR_some e64) ?_
      refine J_iload_n (pc' := 68) C 3 dX7_findTurn_67 rfl rfl rfl ?_
      refine J_iconst (pc' := 69) (v := (1 : Int32)) C dX7_findTurn_68 rfl (by decide) ?_
      refine J_isub (pc' := 70) C dX7_findTurn_69 rfl ?_
      obtain ⟨v70, e70, h⟩ := bd h
      refine J_iald (pc' := 71) C dX7_findTurn_70 rfl e70 ?_
      obtain ⟨v71, e71, h⟩ := bd h
      refine J_iald (pc' := 72) C dX7_findTurn_71 rfl e71 ?_
      obtain ⟨v72, M72, e72, h⟩ := bd2 h
      refine J_cS (pc' := 75) (st := []) (st2 := [.int v72]) (cs2 := 0) (sl2 := 0) C (ok_X7_isAhead N e72) mw_X7_isAhead wq_1175 rfl dX7_findTurn_72 rfl rfl (Nat.le_of_ble_eq_true rfl) (by decide) (by decide) rfl rfl rfl (Nat.zero_le _) (Nat.zero_le _) ?_
      refine J_if_eq (tgt := 98) (pc' := 78) C dX7_findTurn_75 (by decide) rfl (fun c75 => ?_) (fun c75 => ?_)
      · rw [if_pos c75] at h
        refine J_sub (lv' := [(0, .ref x0), (1, .int x1), (2, .int x2), (3, .int x3)]) [0, 1, 2, 3] rfl ?_
        exact ok_X7_findTurn_K98 C N hk7 _ _ _ _ _ _ h
      · rw [if_neg c75] at h
        refine J_aload_n (pc' := 79) C 0 dX7_findTurn_78 rfl rfl rfl ?_
        obtain ⟨v79, e79, h⟩ := bd h
        refine jg_901 (pc' := 82) C dX7_findTurn_79 rfl (gR_some e79) ?_
        refine J_iload_n (pc' := 83) C 3 dX7_findTurn_82 rfl rfl rfl ?_
        refine J_aload_n (pc' := 84) C 0 dX7_findTurn_83 rfl rfl rfl ?_
        obtain ⟨v84, e84, h⟩ := bd h
        refine jg_901 (pc' := 87) C dX7_findTurn_84 rfl (gR_some e84) ?_
        refine J_iload_n (pc' := 88) C 3 dX7_findTurn_87 rfl rfl rfl ?_
        refine J_iconst (pc' := 89) (v := (1 : Int32)) C dX7_findTurn_88 rfl (by decide) ?_
        refine J_isub (pc' := 90) C dX7_findTurn_89 rfl ?_
        obtain ⟨v90, e90, h⟩ := bd h
        refine J_iald (pc' := 91) C dX7_findTurn_90 rfl e90 ?_
        obtain ⟨M91, e91, h⟩ := bd h
        refine J_iast (pc' := 92) C dX7_findTurn_91 rfl e91 ?_
        refine J_iinc (pc' := 95) (lv' := [(3, .int (x3 + (-1))), (0, .ref x0), (1, .int x1), (2, .int x2)]) C 3 dX7_findTurn_92 rfl rfl rfl (by decide) rfl ?_
        refine J_goto (tgt := 30) C dX7_findTurn_95 (by decide) ?_
        refine J_sub (lv' := [(0, .ref x0), (1, .int x1), (2, .int x2), (3, .int (x3 + (-1)))]) [1, 2, 3, 0] rfl ?_
        exact ih _ _ _ _ _ _ h
def f_X7_findTurn_L7 (N : Nat) : Nat → Nat → Int32 → Int32 → A_M → Option A_M
  | 0, _, _, _, _ => none
  | n + 1, x0, x1, x2, M =>
    (gI M x0 7 21).bind fun v9 =>
    if v9 ≤ x2 then
    (some M)
    else
    ((gR M x0 7 20).bind fun v16 =>
    (ldI M v16 x2).bind fun v20 =>
    if v20 = x1 then
    ((gI M x0 7 23).bind fun v26 =>
    f_X7_findTurn_L30 N (f_X7_findTurn_L7 N n) N x0 x1 x2 v26 M)
    else
    (f_X7_findTurn_K115 N (f_X7_findTurn_L7 N n) x0 x1 x2 M))
set_option maxHeartbeats 4000000 in
set_option maxRecDepth 100000 in
theorem ok_X7_findTurn_L7 {X : JX} (C : Cx X cX7_findTurn RX7 4 none 1 25) (N : Nat) : ∀ (n : Nat) (x0 : Nat) (x1 : Int32) (x2 : Int32) (M : A_M) (M' : A_M), f_X7_findTurn_L7 N n x0 x1 x2 M = some M' → J X 4 7 [(0, .ref x0), (1, .int x1), (2, .int x2)] [] M 0 0 none M' := by
  intro n
  induction n with
  | zero =>
    intro x0 x1 x2 M M' h
    cases h
  | succ n ih =>
    intro x0 x1 x2 M M' h
    rw [f_X7_findTurn_L7] at h
    refine J_iload_n (pc' := 8) C 2 dX7_findTurn_7 rfl rfl rfl ?_
    refine J_aload_n (pc' := 9) C 0 dX7_findTurn_8 rfl rfl rfl ?_
    obtain ⟨v9, e9, h⟩ := bd h
    refine jg_900 (pc' := 12) C dX7_findTurn_9 rfl (gI_some e9) ?_
    refine J_icmp_ge (tgt := 121) (pc' := 15) C dX7_findTurn_12 (by decide) rfl (fun c12 => ?_) (fun c12 => ?_)
    · rw [if_pos c12] at h
      obtain rfl := rt1 h
      exact J_vret C dX7_findTurn_121 (Nat.zero_le _) (Nat.zero_le _)
    · rw [if_neg c12] at h
      refine J_aload_n (pc' := 16) C 0 dX7_findTurn_15 rfl rfl rfl ?_
      obtain ⟨v16, e16, h⟩ := bd h
      refine jg_899 (pc' := 19) C dX7_findTurn_16 rfl (gR_some e16) ?_
      refine J_iload_n (pc' := 20) C 2 dX7_findTurn_19 rfl rfl rfl ?_
      obtain ⟨v20, e20, h⟩ := bd h
      refine J_iald (pc' := 21) C dX7_findTurn_20 rfl e20 ?_
      refine J_iload_n (pc' := 22) C 1 dX7_findTurn_21 rfl rfl rfl ?_
      refine J_icmp_ne (tgt := 115) (pc' := 25) C dX7_findTurn_22 (by decide) rfl (fun c22 => ?_) (fun c22 => ?_)
      · rw [if_neg c22] at h
        refine J_sub (lv' := [(0, .ref x0), (1, .int x1), (2, .int x2)]) [0, 1, 2] rfl ?_
        exact ok_X7_findTurn_K115 C N ih _ _ _ _ _ h
      · rw [if_pos c22] at h
        refine J_aload_n (pc' := 26) C 0 dX7_findTurn_25 rfl rfl rfl ?_
        obtain ⟨v26, e26, h⟩ := bd h
        refine jg_902 (pc' := 29) C dX7_findTurn_26 rfl (gI_some e26) ?_
        refine J_istore_n (pc' := 30) (lv' := [(3, .int v26), (0, .ref x0), (1, .int x1), (2, .int x2)]) C dX7_findTurn_29 rfl rfl (by decide) rfl ?_
        refine J_sub (lv' := [(0, .ref x0), (1, .int x1), (2, .int x2), (3, .int v26)]) [1, 2, 3, 0] rfl ?_
        exact ok_X7_findTurn_L30 C N ih N _ _ _ _ _ _ h
def f_X7_findTurn (N : Nat) (a0 : Nat) (a1 : Int32) (M : A_M) : Option A_M :=
  (pV M a0 7 23 (.int (0 : Int32))).bind fun M2 =>
  f_X7_findTurn_L7 N N a0 a1 (0 : Int32) M2
set_option maxHeartbeats 4000000 in
set_option maxRecDepth 100000 in
theorem ok_X7_findTurn (N : Nat) {a0 : Nat} {a1 : Int32} {M : A_M} {M' : A_M} (h : f_X7_findTurn N a0 a1 M = some M') : Runs yX7_findTurn cX7_findTurn 4 none 1 25 0 0 [.ref a0, .int a1] M none M' := by
  refine Runs.intro (by decide) (Nat.le_of_ble_eq_true rfl) (fun X C hnm hMC hMS => ?_)
  have C : Cx X cX7_findTurn RX7 4 none 1 25 := C
  show J X 4 0 [(0, .ref a0), (1, .int a1)] [] M 0 0 none M'
  unfold f_X7_findTurn at h
  refine J_aload_n (pc' := 1) C 0 dX7_findTurn_0 rfl rfl rfl ?_
  refine J_iconst (pc' := 2) (v := (0 : Int32)) C dX7_findTurn_1 rfl (by decide) ?_
  obtain ⟨M2, e2, h⟩ := bd h
  refine jp_902 (pc' := 5) C (fun _ => ⟨rfl, rfl⟩) dX7_findTurn_2 rfl e2 ?_
  refine J_iconst (pc' := 6) (v := (0 : Int32)) C dX7_findTurn_5 rfl (by decide) ?_
  refine J_istore_n (pc' := 7) (lv' := [(2, .int (0 : Int32)), (0, .ref a0), (1, .int a1)]) C dX7_findTurn_6 rfl rfl (by decide) rfl ?_
  refine J_sub (lv' := [(0, .ref a0), (1, .int a1), (2, .int (0 : Int32))]) [1, 2, 0] rfl ?_
  exact ok_X7_findTurn_L7 C N N _ _ _ _ _ h
def f_X7_choose_K120 (N : Nat) (k25 : Nat → Int32 → Int32 → Int32 → Int32 → Int32 → Int32 → Int32 → A_M → Option A_M) (x0 : Nat) (x1 : Int32) (x2 : Int32) (x3 : Int32) (x4 : Int32) (x5 : Int32) (x6 : Int32) (x7 : Int32) (M : A_M) : Option A_M :=
  k25 x0 x1 x2 x3 x4 x5 x6 (x7 + (-1)) M
set_option maxHeartbeats 4000000 in
set_option maxRecDepth 100000 in
theorem ok_X7_choose_K120 {X : JX} (C : Cx X cX7_choose RX7 10 none 3 86) (N : Nat) {k25 : Nat → Int32 → Int32 → Int32 → Int32 → Int32 → Int32 → Int32 → A_M → Option A_M} (hk25 : ∀ (x0 : Nat) (x1 : Int32) (x2 : Int32) (x3 : Int32) (x4 : Int32) (x5 : Int32) (x6 : Int32) (x7 : Int32) (M : A_M) (M' : A_M), k25 x0 x1 x2 x3 x4 x5 x6 x7 M = some M' → J X 10 25 [(0, .ref x0), (1, .int x1), (2, .int x2), (3, .int x3), (4, .int x4), (5, .int x5), (6, .int x6), (7, .int x7)] [] M 0 0 none M') : ∀ (x0 : Nat) (x1 : Int32) (x2 : Int32) (x3 : Int32) (x4 : Int32) (x5 : Int32) (x6 : Int32) (x7 : Int32) (M : A_M) (M' : A_M), f_X7_choose_K120 N k25 x0 x1 x2 x3 x4 x5 x6 x7 M = some M' → J X 10 120 [(0, .ref x0), (1, .int x1), (2, .int x2), (3, .int x3), (4, .int x4), (5, .int x5), (6, .int x6), (7, .int x7)] [] M 0 0 none M' := by
  intro x0 x1 x2 x3 x4 x5 x6 x7 M M' h
  unfold f_X7_choose_K120 at h
  refine J_iinc (pc' := 123) (lv' := [(7, .int (x7 + (-1))), (0, .ref x0), (1, .int x1), (2, .int x2), (3, .int x3), (4, .int x4), (5, .int x5), (6, .int x6)]) C 7 dX7_choose_120 rfl rfl rfl (by decide) rfl ?_
  refine J_goto (tgt := 25) C dX7_choose_123 (by decide) ?_
  refine J_sub (lv' := [(0, .ref x0), (1, .int x1), (2, .int x2), (3, .int x3), (4, .int x4), (5, .int x5), (6, .int x6), (7, .int (x7 + (-1)))]) [1, 2, 3, 4, 5, 6, 7, 0] rfl ?_
  exact hk25 _ _ _ _ _ _ _ _ _ _ h
def f_X7_choose_L59 (N : Nat) (k25 : Nat → Int32 → Int32 → Int32 → Int32 → Int32 → Int32 → Int32 → A_M → Option A_M) : Nat → Nat → Int32 → Int32 → Int32 → Int32 → Int32 → Int32 → Int32 → Int32 → Int32 → A_M → Option A_M
  | 0, _, _, _, _, _, _, _, _, _, _, _ => none
  | n + 1, x0, x1, x2, x3, x4, x5, x6, x7, x8, x9, M =>
    if x8 < x9 then
    (f_X7_choose_K120 N k25 x0 x1 x2 x3 x4 x5 x6 x7 M)
    else
    ((chk M x0 7).bind fun _ =>
    bnd2 (f_X7_costOf N x0 x1 x2 x3 x4 x5 x7 x9 M) fun v78 M78 =>
    (gR M78 x0 7 11).bind fun v82 =>
    (chk M78 x0 7).bind fun _ =>
    bnd2 (f_X7_at N x0 x1 x2 x3 x4 x5 M78) fun v93 M93 =>
    (ldJ M93 v82 v93).bind fun v96 =>
    if (lg_cmp v78 v96) = 0 then
    ((pV M93 x0 7 25 (.int x7)).bind fun M104 =>
    (pV M104 x0 7 26 (.int x9)).bind fun M110 =>
    some M110)
    else
    (f_X7_choose_L59 N k25 n x0 x1 x2 x3 x4 x5 x6 x7 x8 (x9 + 1) M93))
set_option maxHeartbeats 4000000 in
set_option maxRecDepth 100000 in
theorem ok_X7_choose_L59 {X : JX} (C : Cx X cX7_choose RX7 10 none 3 86) (N : Nat) {k25 : Nat → Int32 → Int32 → Int32 → Int32 → Int32 → Int32 → Int32 → A_M → Option A_M} (hk25 : ∀ (x0 : Nat) (x1 : Int32) (x2 : Int32) (x3 : Int32) (x4 : Int32) (x5 : Int32) (x6 : Int32) (x7 : Int32) (M : A_M) (M' : A_M), k25 x0 x1 x2 x3 x4 x5 x6 x7 M = some M' → J X 10 25 [(0, .ref x0), (1, .int x1), (2, .int x2), (3, .int x3), (4, .int x4), (5, .int x5), (6, .int x6), (7, .int x7)] [] M 0 0 none M') : ∀ (n : Nat) (x0 : Nat) (x1 : Int32) (x2 : Int32) (x3 : Int32) (x4 : Int32) (x5 : Int32) (x6 : Int32) (x7 : Int32) (x8 : Int32) (x9 : Int32) (M : A_M) (M' : A_M), f_X7_choose_L59 N k25 n x0 x1 x2 x3 x4 x5 x6 x7 x8 x9 M = some M' → J X 10 59 [(0, .ref x0), (1, .int x1), (2, .int x2), (3, .int x3), (4, .int x4), (5, .int x5), (6, .int x6), (7, .int x7), (8, .int x8), (9, .int x9)] [] M 0 0 none M' := by
  intro n
  induction n with
  | zero =>
    intro x0 x1 x2 x3 x4 x5 x6 x7 x8 x9 M M' h
    cases h
  | succ n ih =>
    intro x0 x1 x2 x3 x4 x5 x6 x7 x8 x9 M M' h
    rw [f_X7_choose_L59] at h
    refine J_iload (pc' := 61) C 9 dX7_choose_59 rfl rfl ?_
    refine J_iload (pc' := 63) C 8 dX7_choose_61 rfl rfl ?_
    refine J_icmp_gt (tgt := 120) (pc' := 66) C dX7_choose_63 (by decide) rfl (fun c63 => ?_) (fun c63 => ?_)
    · rw [if_pos c63] at h
      refine J_sub (lv' := [(0, .ref x0), (1, .int x1), (2, .int x2), (3, .int x3), (4, .int x4), (5, .int x5), (6, .int x6), (7, .int x7)]) [0, 1, 2, 3, 4, 5, 6, 7] rfl ?_
      exact ok_X7_choose_K120 C N hk25 _ _ _ _ _ _ _ _ _ _ h
    · rw [if_neg c63] at h
      refine J_aload_n (pc' := 67) C 0 dX7_choose_66 rfl rfl rfl ?_
      refine J_iload_n (pc' := 68) C 1 dX7_choose_67 rfl rfl rfl ?_
      refine J_iload_n (pc' := 69) C 2 dX7_choose_68 rfl rfl rfl ?_
      refine J_iload_n (pc' := 70) C 3 dX7_choose_69 rfl rfl rfl ?_
      refine J_iload (pc' := 72) C 4 dX7_choose_70 rfl rfl ?_
      refine J_iload (pc' := 74) C 5 dX7_choose_72 rfl rfl ?_
      refine J_iload (pc' := 76) C 7 dX7_choose_74 rfl rfl ?_
      refine J_iload (pc' := 78) C 9 dX7_choose_76 rfl rfl ?_
      obtain ⟨_, q78, h⟩ := bd h
      obtain ⟨v78, M78, e78, h⟩ := bd2 h
      refine J_cV (pc' := 81) (st := []) (st2 := [.long v78]) (cs2 := 0) (sl2 := 0) C 7 rfl rfl q78 (ok_X7_costOf N e78) mw_X7_costOf wq_1159 rfl dX7_choose_78 rfl rfl (Nat.le_of_ble_eq_true rfl) (by decide) (by decide) rfl rfl rfl (Nat.zero_le _) (Nat.zero_le _) ?_
      refine J_aload_n (pc' := 82) C 0 dX7_choose_81 rfl rfl rfl ?_
      obtain ⟨v82, e82, h⟩ := bd h
      refine jg_890 (pc' := 85) C dX7_choose_82 rfl (gR_some e82) ?_
      refine J_aload_n (pc' := 86) C 0 dX7_choose_85 rfl rfl rfl ?_
      refine J_iload_n (pc' := 87) C 1 dX7_choose_86 rfl rfl rfl ?_
      refine J_iload_n (pc' := 88) C 2 dX7_choose_87 rfl rfl rfl ?_
      refine J_iload_n (pc' := 89) C 3 dX7_choose_88 rfl rfl rfl ?_
      refine J_iload (pc' := 91) C 4 dX7_choose_89 rfl rfl ?_
      refine J_iload (pc' := 93) C 5 dX7_choose_91 rfl rfl ?_
      obtain ⟨_, q93, h⟩ := bd h
      obtain ⟨v93, M93, e93, h⟩ := bd2 h
      refine J_cV (pc' := 96) (st := [.ref v82, .long v78]) (st2 := [.int v93, .ref v82, .long v78]) (cs2 := 0) (sl2 := 0) C 7 rfl rfl q93 (ok_X7_at N e93) mw_X7_at wq_1136 rfl dX7_choose_93 rfl rfl (Nat.le_of_ble_eq_true rfl) (by decide) (by decide) rfl rfl rfl (Nat.zero_le _) (Nat.zero_le _) ?_
      obtain ⟨v96, e96, h⟩ := bd h
      refine J_lald (pc' := 97) C dX7_choose_96 rfl e96 ?_
      refine J_lcmp (pc' := 98) C dX7_choose_97 rfl ?_
      refine J_if_ne (tgt := 114) (pc' := 101) C dX7_choose_98 (by decide) rfl (fun c98 => ?_) (fun c98 => ?_)
      · rw [if_neg c98] at h
        refine J_iinc (pc' := 117) (lv' := [(9, .int (x9 + 1)), (0, .ref x0), (1, .int x1), (2, .int x2), (3, .int x3), (4, .int x4), (5, .int x5), (6, .int x6), (7, .int x7), (8, .int x8)]) C 9 dX7_choose_114 rfl rfl rfl (by decide) rfl ?_
        refine J_goto (tgt := 59) C dX7_choose_117 (by decide) ?_
        refine J_sub (lv' := [(0, .ref x0), (1, .int x1), (2, .int x2), (3, .int x3), (4, .int x4), (5, .int x5), (6, .int x6), (7, .int x7), (8, .int x8), (9, .int (x9 + 1))]) [1, 2, 3, 4, 5, 6, 7, 8, 9, 0] rfl ?_
        exact ih _ _ _ _ _ _ _ _ _ _ _ _ h
      · rw [if_pos c98] at h
        refine J_aload_n (pc' := 102) C 0 dX7_choose_101 rfl rfl rfl ?_
        refine J_iload (pc' := 104) C 7 dX7_choose_102 rfl rfl ?_
        obtain ⟨M104, e104, h⟩ := bd h
        refine jp_904 (pc' := 107) C (fun _ => ⟨rfl, rfl⟩) dX7_choose_104 rfl e104 ?_
        refine J_aload_n (pc' := 108) C 0 dX7_choose_107 rfl rfl rfl ?_
        refine J_iload (pc' := 110) C 9 dX7_choose_108 rfl rfl ?_
        obtain ⟨M110, e110, h⟩ := bd h
        refine jp_905 (pc' := 113) C (fun _ => ⟨rfl, rfl⟩) dX7_choose_110 rfl e110 ?_
        obtain rfl := rt1 h
        exact J_vret C dX7_choose_113 (Nat.zero_le _) (Nat.zero_le _)
def f_X7_choose_K54 (N : Nat) (k25 : Nat → Int32 → Int32 → Int32 → Int32 → Int32 → Int32 → Int32 → A_M → Option A_M) (x0 : Nat) (x1 : Int32) (x2 : Int32) (x3 : Int32) (x4 : Int32) (x5 : Int32) (x6 : Int32) (x7 : Int32) (s0 : Int32) (M : A_M) : Option A_M :=
  f_X7_choose_L59 N k25 N x0 x1 x2 x3 x4 x5 x6 x7 s0 (0 : Int32) M
set_option maxHeartbeats 4000000 in
set_option maxRecDepth 100000 in
theorem ok_X7_choose_K54 {X : JX} (C : Cx X cX7_choose RX7 10 none 3 86) (N : Nat) {k25 : Nat → Int32 → Int32 → Int32 → Int32 → Int32 → Int32 → Int32 → A_M → Option A_M} (hk25 : ∀ (x0 : Nat) (x1 : Int32) (x2 : Int32) (x3 : Int32) (x4 : Int32) (x5 : Int32) (x6 : Int32) (x7 : Int32) (M : A_M) (M' : A_M), k25 x0 x1 x2 x3 x4 x5 x6 x7 M = some M' → J X 10 25 [(0, .ref x0), (1, .int x1), (2, .int x2), (3, .int x3), (4, .int x4), (5, .int x5), (6, .int x6), (7, .int x7)] [] M 0 0 none M') : ∀ (x0 : Nat) (x1 : Int32) (x2 : Int32) (x3 : Int32) (x4 : Int32) (x5 : Int32) (x6 : Int32) (x7 : Int32) (s0 : Int32) (M : A_M) (M' : A_M), f_X7_choose_K54 N k25 x0 x1 x2 x3 x4 x5 x6 x7 s0 M = some M' → J X 10 54 [(0, .ref x0), (1, .int x1), (2, .int x2), (3, .int x3), (4, .int x4), (5, .int x5), (6, .int x6), (7, .int x7)] [.int s0] M 0 0 none M' := by
  intro x0 x1 x2 x3 x4 x5 x6 x7 s0 M M' h
  unfold f_X7_choose_K54 at h
  refine J_istore (pc' := 56) (lv' := [(8, .int s0), (0, .ref x0), (1, .int x1), (2, .int x2), (3, .int x3), (4, .int x4), (5, .int x5), (6, .int x6), (7, .int x7)]) C dX7_choose_54 rfl (by decide) rfl ?_
  refine J_iconst (pc' := 57) (v := (0 : Int32)) C dX7_choose_56 rfl (by decide) ?_
  refine J_istore (pc' := 59) (lv' := [(9, .int (0 : Int32)), (8, .int s0), (0, .ref x0), (1, .int x1), (2, .int x2), (3, .int x3), (4, .int x4), (5, .int x5), (6, .int x6), (7, .int x7)]) C dX7_choose_57 rfl (by decide) rfl ?_
  refine J_sub (lv' := [(0, .ref x0), (1, .int x1), (2, .int x2), (3, .int x3), (4, .int x4), (5, .int x5), (6, .int x6), (7, .int x7), (8, .int s0), (9, .int (0 : Int32))]) [2, 3, 4, 5, 6, 7, 8, 9, 1, 0] rfl ?_
  exact ok_X7_choose_L59 C N hk25 N _ _ _ _ _ _ _ _ _ _ _ _ h
def f_X7_choose_L25 (N : Nat) : Nat → Nat → Int32 → Int32 → Int32 → Int32 → Int32 → Int32 → Int32 → A_M → Option A_M
  | 0, _, _, _, _, _, _, _, _, _ => none
  | n + 1, x0, x1, x2, x3, x4, x5, x6, x7, M =>
    if x7 < 0 then
    (some M)
    else
    ((gI M x0 7 16).bind fun v32 =>
    if x1 = v32 then
    (f_X7_choose_K54 N (f_X7_choose_L25 N n) x0 x1 x2 x3 x4 x5 x6 x7 (0 : Int32) M)
    else
    (bnd2 (f_X7_least N (x2 - x7) (x6 - x7) M) fun v51 M51 =>
    f_X7_choose_K54 N (f_X7_choose_L25 N n) x0 x1 x2 x3 x4 x5 x6 x7 v51 M51))
set_option maxHeartbeats 4000000 in
set_option maxRecDepth 100000 in
theorem ok_X7_choose_L25 {X : JX} (C : Cx X cX7_choose RX7 10 none 3 86) (N : Nat) : ∀ (n : Nat) (x0 : Nat) (x1 : Int32) (x2 : Int32) (x3 : Int32) (x4 : Int32) (x5 : Int32) (x6 : Int32) (x7 : Int32) (M : A_M) (M' : A_M), f_X7_choose_L25 N n x0 x1 x2 x3 x4 x5 x6 x7 M = some M' → J X 10 25 [(0, .ref x0), (1, .int x1), (2, .int x2), (3, .int x3), (4, .int x4), (5, .int x5), (6, .int x6), (7, .int x7)] [] M 0 0 none M' := by
  intro n
  induction n with
  | zero =>
    intro x0 x1 x2 x3 x4 x5 x6 x7 M M' h
    cases h
  | succ n ih =>
    intro x0 x1 x2 x3 x4 x5 x6 x7 M M' h
    rw [f_X7_choose_L25] at h
    refine J_iload (pc' := 27) C 7 dX7_choose_25 rfl rfl ?_
    refine J_if_lt (tgt := 126) (pc' := 30) C dX7_choose_27 (by decide) rfl (fun c27 => ?_) (fun c27 => ?_)
    · rw [if_pos c27] at h
      obtain rfl := rt1 h
      exact J_vret C dX7_choose_126 (Nat.zero_le _) (Nat.zero_le _)
    · rw [if_neg c27] at h
      refine J_iload_n (pc' := 31) C 1 dX7_choose_30 rfl rfl rfl ?_
      refine J_aload_n (pc' := 32) C 0 dX7_choose_31 rfl rfl rfl ?_
      obtain ⟨v32, e32, h⟩ := bd h
      refine jg_895 (pc' := 35) C dX7_choose_32 rfl (gI_some e32) ?_
      refine J_icmp_ne (tgt := 42) (pc' := 38) C dX7_choose_35 (by decide) rfl (fun c35 => ?_) (fun c35 => ?_)
      · rw [if_neg c35] at h
        refine J_iload_n (pc' := 43) C 2 dX7_choose_42 rfl rfl rfl ?_
        refine J_iload (pc' := 45) C 7 dX7_choose_43 rfl rfl ?_
        refine J_isub (pc' := 46) C dX7_choose_45 rfl ?_
        refine J_iload (pc' := 48) C 6 dX7_choose_46 rfl rfl ?_
        refine J_iload (pc' := 50) C 7 dX7_choose_48 rfl rfl ?_
        refine J_isub (pc' := 51) C dX7_choose_50 rfl ?_
        obtain ⟨v51, M51, e51, h⟩ := bd2 h
        refine J_cS (pc' := 54) (st := []) (st2 := [.int v51]) (cs2 := 0) (sl2 := 0) C (ok_X7_least N e51) mw_X7_least wq_1148 rfl dX7_choose_51 rfl rfl (Nat.le_of_ble_eq_true rfl) (by decide) (by decide) rfl rfl rfl (Nat.zero_le _) (Nat.zero_le _) ?_
        refine J_sub (lv' := [(0, .ref x0), (1, .int x1), (2, .int x2), (3, .int x3), (4, .int x4), (5, .int x5), (6, .int x6), (7, .int x7)]) [0, 1, 2, 3, 4, 5, 6, 7] rfl ?_
        exact ok_X7_choose_K54 C N ih _ _ _ _ _ _ _ _ _ _ _ h
      · rw [if_pos c35] at h
        refine J_iconst (pc' := 39) (v := (0 : Int32)) C dX7_choose_38 rfl (by decide) ?_
        refine J_goto (tgt := 54) C dX7_choose_39 (by decide) ?_
        refine J_sub (lv' := [(0, .ref x0), (1, .int x1), (2, .int x2), (3, .int x3), (4, .int x4), (5, .int x5), (6, .int x6), (7, .int x7)]) [0, 1, 2, 3, 4, 5, 6, 7] rfl ?_
        exact ok_X7_choose_K54 C N ih _ _ _ _ _ _ _ _ _ _ _ h
def f_X7_choose_K23 (N : Nat) (x0 : Nat) (x1 : Int32) (x2 : Int32) (x3 : Int32) (x4 : Int32) (x5 : Int32) (x6 : Int32) (s0 : Int32) (M : A_M) : Option A_M :=
  f_X7_choose_L25 N N x0 x1 x2 x3 x4 x5 x6 s0 M
set_option maxHeartbeats 4000000 in
set_option maxRecDepth 100000 in
theorem ok_X7_choose_K23 {X : JX} (C : Cx X cX7_choose RX7 10 none 3 86) (N : Nat) : ∀ (x0 : Nat) (x1 : Int32) (x2 : Int32) (x3 : Int32) (x4 : Int32) (x5 : Int32) (x6 : Int32) (s0 : Int32) (M : A_M) (M' : A_M), f_X7_choose_K23 N x0 x1 x2 x3 x4 x5 x6 s0 M = some M' → J X 10 23 [(0, .ref x0), (1, .int x1), (2, .int x2), (3, .int x3), (4, .int x4), (5, .int x5), (6, .int x6)] [.int s0] M 0 0 none M' := by
  intro x0 x1 x2 x3 x4 x5 x6 s0 M M' h
  unfold f_X7_choose_K23 at h
  refine J_istore (pc' := 25) (lv' := [(7, .int s0), (0, .ref x0), (1, .int x1), (2, .int x2), (3, .int x3), (4, .int x4), (5, .int x5), (6, .int x6)]) C dX7_choose_23 rfl (by decide) rfl ?_
  refine J_sub (lv' := [(0, .ref x0), (1, .int x1), (2, .int x2), (3, .int x3), (4, .int x4), (5, .int x5), (6, .int x6), (7, .int s0)]) [1, 2, 3, 4, 5, 6, 7, 0] rfl ?_
  exact ok_X7_choose_L25 C N N _ _ _ _ _ _ _ _ _ _ h
def f_X7_choose (N : Nat) (a0 : Nat) (a1 : Int32) (a2 : Int32) (a3 : Int32) (a4 : Int32) (a5 : Int32) (M : A_M) : Option A_M :=
  (gI M a0 7 3).bind fun v1 =>
  if a1 = 0 then
  (f_X7_choose_K23 N a0 a1 a2 a3 a4 a5 (v1 - a5) (0 : Int32) M)
  else
  (bnd2 (f_X7_least N a2 (v1 - a5) M) fun v20 M20 =>
  f_X7_choose_K23 N a0 a1 a2 a3 a4 a5 (v1 - a5) v20 M20)
set_option maxHeartbeats 4000000 in
set_option maxRecDepth 100000 in
theorem ok_X7_choose (N : Nat) {a0 : Nat} {a1 : Int32} {a2 : Int32} {a3 : Int32} {a4 : Int32} {a5 : Int32} {M : A_M} {M' : A_M} (h : f_X7_choose N a0 a1 a2 a3 a4 a5 M = some M') : Runs yX7_choose cX7_choose 10 none 3 86 0 0 [.ref a0, .int a1, .int a2, .int a3, .int a4, .int a5] M none M' := by
  refine Runs.intro (by decide) (Nat.le_of_ble_eq_true rfl) (fun X C hnm hMC hMS => ?_)
  have C : Cx X cX7_choose RX7 10 none 3 86 := C
  show J X 10 0 [(0, .ref a0), (1, .int a1), (2, .int a2), (3, .int a3), (4, .int a4), (5, .int a5)] [] M 0 0 none M'
  unfold f_X7_choose at h
  refine J_aload_n (pc' := 1) C 0 dX7_choose_0 rfl rfl rfl ?_
  obtain ⟨v1, e1, h⟩ := bd h
  refine jg_882 (pc' := 4) C dX7_choose_1 rfl (gI_some e1) ?_
  refine J_iload (pc' := 6) C 5 dX7_choose_4 rfl rfl ?_
  refine J_isub (pc' := 7) C dX7_choose_6 rfl ?_
  refine J_istore (pc' := 9) (lv' := [(6, .int (v1 - a5)), (0, .ref a0), (1, .int a1), (2, .int a2), (3, .int a3), (4, .int a4), (5, .int a5)]) C dX7_choose_7 rfl (by decide) rfl ?_
  refine J_iload_n (pc' := 10) C 2 dX7_choose_9 rfl rfl rfl ?_
  refine J_if_ne (tgt := 17) (pc' := 13) C dX7_choose_10 (by decide) rfl (fun c10 => ?_) (fun c10 => ?_)
  · rw [if_neg c10] at h
    refine J_iload_n (pc' := 18) C 3 dX7_choose_17 rfl rfl rfl ?_
    refine J_iload (pc' := 20) C 0 dX7_choose_18 rfl rfl ?_
    obtain ⟨v20, M20, e20, h⟩ := bd2 h
    refine J_cS (pc' := 23) (st := []) (st2 := [.int v20]) (cs2 := 0) (sl2 := 0) C (ok_X7_least N e20) mw_X7_least wq_1148 rfl dX7_choose_20 rfl rfl (Nat.le_of_ble_eq_true rfl) (by decide) (by decide) rfl rfl rfl (Nat.zero_le _) (Nat.zero_le _) ?_
    refine J_sub (lv' := [(0, .ref a0), (1, .int a1), (2, .int a2), (3, .int a3), (4, .int a4), (5, .int a5), (6, .int (v1 - a5))]) [1, 2, 3, 4, 5, 6, 0] rfl ?_
    exact ok_X7_choose_K23 C N _ _ _ _ _ _ _ _ _ _ h
  · rw [if_pos c10] at h
    refine J_iconst (pc' := 14) (v := (0 : Int32)) C dX7_choose_13 rfl (by decide) ?_
    refine J_goto (tgt := 23) C dX7_choose_14 (by decide) ?_
    refine J_sub (lv' := [(0, .ref a0), (1, .int a1), (2, .int a2), (3, .int a3), (4, .int a4), (5, .int a5), (6, .int (v1 - a5))]) [1, 2, 3, 4, 5, 6, 0] rfl ?_
    exact ok_X7_choose_K23 C N _ _ _ _ _ _ _ _ _ _ h
