def f_X1_least_b_K120 (N : Nat) (rec : Nat → Int32 → Int32 → Int32 → Int32 → Int32 → A_M → Option (Int64 × A_M)) (x0 : Nat) (x7 : Int32) (x8 : Int64) (M : A_M) : Option (Int64 × A_M) :=
  (gR M x0 1 1).bind fun v121 =>
  (gI M x0 1 7).bind fun v127 =>
  (stI M v121 x7 v127).bind fun M130 =>
  (gR M130 x0 1 0).bind fun v132 =>
  (stJ M130 v132 x7 x8).bind fun M139 =>
  some (x8, M139)
set_option maxHeartbeats 4000000 in
set_option maxRecDepth 100000 in
theorem ok_X1_least_b_K120 {X : JX} {Fr Lr : Nat} (C : Cx X cX1_least RX1 11 (some .long) (Fr + 2) (Lr + 60)) (N : Nat) {rec : Nat → Int32 → Int32 → Int32 → Int32 → Int32 → A_M → Option (Int64 × A_M)} (hrec : ∀ (b0 : Nat) (b1 : Int32) (b2 : Int32) (b3 : Int32) (b4 : Int32) (b5 : Int32) (M : A_M) (r : Int64) (M' : A_M), rec b0 b1 b2 b3 b4 b5 M = some (r, M') → Runs yX1_least cX1_least 11 (some .long) Fr Lr 0 0 [.ref b0, .int b1, .int b2, .int b3, .int b4, .int b5] M (some (.long r)) M') : ∀ (x0 : Nat) (x7 : Int32) (x8 : Int64) (M : A_M) (r : Int64) (M' : A_M), f_X1_least_b_K120 N rec x0 x7 x8 M = some (r, M') → J X 11 120 [(0, .ref x0), (7, .int x7), (8, .long x8)] [] M 0 0 (some (.long r)) M' := by
  intro x0 x7 x8 M r M' h
  unfold f_X1_least_b_K120 at h
  refine J_aload_n (pc' := 121) C 0 dX1_least_120 rfl rfl rfl ?_
  obtain ⟨v121, e121, h⟩ := bd h
  refine jg_328 (pc' := 124) C dX1_least_121 rfl (gR_some e121) ?_
  refine J_iload (pc' := 126) C 1 dX1_least_124 rfl rfl ?_
  refine J_aload_n (pc' := 127) C 0 dX1_least_126 rfl rfl rfl ?_
  obtain ⟨v127, e127, h⟩ := bd h
  refine jg_334 (pc' := 130) C dX1_least_127 rfl (gI_some e127) ?_
  obtain ⟨M130, e130, h⟩ := bd h
  refine J_iast (pc' := 131) C dX1_least_130 rfl e130 ?_
  refine J_aload_n (pc' := 132) C 0 dX1_least_131 rfl rfl rfl ?_
  obtain ⟨v132, e132, h⟩ := bd h
  refine jg_327 (pc' := 135) C dX1_least_132 rfl (gR_some e132) ?_
  refine J_iload (pc' := 137) C 1 dX1_least_135 rfl rfl ?_
  refine J_lload (pc' := 139) C 2 dX1_least_137 rfl rfl ?_
  obtain ⟨M139, e139, h⟩ := bd h
  refine J_last (pc' := 140) C dX1_least_139 rfl e139 ?_
  refine J_lload (pc' := 142) C 2 dX1_least_140 rfl rfl ?_
  obtain ⟨rfl, rfl⟩ := rt2 h
  exact J_lret C dX1_least_142 (Nat.zero_le _) (Nat.zero_le _)
def f_X1_least_b_L88 (N : Nat) (rec : Nat → Int32 → Int32 → Int32 → Int32 → Int32 → A_M → Option (Int64 × A_M)) : Nat → Nat → Int32 → Int32 → Int32 → Int32 → Int32 → Int32 → Int64 → Int32 → A_M → Option (Int64 × A_M)
  | 0, _, _, _, _, _, _, _, _, _, _ => none
  | n + 1, x0, x1, x2, x3, x4, x5, x7, x8, x10, M =>
    if x2 < x10 then
    (f_X1_least_b_K120 N rec x0 x7 x8 M)
    else
    ((chk M x0 1).bind fun _ =>
    bnd2 (f_X1_leastWith N rec x0 x1 x2 x3 x4 x5 x10 M) fun v106 M106 =>
    f_X1_least_b_L88 N rec n x0 x1 x2 x3 x4 x5 x7 (mnJ x8 v106) (x10 + 1) M106)
set_option maxHeartbeats 4000000 in
set_option maxRecDepth 100000 in
theorem ok_X1_least_b_L88 {X : JX} {Fr Lr : Nat} (C : Cx X cX1_least RX1 11 (some .long) (Fr + 2) (Lr + 60)) (N : Nat) {rec : Nat → Int32 → Int32 → Int32 → Int32 → Int32 → A_M → Option (Int64 × A_M)} (hrec : ∀ (b0 : Nat) (b1 : Int32) (b2 : Int32) (b3 : Int32) (b4 : Int32) (b5 : Int32) (M : A_M) (r : Int64) (M' : A_M), rec b0 b1 b2 b3 b4 b5 M = some (r, M') → Runs yX1_least cX1_least 11 (some .long) Fr Lr 0 0 [.ref b0, .int b1, .int b2, .int b3, .int b4, .int b5] M (some (.long r)) M') : ∀ (n : Nat) (x0 : Nat) (x1 : Int32) (x2 : Int32) (x3 : Int32) (x4 : Int32) (x5 : Int32) (x7 : Int32) (x8 : Int64) (x10 : Int32) (M : A_M) (r : Int64) (M' : A_M), f_X1_least_b_L88 N rec n x0 x1 x2 x3 x4 x5 x7 x8 x10 M = some (r, M') → J X 11 88 [(0, .ref x0), (1, .int x1), (2, .int x2), (3, .int x3), (4, .int x4), (5, .int x5), (7, .int x7), (8, .long x8), (10, .int x10)] [] M 0 0 (some (.long r)) M' := by
  intro n
  induction n with
  | zero =>
    intro x0 x1 x2 x3 x4 x5 x7 x8 x10 M r M' h
    cases h
  | succ n ih =>
    intro x0 x1 x2 x3 x4 x5 x7 x8 x10 M r M' h
    rw [f_X1_least_b_L88] at h
    refine J_iload (pc' := 90) C 8 dX1_least_88 rfl rfl ?_
    refine J_iload_n (pc' := 91) C 2 dX1_least_90 rfl rfl rfl ?_
    refine J_icmp_gt (tgt := 120) (pc' := 94) C dX1_least_91 (by decide) rfl (fun c91 => ?_) (fun c91 => ?_)
    · rw [if_pos c91] at h
      refine J_sub (lv' := [(0, .ref x0), (7, .int x7), (8, .long x8)]) [0, 6, 7] rfl ?_
      exact ok_X1_least_b_K120 C N hrec _ _ _ _ _ _ h
    · rw [if_neg c91] at h
      refine J_lload (pc' := 96) C 7 dX1_least_94 rfl rfl ?_
      refine J_aload_n (pc' := 97) C 0 dX1_least_96 rfl rfl rfl ?_
      refine J_iload_n (pc' := 98) C 1 dX1_least_97 rfl rfl rfl ?_
      refine J_iload_n (pc' := 99) C 2 dX1_least_98 rfl rfl rfl ?_
      refine J_iload_n (pc' := 100) C 3 dX1_least_99 rfl rfl rfl ?_
      refine J_iload (pc' := 102) C 4 dX1_least_100 rfl rfl ?_
      refine J_iload (pc' := 104) C 5 dX1_least_102 rfl rfl ?_
      refine J_iload (pc' := 106) C 8 dX1_least_104 rfl rfl ?_
      obtain ⟨_, q106, h⟩ := bd h
      obtain ⟨v106, M106, e106, h⟩ := bd2 h
      refine J_cV (pc' := 109) (st := [.long x8]) (st2 := [.long v106, .long x8]) (cs2 := 0) (sl2 := 0) C 1 rfl rfl q106 (ok_X1_leastWith N hrec e106) mw_X1_leastWith wq_389 rfl dX1_least_106 rfl rfl (Nat.le_of_ble_eq_true rfl) (by omega) (by omega) rfl rfl rfl (Nat.zero_le _) (Nat.zero_le _) ?_
      refine J_minl (pc' := 112) C wq_393 dX1_least_109 rfl (Nat.le_of_ble_eq_true rfl) (by omega) (by omega) (Nat.zero_le _) (Nat.zero_le _) ?_
      refine J_lstore (pc' := 114) (lv' := [(8, .long (mnJ x8 v106)), (0, .ref x0), (1, .int x1), (2, .int x2), (3, .int x3), (4, .int x4), (5, .int x5), (7, .int x7), (10, .int x10)]) C dX1_least_112 rfl (by decide) rfl ?_
      refine J_iinc (pc' := 117) (lv' := [(10, .int (x10 + 1)), (8, .long (mnJ x8 v106)), (0, .ref x0), (1, .int x1), (2, .int x2), (3, .int x3), (4, .int x4), (5, .int x5), (7, .int x7)]) C 8 dX1_least_114 rfl rfl rfl (by decide) rfl ?_
      refine J_goto (tgt := 88) C dX1_least_117 (by decide) ?_
      refine J_sub (lv' := [(0, .ref x0), (1, .int x1), (2, .int x2), (3, .int x3), (4, .int x4), (5, .int x5), (7, .int x7), (8, .long (mnJ x8 v106)), (10, .int (x10 + 1))]) [2, 3, 4, 5, 6, 7, 8, 1, 0] rfl ?_
      exact ih _ _ _ _ _ _ _ _ _ _ _ _ h
def f_X1_least_b_K24 (N : Nat) (rec : Nat → Int32 → Int32 → Int32 → Int32 → Int32 → A_M → Option (Int64 × A_M)) (x0 : Nat) (x1 : Int32) (x2 : Int32) (x3 : Int32) (x4 : Int32) (x5 : Int32) (s0 : Int32) (M : A_M) : Option (Int64 × A_M) :=
  if s0 ≤ x1 then
  (some ((1152921504606846976 : Int64), M))
  else
  (if ((x2 + x3) + x4) = 0 then
  (some ((1152921504606846976 : Int64), M))
  else
  ((chk M x0 1).bind fun _ =>
  bnd2 (f_X1_memoPlace N x0 x1 x2 x3 x4 x5 M) fun v53 M53 =>
  (gR M53 x0 1 1).bind fun v59 =>
  (ldI M53 v59 v53).bind fun v64 =>
  (gI M53 x0 1 7).bind fun v66 =>
  if v64 = v66 then
  ((gR M53 x0 1 0).bind fun v73 =>
  (ldJ M53 v73 v53).bind fun v78 =>
  some (v78, M53))
  else
  (f_X1_least_b_L88 N rec N x0 x1 x2 x3 x4 x5 v53 (1152921504606846976 : Int64) (0 : Int32) M53)))
set_option maxHeartbeats 4000000 in
set_option maxRecDepth 100000 in
theorem ok_X1_least_b_K24 {X : JX} {Fr Lr : Nat} (C : Cx X cX1_least RX1 11 (some .long) (Fr + 2) (Lr + 60)) (N : Nat) {rec : Nat → Int32 → Int32 → Int32 → Int32 → Int32 → A_M → Option (Int64 × A_M)} (hrec : ∀ (b0 : Nat) (b1 : Int32) (b2 : Int32) (b3 : Int32) (b4 : Int32) (b5 : Int32) (M : A_M) (r : Int64) (M' : A_M), rec b0 b1 b2 b3 b4 b5 M = some (r, M') → Runs yX1_least cX1_least 11 (some .long) Fr Lr 0 0 [.ref b0, .int b1, .int b2, .int b3, .int b4, .int b5] M (some (.long r)) M') : ∀ (x0 : Nat) (x1 : Int32) (x2 : Int32) (x3 : Int32) (x4 : Int32) (x5 : Int32) (s0 : Int32) (M : A_M) (r : Int64) (M' : A_M), f_X1_least_b_K24 N rec x0 x1 x2 x3 x4 x5 s0 M = some (r, M') → J X 11 24 [(0, .ref x0), (1, .int x1), (2, .int x2), (3, .int x3), (4, .int x4), (5, .int x5)] [.int s0] M 0 0 (some (.long r)) M' := by
  intro x0 x1 x2 x3 x4 x5 s0 M r M' h
  unfold f_X1_least_b_K24 at h
  refine J_istore (pc' := 26) (lv' := [(6, .int s0), (0, .ref x0), (1, .int x1), (2, .int x2), (3, .int x3), (4, .int x4), (5, .int x5)]) C dX1_least_24 rfl (by decide) rfl ?_
  refine J_iload_n (pc' := 27) C 2 dX1_least_26 rfl rfl rfl ?_
  refine J_iload (pc' := 29) C 0 dX1_least_27 rfl rfl ?_
  refine J_icmp_ge (tgt := 41) (pc' := 32) C dX1_least_29 (by decide) rfl (fun c29 => ?_) (fun c29 => ?_)
  · rw [if_pos c29] at h
    refine J_ldc2 (pc' := 44) C dX1_least_41 rfl wq_384 ?_
    obtain ⟨rfl, rfl⟩ := rt2 h
    exact J_lret C dX1_least_44 (Nat.zero_le _) (Nat.zero_le _)
  · rw [if_neg c29] at h
    refine J_iload_n (pc' := 33) C 3 dX1_least_32 rfl rfl rfl ?_
    refine J_iload_n (pc' := 34) C 4 dX1_least_33 rfl rfl rfl ?_
    refine J_iadd (pc' := 35) C dX1_least_34 rfl ?_
    refine J_iload (pc' := 37) C 5 dX1_least_35 rfl rfl ?_
    refine J_iadd (pc' := 38) C dX1_least_37 rfl ?_
    refine J_if_ne (tgt := 45) (pc' := 41) C dX1_least_38 (by decide) rfl (fun c38 => ?_) (fun c38 => ?_)
    · rw [if_neg c38] at h
      refine J_aload_n (pc' := 46) C 1 dX1_least_45 rfl rfl rfl ?_
      refine J_iload_n (pc' := 47) C 2 dX1_least_46 rfl rfl rfl ?_
      refine J_iload_n (pc' := 48) C 3 dX1_least_47 rfl rfl rfl ?_
      refine J_iload_n (pc' := 49) C 4 dX1_least_48 rfl rfl rfl ?_
      refine J_iload (pc' := 51) C 5 dX1_least_49 rfl rfl ?_
      refine J_iload (pc' := 53) C 6 dX1_least_51 rfl rfl ?_
      obtain ⟨_, q53, h⟩ := bd h
      obtain ⟨v53, M53, e53, h⟩ := bd2 h
      refine J_cV (pc' := 56) (st := []) (st2 := [.int v53]) (cs2 := 0) (sl2 := 0) C 1 rfl rfl q53 (ok_X1_memoPlace N e53) mw_X1_memoPlace wq_385 rfl dX1_least_53 rfl rfl (Nat.le_of_ble_eq_true rfl) (by omega) (by omega) rfl rfl rfl (Nat.zero_le _) (Nat.zero_le _) ?_
      refine J_istore (pc' := 58) (lv' := [(7, .int v53), (6, .int s0), (0, .ref x0), (1, .int x1), (2, .int x2), (3, .int x3), (4, .int x4), (5, .int x5)]) C dX1_least_56 rfl (by decide) rfl ?_
      refine J_aload_n (pc' := 59) C 2 dX1_least_58 rfl rfl rfl ?_
      obtain ⟨v59, e59, h⟩ := bd h
      refine jg_328 (pc' := 62) C dX1_least_59 rfl (gR_some e59) ?_
      refine J_iload (pc' := 64) C 0 dX1_least_62 rfl rfl ?_
      obtain ⟨v64, e64, h⟩ := bd h
      refine J_iald (pc' := 65) C dX1_least_64 rfl e64 ?_
      refine J_aload_n (pc' := 66) C 2 dX1_least_65 rfl rfl rfl ?_
      obtain ⟨v66, e66, h⟩ := bd h
      refine jg_334 (pc' := 69) C dX1_least_66 rfl (gI_some e66) ?_
      refine J_icmp_ne (tgt := 80) (pc' := 72) C dX1_least_69 (by decide) rfl (fun c69 => ?_) (fun c69 => ?_)
      · rw [if_neg c69] at h
        refine J_ldc2 (pc' := 83) C dX1_least_80 rfl wq_384 ?_
        refine J_lstore (pc' := 85) (lv' := [(8, .long (1152921504606846976 : Int64)), (7, .int v53), (6, .int s0), (0, .ref x0), (1, .int x1), (2, .int x2), (3, .int x3), (4, .int x4), (5, .int x5)]) C dX1_least_83 rfl (by decide) rfl ?_
        refine J_iconst (pc' := 86) (v := (0 : Int32)) C dX1_least_85 rfl (by decide) ?_
        refine J_istore (pc' := 88) (lv' := [(10, .int (0 : Int32)), (8, .long (1152921504606846976 : Int64)), (7, .int v53), (6, .int s0), (0, .ref x0), (1, .int x1), (2, .int x2), (3, .int x3), (4, .int x4), (5, .int x5)]) C dX1_least_86 rfl (by decide) rfl ?_
        refine J_sub (lv' := [(0, .ref x0), (1, .int x1), (2, .int x2), (3, .int x3), (4, .int x4), (5, .int x5), (7, .int v53), (8, .long (1152921504606846976 : Int64)), (10, .int (0 : Int32))]) [4, 5, 6, 7, 8, 9, 2, 1, 0] rfl ?_
        exact ok_X1_least_b_L88 C N hrec N _ _ _ _ _ _ _ _ _ _ _ _ h
      · rw [if_pos c69] at h
        refine J_aload_n (pc' := 73) C 2 dX1_least_72 rfl rfl rfl ?_
        obtain ⟨v73, e73, h⟩ := bd h
        refine jg_327 (pc' := 76) C dX1_least_73 rfl (gR_some e73) ?_
        refine J_iload (pc' := 78) C 0 dX1_least_76 rfl rfl ?_
        obtain ⟨v78, e78, h⟩ := bd h
        refine J_lald (pc' := 79) C dX1_least_78 rfl e78 ?_
        obtain ⟨rfl, rfl⟩ := rt2 h
        exact J_lret C dX1_least_79 (Nat.zero_le _) (Nat.zero_le _)
    · rw [if_pos c38] at h
      refine J_ldc2 (pc' := 44) C dX1_least_41 rfl wq_384 ?_
      obtain ⟨rfl, rfl⟩ := rt2 h
      exact J_lret C dX1_least_44 (Nat.zero_le _) (Nat.zero_le _)
def f_X1_least_b (N : Nat) (rec : Nat → Int32 → Int32 → Int32 → Int32 → Int32 → A_M → Option (Int64 × A_M)) (a0 : Nat) (a1 : Int32) (a2 : Int32) (a3 : Int32) (a4 : Int32) (a5 : Int32) (M : A_M) : Option (Int64 × A_M) :=
  if a2 < a5 then
  ((gI M a0 1 9).bind fun v9 =>
  if v9 ≤ 0 then
  (f_X1_least_b_K24 N rec a0 a1 a2 a3 a4 a5 (40 : Int32) M)
  else
  ((gI M a0 1 9).bind fun v16 =>
  f_X1_least_b_K24 N rec a0 a1 a2 a3 a4 a5 v16 M))
  else
  (some ((0 : Int64), M))
set_option maxHeartbeats 4000000 in
set_option maxRecDepth 100000 in
theorem ok_X1_least_b (N : Nat) {Fr Lr : Nat} {rec : Nat → Int32 → Int32 → Int32 → Int32 → Int32 → A_M → Option (Int64 × A_M)} (hrec : ∀ (b0 : Nat) (b1 : Int32) (b2 : Int32) (b3 : Int32) (b4 : Int32) (b5 : Int32) (M : A_M) (r : Int64) (M' : A_M), rec b0 b1 b2 b3 b4 b5 M = some (r, M') → Runs yX1_least cX1_least 11 (some .long) Fr Lr 0 0 [.ref b0, .int b1, .int b2, .int b3, .int b4, .int b5] M (some (.long r)) M') {a0 : Nat} {a1 : Int32} {a2 : Int32} {a3 : Int32} {a4 : Int32} {a5 : Int32} {M : A_M} {r : Int64} {M' : A_M} (h : f_X1_least_b N rec a0 a1 a2 a3 a4 a5 M = some (r, M')) : Runs yX1_least cX1_least 11 (some .long) (Fr + 2) (Lr + 60) 0 0 [.ref a0, .int a1, .int a2, .int a3, .int a4, .int a5] M (some (.long r)) M' := by
  refine Runs.intro (by decide) (Nat.le_of_ble_eq_true rfl) (fun X C hnm hMC hMS => ?_)
  have C : Cx X cX1_least RX1 11 (some .long) (Fr + 2) (Lr + 60) := C
  show J X 11 0 [(0, .ref a0), (1, .int a1), (2, .int a2), (3, .int a3), (4, .int a4), (5, .int a5)] [] M 0 0 (some (.long r)) M'
  unfold f_X1_least_b at h
  refine J_iload_n (pc' := 1) C 2 dX1_least_0 rfl rfl rfl ?_
  refine J_iload (pc' := 3) C 5 dX1_least_1 rfl rfl ?_
  refine J_icmp_lt (tgt := 8) (pc' := 6) C dX1_least_3 (by decide) rfl (fun c3 => ?_) (fun c3 => ?_)
  · rw [if_pos c3] at h
    refine J_aload_n (pc' := 9) C 0 dX1_least_8 rfl rfl rfl ?_
    obtain ⟨v9, e9, h⟩ := bd h
    refine jg_336 (pc' := 12) C dX1_least_9 rfl (gI_some e9) ?_
    refine J_if_le (tgt := 22) (pc' := 15) C dX1_least_12 (by decide) rfl (fun c12 => ?_) (fun c12 => ?_)
    · rw [if_pos c12] at h
      refine J_bipush (pc' := 24) (v := (40 : Int32)) C dX1_least_22 rfl (by decide) ?_
      refine J_sub (lv' := [(0, .ref a0), (1, .int a1), (2, .int a2), (3, .int a3), (4, .int a4), (5, .int a5)]) [0, 1, 2, 3, 4, 5] rfl ?_
      exact ok_X1_least_b_K24 C N hrec _ _ _ _ _ _ _ _ _ _ h
    · rw [if_neg c12] at h
      refine J_aload_n (pc' := 16) C 0 dX1_least_15 rfl rfl rfl ?_
      obtain ⟨v16, e16, h⟩ := bd h
      refine jg_336 (pc' := 19) C dX1_least_16 rfl (gI_some e16) ?_
      refine J_goto (tgt := 24) C dX1_least_19 (by decide) ?_
      refine J_sub (lv' := [(0, .ref a0), (1, .int a1), (2, .int a2), (3, .int a3), (4, .int a4), (5, .int a5)]) [0, 1, 2, 3, 4, 5] rfl ?_
      exact ok_X1_least_b_K24 C N hrec _ _ _ _ _ _ _ _ _ _ h
  · rw [if_neg c3] at h
    refine J_lconst (pc' := 7) (v := (0 : Int64)) C dX1_least_6 rfl (by decide) ?_
    obtain ⟨rfl, rfl⟩ := rt2 h
    exact J_lret C dX1_least_7 (Nat.zero_le _) (Nat.zero_le _)
def f_X1_least (N : Nat) : Nat → Nat → Int32 → Int32 → Int32 → Int32 → Int32 → A_M → Option (Int64 × A_M)
  | 0, _, _, _, _, _, _, _ => none
  | d + 1, a0, a1, a2, a3, a4, a5, M => f_X1_least_b N (f_X1_least N d) a0 a1 a2 a3 a4 a5 M
theorem ok_X1_least (N : Nat) : ∀ (d : Nat) (a0 : Nat) (a1 : Int32) (a2 : Int32) (a3 : Int32) (a4 : Int32) (a5 : Int32) (M : A_M) (r : Int64) (M' : A_M), f_X1_least N d a0 a1 a2 a3 a4 a5 M = some (r, M') → Runs yX1_least cX1_least 11 (some .long) (2 * d) (60 * d) 0 0 [.ref a0, .int a1, .int a2, .int a3, .int a4, .int a5] M (some (.long r)) M' := by
  intro d
  induction d with
  | zero =>
    intro a0 a1 a2 a3 a4 a5 M r M' h
    cases h
  | succ d ih =>
    intro a0 a1 a2 a3 a4 a5 M r M' h
    rw [f_X1_least] at h
    exact ok_X1_least_b N ih h
def f_X3_isBehind (N : Nat) (a0 : Nat) (a1 : Int32) (a2 : Int64) (a4 : Int32) (M : A_M) : Option (Int32 × A_M) :=
  (gR M a0 3 2).bind fun v1 =>
  (ldI M v1 a1).bind fun v5 =>
  if a4 < v5 then
  (some ((1 : Int32), M))
  else
  ((gR M a0 3 2).bind fun v12 =>
  (ldI M v12 a1).bind fun v16 =>
  if v16 = a4 then
  ((gR M a0 3 0).bind fun v23 =>
  (ldJ M v23 a1).bind fun v27 =>
  if (lg_cmp v27 a2) ≤ 0 then
  (some ((0 : Int32), M))
  else
  (some ((1 : Int32), M)))
  else
  (some ((0 : Int32), M)))
set_option maxHeartbeats 4000000 in
set_option maxRecDepth 100000 in
theorem ok_X3_isBehind (N : Nat) {a0 : Nat} {a1 : Int32} {a2 : Int64} {a4 : Int32} {M : A_M} {r : Int32} {M' : A_M} (h : f_X3_isBehind N a0 a1 a2 a4 M = some (r, M')) : Runs yX3_isBehind cX3_isBehind 5 (some .boolean) 0 0 0 0 [.ref a0, .int a1, .long a2, .int a4] M (some (.int r)) M' := by
  refine Runs.intro (by decide) (Nat.le_of_ble_eq_true rfl) (fun X C hnm hMC hMS => ?_)
  have C : Cx X cX3_isBehind RX3 5 (some .boolean) 0 0 := C
  show J X 5 0 [(0, .ref a0), (1, .int a1), (2, .long a2), (4, .int a4)] [] M 0 0 (some (.int r)) M'
  unfold f_X3_isBehind at h
  refine J_aload_n (pc' := 1) C 0 dX3_isBehind_0 rfl rfl rfl ?_
  obtain ⟨v1, e1, h⟩ := bd h
  refine jg_149 (pc' := 4) C dX3_isBehind_1 rfl (gR_some e1) ?_
  refine J_iload_n (pc' := 5) C 1 dX3_isBehind_4 rfl rfl rfl ?_
  obtain ⟨v5, e5, h⟩ := bd h
  refine J_iald (pc' := 6) C dX3_isBehind_5 rfl e5 ?_
  refine J_iload (pc' := 8) C 3 dX3_isBehind_6 rfl rfl ?_
  refine J_icmp_gt (tgt := 33) (pc' := 11) C dX3_isBehind_8 (by decide) rfl (fun c8 => ?_) (fun c8 => ?_)
  · rw [if_pos c8] at h
    refine J_iconst (pc' := 34) (v := (1 : Int32)) C dX3_isBehind_33 rfl (by decide) ?_
    refine J_goto (tgt := 38) C dX3_isBehind_34 (by decide) ?_
    obtain ⟨rfl, rfl⟩ := rt2 h
    exact J_zret C rfl dX3_isBehind_38 (Nat.zero_le _) (Nat.zero_le _)
  · rw [if_neg c8] at h
    refine J_aload_n (pc' := 12) C 0 dX3_isBehind_11 rfl rfl rfl ?_
    obtain ⟨v12, e12, h⟩ := bd h
    refine jg_149 (pc' := 15) C dX3_isBehind_12 rfl (gR_some e12) ?_
    refine J_iload_n (pc' := 16) C 1 dX3_isBehind_15 rfl rfl rfl ?_
    obtain ⟨v16, e16, h⟩ := bd h
    refine J_iald (pc' := 17) C dX3_isBehind_16 rfl e16 ?_
    refine J_iload (pc' := 19) C 3 dX3_isBehind_17 rfl rfl ?_
    refine J_icmp_ne (tgt := 37) (pc' := 22) C dX3_isBehind_19 (by decide) rfl (fun c19 => ?_) (fun c19 => ?_)
    · rw [if_neg c19] at h
      refine J_iconst (pc' := 38) (v := (0 : Int32)) C dX3_isBehind_37 rfl (by decide) ?_
      obtain ⟨rfl, rfl⟩ := rt2 h
      exact J_zret C rfl dX3_isBehind_38 (Nat.zero_le _) (Nat.zero_le _)
    · rw [if_pos c19] at h
      refine J_aload_n (pc' := 23) C 0 dX3_isBehind_22 rfl rfl rfl ?_
      obtain ⟨v23, e23, h⟩ := bd h
      refine jg_147 (pc' := 26) C dX3_isBehind_23 rfl (gR_some e23) ?_
      refine J_iload_n (pc' := 27) C 1 dX3_isBehind_26 rfl rfl rfl ?_
      obtain ⟨v27, e27, h⟩ := bd h
      refine J_lald (pc' := 28) C dX3_isBehind_27 rfl e27 ?_
      refine J_lload_n (pc' := 29) C 2 dX3_isBehind_28 rfl rfl rfl ?_
      refine J_lcmp (pc' := 30) C dX3_isBehind_29 rfl ?_
      refine J_if_le (tgt := 37) (pc' := 33) C dX3_isBehind_30 (by decide) rfl (fun c30 => ?_) (fun c30 => ?_)
      · rw [if_pos c30] at h
        refine J_iconst (pc' := 38) (v := (0 : Int32)) C dX3_isBehind_37 rfl (by decide) ?_
        obtain ⟨rfl, rfl⟩ := rt2 h
        exact J_zret C rfl dX3_isBehind_38 (Nat.zero_le _) (Nat.zero_le _)
      · rw [if_neg c30] at h
        refine J_iconst (pc' := 34) (v := (1 : Int32)) C dX3_isBehind_33 rfl (by decide) ?_
        refine J_goto (tgt := 38) C dX3_isBehind_34 (by decide) ?_
        obtain ⟨rfl, rfl⟩ := rt2 h
        exact J_zret C rfl dX3_isBehind_38 (Nat.zero_le _) (Nat.zero_le _)
def f_X3_insert_K93 (N : Nat) (x0 : Nat) (x1 : Int64) (x3 : Int32) (x4 : Int32) (x5 : Int32) (M : A_M) : Option A_M :=
  (gR M x0 3 0).bind fun v94 =>
  (stJ M v94 x5 x1).bind fun M100 =>
  (gR M100 x0 3 1).bind fun v102 =>
  (stI M100 v102 x5 x3).bind fun M108 =>
  (gR M108 x0 3 2).bind fun v110 =>
  (stI M108 v110 x5 x4).bind fun M117 =>
  (gI M117 x0 3 4).bind fun v120 =>
  (pV M117 x0 3 4 (.int (v120 + (1 : Int32)))).bind fun M125 =>
  some M125
set_option maxHeartbeats 4000000 in
set_option maxRecDepth 100000 in
theorem ok_X3_insert_K93 {X : JX} (C : Cx X cX3_insert RX3 6 none 1 24) (N : Nat) : ∀ (x0 : Nat) (x1 : Int64) (x3 : Int32) (x4 : Int32) (x5 : Int32) (M : A_M) (M' : A_M), f_X3_insert_K93 N x0 x1 x3 x4 x5 M = some M' → J X 6 93 [(0, .ref x0), (1, .long x1), (3, .int x3), (4, .int x4), (5, .int x5)] [] M 0 0 none M' := by
  intro x0 x1 x3 x4 x5 M M' h
  unfold f_X3_insert_K93 at h
  refine J_aload_n (pc' := 94) C 0 dX3_insert_93 rfl rfl rfl ?_
  obtain ⟨v94, e94, h⟩ := bd h
  refine jg_147 (pc' := 97) C dX3_insert_94 rfl (gR_some e94) ?_
  refine J_iload (pc' := 99) C 4 dX3_insert_97 rfl rfl ?_
  refine J_lload_n (pc' := 100) C 1 dX3_insert_99 rfl rfl rfl ?_
  obtain ⟨M100, e100, h⟩ := bd h
  refine J_last (pc' := 101) C dX3_insert_100 rfl e100 ?_
  refine J_aload_n (pc' := 102) C 0 dX3_insert_101 rfl rfl rfl ?_
  obtain ⟨v102, e102, h⟩ := bd h
  refine jg_148 (pc' := 105) C dX3_insert_102 rfl (gR_some e102) ?_
  refine J_iload (pc' := 107) C 4 dX3_insert_105 rfl rfl ?_
  refine J_iload_n (pc' := 108) C 2 dX3_insert_107 rfl rfl rfl ?_
  obtain ⟨M108, e108, h⟩ := bd h
  refine J_iast (pc' := 109) C dX3_insert_108 rfl e108 ?_
  refine J_aload_n (pc' := 110) C 0 dX3_insert_109 rfl rfl rfl ?_
  obtain ⟨v110, e110, h⟩ := bd h
  refine jg_149 (pc' := 113) C dX3_insert_110 rfl (gR_some e110) ?_
  refine J_iload (pc' := 115) C 4 dX3_insert_113 rfl rfl ?_
  refine J_iload (pc' := 117) C 3 dX3_insert_115 rfl rfl ?_
  obtain ⟨M117, e117, h⟩ := bd h
  refine J_iast (pc' := 118) C dX3_insert_117 rfl e117 ?_
  refine J_aload_n (pc' := 119) C 0 dX3_insert_118 rfl rfl rfl ?_
  refine J_dup (pc' := 120) C dX3_insert_119 rfl rfl ?_
  obtain ⟨v120, e120, h⟩ := bd h
  refine jg_151 (pc' := 123) C dX3_insert_120 rfl (gI_some e120) ?_
  refine J_iconst (pc' := 124) (v := (1 : Int32)) C dX3_insert_123 rfl (by decide) ?_
  refine J_iadd (pc' := 125) C dX3_insert_124 rfl ?_
  obtain ⟨M125, e125, h⟩ := bd h
  refine jp_151 (pc' := 128) C (fun _ => ⟨rfl, rfl⟩) dX3_insert_125 rfl e125 ?_
  obtain rfl := rt1 h
  exact J_vret C dX3_insert_128 (Nat.zero_le _) (Nat.zero_le _)
def f_X3_insert_L16 (N : Nat) : Nat → Nat → Int64 → Int32 → Int32 → Int32 → A_M → Option A_M
  | 0, _, _, _, _, _, _ => none
  | n + 1, x0, x1, x3, x4, x5, M =>
    (gI M x0 3 3).bind fun v19 =>
    if x5 ≤ v19 then
    (f_X3_insert_K93 N x0 x1 x3 x4 x5 M)
    else
    ((chk M x0 3).bind fun _ =>
    bnd2 (f_X3_isBehind N x0 (x5 - (1 : Int32)) x1 x4 M) fun v33 M33 =>
    if v33 = 0 then
    (f_X3_insert_K93 N x0 x1 x3 x4 x5 M33)
    else
    ((gR M33 x0 3 0).bind fun v40 =>
    (gR M33 x0 3 0).bind fun v46 =>
    (ldJ M33 v46 (x5 - (1 : Int32))).bind fun v53 =>
    (stJ M33 v40 x5 v53).bind fun M54 =>
    (gR M54 x0 3 1).bind fun v56 =>
    (gR M54 x0 3 1).bind fun v62 =>
    (ldI M54 v62 (x5 - (1 : Int32))).bind fun v69 =>
    (stI M54 v56 x5 v69).bind fun M70 =>
    (gR M70 x0 3 2).bind fun v72 =>
    (gR M70 x0 3 2).bind fun v78 =>
    (ldI M70 v78 (x5 - (1 : Int32))).bind fun v85 =>
    (stI M70 v72 x5 v85).bind fun M86 =>
    f_X3_insert_L16 N n x0 x1 x3 x4 (x5 + (-1)) M86))
set_option maxHeartbeats 4000000 in
set_option maxRecDepth 100000 in
theorem ok_X3_insert_L16 {X : JX} (C : Cx X cX3_insert RX3 6 none 1 24) (N : Nat) : ∀ (n : Nat) (x0 : Nat) (x1 : Int64) (x3 : Int32) (x4 : Int32) (x5 : Int32) (M : A_M) (M' : A_M), f_X3_insert_L16 N n x0 x1 x3 x4 x5 M = some M' → J X 6 16 [(0, .ref x0), (1, .long x1), (3, .int x3), (4, .int x4), (5, .int x5)] [] M 0 0 none M' := by
  intro n
  induction n with
  | zero =>
    intro x0 x1 x3 x4 x5 M M' h
    cases h
  | succ n ih =>
    intro x0 x1 x3 x4 x5 M M' h
    rw [f_X3_insert_L16] at h
    refine J_iload (pc' := 18) C 4 dX3_insert_16 rfl rfl ?_
    refine J_aload_n (pc' := 19) C 0 dX3_insert_18 rfl rfl rfl ?_
    obtain ⟨v19, e19, h⟩ := bd h
    refine jg_150 (pc' := 22) C dX3_insert_19 rfl (gI_some e19) ?_
    refine J_icmp_le (tgt := 93) (pc' := 25) C dX3_insert_22 (by decide) rfl (fun c22 => ?_) (fun c22 => ?_)
    · rw [if_pos c22] at h
      refine J_sub (lv' := [(0, .ref x0), (1, .long x1), (3, .int x3), (4, .int x4), (5, .int x5)]) [0, 1, 2, 3, 4] rfl ?_
      exact ok_X3_insert_K93 C N _ _ _ _ _ _ _ h
    · rw [if_neg c22] at h
      refine J_aload_n (pc' := 26) C 0 dX3_insert_25 rfl rfl rfl ?_
      refine J_iload (pc' := 28) C 4 dX3_insert_26 rfl rfl ?_
      refine J_iconst (pc' := 29) (v := (1 : Int32)) C dX3_insert_28 rfl (by decide) ?_
      refine J_isub (pc' := 30) C dX3_insert_29 rfl ?_
      refine J_lload_n (pc' := 31) C 1 dX3_insert_30 rfl rfl rfl ?_
      refine J_iload (pc' := 33) C 3 dX3_insert_31 rfl rfl ?_
      obtain ⟨_, q33, h⟩ := bd h
      obtain ⟨v33, M33, e33, h⟩ := bd2 h
      refine J_cV (pc' := 36) (st := []) (st2 := [.int v33]) (cs2 := 0) (sl2 := 0) C 3 rfl rfl q33 (ok_X3_isBehind N e33) mw_X3_isBehind wq_405 rfl dX3_insert_33 rfl rfl (Nat.le_of_ble_eq_true rfl) (by decide) (by decide) rfl rfl rfl (Nat.zero_le _) (Nat.zero_le _) ?_
      refine J_if_eq (tgt := 93) (pc' := 39) C dX3_insert_36 (by decide) rfl (fun c36 => ?_) (fun c36 => ?_)
      · rw [if_pos c36] at h
        refine J_sub (lv' := [(0, .ref x0), (1, .long x1), (3, .int x3), (4, .int x4), (5, .int x5)]) [0, 1, 2, 3, 4] rfl ?_
        exact ok_X3_insert_K93 C N _ _ _ _ _ _ _ h
      · rw [if_neg c36] at h
        refine J_aload_n (pc' := 40) C 0 dX3_insert_39 rfl rfl rfl ?_
        obtain ⟨v40, e40, h⟩ := bd h
        refine jg_147 (pc' := 43) C dX3_insert_40 rfl (gR_some e40) ?_
        refine J_iload (pc' := 45) C 4 dX3_insert_43 rfl rfl ?_
        refine J_aload_n (pc' := 46) C 0 dX3_insert_45 rfl rfl rfl ?_
        obtain ⟨v46, e46, h⟩ := bd h
        refine jg_147 (pc' := 49) C dX3_insert_46 rfl (gR_some e46) ?_
        refine J_iload (pc' := 51) C 4 dX3_insert_49 rfl rfl ?_
        refine J_iconst (pc' := 52) (v := (1 : Int32)) C dX3_insert_51 rfl (by decide) ?_
        refine J_isub (pc' := 53) C dX3_insert_52 rfl ?_
        obtain ⟨v53, e53, h⟩ := bd h
        refine J_lald (pc' := 54) C dX3_insert_53 rfl e53 ?_
        obtain ⟨M54, e54, h⟩ := bd h
        refine J_last (pc' := 55) C dX3_insert_54 rfl e54 ?_
        refine J_aload_n (pc' := 56) C 0 dX3_insert_55 rfl rfl rfl ?_
        obtain ⟨v56, e56, h⟩ := bd h
        refine jg_148 (pc' := 59) C dX3_insert_56 rfl (gR_some e56) ?_
        refine J_iload (pc' := 61) C 4 dX3_insert_59 rfl rfl ?_
        refine J_aload_n (pc' := 62) C 0 dX3_insert_61 rfl rfl rfl ?_
        obtain ⟨v62, e62, h⟩ := bd h
        refine jg_148 (pc' := 65) C dX3_insert_62 rfl (gR_some e62) ?_
        refine J_iload (pc' := 67) C 4 dX3_insert_65 rfl rfl ?_
        refine J_iconst (pc' := 68) (v := (1 : Int32)) C dX3_insert_67 rfl (by decide) ?_
        refine J_isub (pc' := 69) C dX3_insert_68 rfl ?_
        obtain ⟨v69, e69, h⟩ := bd h
        refine J_iald (pc' := 70) C dX3_insert_69 rfl e69 ?_
        obtain ⟨M70, e70, h⟩ := bd h
        refine J_iast (pc' := 71) C dX3_insert_70 rfl e70 ?_
        refine J_aload_n (pc' := 72) C 0 dX3_insert_71 rfl rfl rfl ?_
        obtain ⟨v72, e72, h⟩ := bd h
        refine jg_149 (pc' := 75) C dX3_insert_72 rfl (gR_some e72) ?_
        refine J_iload (pc' := 77) C 4 dX3_insert_75 rfl rfl ?_
        refine J_aload_n (pc' := 78) C 0 dX3_insert_77 rfl rfl rfl ?_
        obtain ⟨v78, e78, h⟩ := bd h
        refine jg_149 (pc' := 81) C dX3_insert_78 rfl (gR_some e78) ?_
        refine J_iload (pc' := 83) C 4 dX3_insert_81 rfl rfl ?_
        refine J_iconst (pc' := 84) (v := (1 : Int32)) C dX3_insert_83 rfl (by decide) ?_
        refine J_isub (pc' := 85) C dX3_insert_84 rfl ?_
        obtain ⟨v85, e85, h⟩ := bd h
        refine J_iald (pc' := 86) C dX3_insert_85 rfl e85 ?_
        obtain ⟨M86, e86, h⟩ := bd h
        refine J_iast (pc' := 87) C dX3_insert_86 rfl e86 ?_
        refine J_iinc (pc' := 90) (lv' := [(5, .int (x5 + (-1))), (0, .ref x0), (1, .long x1), (3, .int x3), (4, .int x4)]) C 4 dX3_insert_87 rfl rfl rfl (by decide) rfl ?_
        refine J_goto (tgt := 16) C dX3_insert_90 (by decide) ?_
        refine J_sub (lv' := [(0, .ref x0), (1, .long x1), (3, .int x3), (4, .int x4), (5, .int (x5 + (-1)))]) [1, 2, 3, 4, 0] rfl ?_
        exact ih _ _ _ _ _ _ _ h
def f_X3_insert (N : Nat) (a0 : Nat) (a1 : Int64) (a3 : Int32) (a4 : Int32) (M : A_M) : Option A_M :=
  (gI M a0 3 4).bind fun v1 =>
  if v1 < (97 : Int32) then
  ((gI M a0 3 4).bind fun v11 =>
  f_X3_insert_L16 N N a0 a1 a3 a4 v11 M)
  else
  (some M)
set_option maxHeartbeats 4000000 in
set_option maxRecDepth 100000 in
theorem ok_X3_insert (N : Nat) {a0 : Nat} {a1 : Int64} {a3 : Int32} {a4 : Int32} {M : A_M} {M' : A_M} (h : f_X3_insert N a0 a1 a3 a4 M = some M') : Runs yX3_insert cX3_insert 6 none 1 24 0 0 [.ref a0, .long a1, .int a3, .int a4] M none M' := by
  refine Runs.intro (by decide) (Nat.le_of_ble_eq_true rfl) (fun X C hnm hMC hMS => ?_)
  have C : Cx X cX3_insert RX3 6 none 1 24 := C
  show J X 6 0 [(0, .ref a0), (1, .long a1), (3, .int a3), (4, .int a4)] [] M 0 0 none M'
  unfold f_X3_insert at h
  refine J_aload_n (pc' := 1) C 0 dX3_insert_0 rfl rfl rfl ?_
  obtain ⟨v1, e1, h⟩ := bd h
  refine jg_151 (pc' := 4) C dX3_insert_1 rfl (gI_some e1) ?_
  refine J_bipush (pc' := 6) (v := (97 : Int32)) C dX3_insert_4 rfl (by decide) ?_
  refine J_icmp_lt (tgt := 10) (pc' := 9) C dX3_insert_6 (by decide) rfl (fun c6 => ?_) (fun c6 => ?_)
  · rw [if_pos c6] at h
    refine J_aload_n (pc' := 11) C 0 dX3_insert_10 rfl rfl rfl ?_
    obtain ⟨v11, e11, h⟩ := bd h
    refine jg_151 (pc' := 14) C dX3_insert_11 rfl (gI_some e11) ?_
    refine J_istore (pc' := 16) (lv' := [(5, .int v11), (0, .ref a0), (1, .long a1), (3, .int a3), (4, .int a4)]) C dX3_insert_14 rfl (by decide) rfl ?_
    refine J_sub (lv' := [(0, .ref a0), (1, .long a1), (3, .int a3), (4, .int a4), (5, .int v11)]) [1, 2, 3, 4, 0] rfl ?_
    exact ok_X3_insert_L16 C N N _ _ _ _ _ _ _ h
  · rw [if_neg c6] at h
    obtain rfl := rt1 h
    exact J_vret C dX3_insert_9 (Nat.zero_le _) (Nat.zero_le _)
def f_X3_start (N : Nat) (a0 : Nat) (M : A_M) : Option A_M :=
  (pV M a0 3 3 (.int (0 : Int32))).bind fun M2 =>
  (pV M2 a0 3 4 (.int (0 : Int32))).bind fun M7 =>
  (chk M7 a0 3).bind fun _ =>
  (f_X3_insert N a0 (0 : Int64) (0 : Int32) (0 : Int32) M7).bind fun M14 =>
  some M14
set_option maxHeartbeats 4000000 in
set_option maxRecDepth 100000 in
theorem ok_X3_start (N : Nat) {a0 : Nat} {M : A_M} {M' : A_M} (h : f_X3_start N a0 M = some M') : Runs yX3_start cX3_start 1 none 2 49 0 0 [.ref a0] M none M' := by
  refine Runs.intro (by decide) (Nat.le_of_ble_eq_true rfl) (fun X C hnm hMC hMS => ?_)
  have C : Cx X cX3_start RX3 1 none 2 49 := C
  show J X 1 0 [(0, .ref a0)] [] M 0 0 none M'
  unfold f_X3_start at h
  refine J_aload_n (pc' := 1) C 0 dX3_start_0 rfl rfl rfl ?_
  refine J_iconst (pc' := 2) (v := (0 : Int32)) C dX3_start_1 rfl (by decide) ?_
  obtain ⟨M2, e2, h⟩ := bd h
  refine jp_150 (pc' := 5) C (fun _ => ⟨rfl, rfl⟩) dX3_start_2 rfl e2 ?_
  refine J_aload_n (pc' := 6) C 0 dX3_start_5 rfl rfl rfl ?_
  refine J_iconst (pc' := 7) (v := (0 : Int32)) C dX3_start_6 rfl (by decide) ?_
  obtain ⟨M7, e7, h⟩ := bd h
  refine jp_151 (pc' := 10) C (fun _ => ⟨rfl, rfl⟩) dX3_start_7 rfl e7 ?_
  refine J_aload_n (pc' := 11) C 0 dX3_start_10 rfl rfl rfl ?_
  refine J_lconst (pc' := 12) (v := (0 : Int64)) C dX3_start_11 rfl (by decide) ?_
  refine J_iconst (pc' := 13) (v := (0 : Int32)) C dX3_start_12 rfl (by decide) ?_
  refine J_iconst (pc' := 14) (v := (0 : Int32)) C dX3_start_13 rfl (by decide) ?_
  obtain ⟨_, q14, h⟩ := bd h
  obtain ⟨M14, e14, h⟩ := bd h
  refine J_cV (pc' := 17) (st := []) (st2 := []) (cs2 := 0) (sl2 := 0) C 3 rfl rfl q14 (ok_X3_insert N e14) mw_X3_insert wq_401 rfl dX3_start_14 rfl rfl (Nat.le_of_ble_eq_true rfl) (by decide) (by decide) rfl rfl rfl (Nat.zero_le _) (Nat.zero_le _) ?_
  obtain rfl := rt1 h
  exact J_vret C dX3_start_17 (Nat.zero_le _) (Nat.zero_le _)
def f_X3_isAny (N : Nat) (a0 : Nat) (M : A_M) : Option (Int32 × A_M) :=
  (gI M a0 3 3).bind fun v1 =>
  (gI M a0 3 4).bind fun v5 =>
  if v5 ≤ v1 then
  (some ((0 : Int32), M))
  else
  (some ((1 : Int32), M))
set_option maxHeartbeats 4000000 in
set_option maxRecDepth 100000 in
theorem ok_X3_isAny (N : Nat) {a0 : Nat} {M : A_M} {r : Int32} {M' : A_M} (h : f_X3_isAny N a0 M = some (r, M')) : Runs yX3_isAny cX3_isAny 1 (some .boolean) 0 0 0 0 [.ref a0] M (some (.int r)) M' := by
  refine Runs.intro (by decide) (Nat.le_of_ble_eq_true rfl) (fun X C hnm hMC hMS => ?_)
  have C : Cx X cX3_isAny RX3 1 (some .boolean) 0 0 := C
  show J X 1 0 [(0, .ref a0)] [] M 0 0 (some (.int r)) M'
  unfold f_X3_isAny at h
  refine J_aload_n (pc' := 1) C 0 dX3_isAny_0 rfl rfl rfl ?_
  obtain ⟨v1, e1, h⟩ := bd h
  refine jg_150 (pc' := 4) C dX3_isAny_1 rfl (gI_some e1) ?_
  refine J_aload_n (pc' := 5) C 0 dX3_isAny_4 rfl rfl rfl ?_
  obtain ⟨v5, e5, h⟩ := bd h
  refine jg_151 (pc' := 8) C dX3_isAny_5 rfl (gI_some e5) ?_
  refine J_icmp_ge (tgt := 15) (pc' := 11) C dX3_isAny_8 (by decide) rfl (fun c8 => ?_) (fun c8 => ?_)
  · rw [if_pos c8] at h
    refine J_iconst (pc' := 16) (v := (0 : Int32)) C dX3_isAny_15 rfl (by decide) ?_
    obtain ⟨rfl, rfl⟩ := rt2 h
    exact J_zret C rfl dX3_isAny_16 (Nat.zero_le _) (Nat.zero_le _)
  · rw [if_neg c8] at h
    refine J_iconst (pc' := 12) (v := (1 : Int32)) C dX3_isAny_11 rfl (by decide) ?_
    refine J_goto (tgt := 16) C dX3_isAny_12 (by decide) ?_
    obtain ⟨rfl, rfl⟩ := rt2 h
    exact J_zret C rfl dX3_isAny_16 (Nat.zero_le _) (Nat.zero_le _)
def f_X3_firstRow (N : Nat) (a0 : Nat) (M : A_M) : Option (Int64 × A_M) :=
  (gR M a0 3 0).bind fun v1 =>
  (gI M a0 3 3).bind fun v5 =>
  (ldJ M v1 v5).bind fun v8 =>
  some (v8, M)
set_option maxHeartbeats 4000000 in
set_option maxRecDepth 100000 in
theorem ok_X3_firstRow (N : Nat) {a0 : Nat} {M : A_M} {r : Int64} {M' : A_M} (h : f_X3_firstRow N a0 M = some (r, M')) : Runs yX3_firstRow cX3_firstRow 1 (some .long) 0 0 0 0 [.ref a0] M (some (.long r)) M' := by
  refine Runs.intro (by decide) (Nat.le_of_ble_eq_true rfl) (fun X C hnm hMC hMS => ?_)
  have C : Cx X cX3_firstRow RX3 1 (some .long) 0 0 := C
  show J X 1 0 [(0, .ref a0)] [] M 0 0 (some (.long r)) M'
  unfold f_X3_firstRow at h
  refine J_aload_n (pc' := 1) C 0 dX3_firstRow_0 rfl rfl rfl ?_
  obtain ⟨v1, e1, h⟩ := bd h
  refine jg_147 (pc' := 4) C dX3_firstRow_1 rfl (gR_some e1) ?_
  refine J_aload_n (pc' := 5) C 0 dX3_firstRow_4 rfl rfl rfl ?_
  obtain ⟨v5, e5, h⟩ := bd h
  refine jg_150 (pc' := 8) C dX3_firstRow_5 rfl (gI_some e5) ?_
  obtain ⟨v8, e8, h⟩ := bd h
  refine J_lald (pc' := 9) C dX3_firstRow_8 rfl e8 ?_
  obtain ⟨rfl, rfl⟩ := rt2 h
  exact J_lret C dX3_firstRow_9 (Nat.zero_le _) (Nat.zero_le _)
def f_X3_firstSize (N : Nat) (a0 : Nat) (M : A_M) : Option (Int32 × A_M) :=
  (gR M a0 3 1).bind fun v1 =>
  (gI M a0 3 3).bind fun v5 =>
  (ldI M v1 v5).bind fun v8 =>
  some (v8, M)
set_option maxHeartbeats 4000000 in
set_option maxRecDepth 100000 in
theorem ok_X3_firstSize (N : Nat) {a0 : Nat} {M : A_M} {r : Int32} {M' : A_M} (h : f_X3_firstSize N a0 M = some (r, M')) : Runs yX3_firstSize cX3_firstSize 1 (some .int) 0 0 0 0 [.ref a0] M (some (.int r)) M' := by
  refine Runs.intro (by decide) (Nat.le_of_ble_eq_true rfl) (fun X C hnm hMC hMS => ?_)
  have C : Cx X cX3_firstSize RX3 1 (some .int) 0 0 := C
  show J X 1 0 [(0, .ref a0)] [] M 0 0 (some (.int r)) M'
  unfold f_X3_firstSize at h
  refine J_aload_n (pc' := 1) C 0 dX3_firstSize_0 rfl rfl rfl ?_
  obtain ⟨v1, e1, h⟩ := bd h
  refine jg_148 (pc' := 4) C dX3_firstSize_1 rfl (gR_some e1) ?_
  refine J_aload_n (pc' := 5) C 0 dX3_firstSize_4 rfl rfl rfl ?_
  obtain ⟨v5, e5, h⟩ := bd h
  refine jg_150 (pc' := 8) C dX3_firstSize_5 rfl (gI_some e5) ?_
  obtain ⟨v8, e8, h⟩ := bd h
  refine J_iald (pc' := 9) C dX3_firstSize_8 rfl e8 ?_
  obtain ⟨rfl, rfl⟩ := rt2 h
  exact J_iret C dX3_firstSize_9 (Nat.zero_le _) (Nat.zero_le _)
def f_X3_firstLevel (N : Nat) (a0 : Nat) (M : A_M) : Option (Int32 × A_M) :=
  (gR M a0 3 2).bind fun v1 =>
  (gI M a0 3 3).bind fun v5 =>
  (ldI M v1 v5).bind fun v8 =>
  some (v8, M)
set_option maxHeartbeats 4000000 in
set_option maxRecDepth 100000 in
theorem ok_X3_firstLevel (N : Nat) {a0 : Nat} {M : A_M} {r : Int32} {M' : A_M} (h : f_X3_firstLevel N a0 M = some (r, M')) : Runs yX3_firstLevel cX3_firstLevel 1 (some .int) 0 0 0 0 [.ref a0] M (some (.int r)) M' := by
  refine Runs.intro (by decide) (Nat.le_of_ble_eq_true rfl) (fun X C hnm hMC hMS => ?_)
  have C : Cx X cX3_firstLevel RX3 1 (some .int) 0 0 := C
  show J X 1 0 [(0, .ref a0)] [] M 0 0 (some (.int r)) M'
  unfold f_X3_firstLevel at h
  refine J_aload_n (pc' := 1) C 0 dX3_firstLevel_0 rfl rfl rfl ?_
  obtain ⟨v1, e1, h⟩ := bd h
  refine jg_149 (pc' := 4) C dX3_firstLevel_1 rfl (gR_some e1) ?_
  refine J_aload_n (pc' := 5) C 0 dX3_firstLevel_4 rfl rfl rfl ?_
  obtain ⟨v5, e5, h⟩ := bd h
  refine jg_150 (pc' := 8) C dX3_firstLevel_5 rfl (gI_some e5) ?_
  obtain ⟨v8, e8, h⟩ := bd h
  refine J_iald (pc' := 9) C dX3_firstLevel_8 rfl e8 ?_
  obtain ⟨rfl, rfl⟩ := rt2 h
  exact J_iret C dX3_firstLevel_9 (Nat.zero_le _) (Nat.zero_le _)
def f_X3_dropFirst (N : Nat) (a0 : Nat) (M : A_M) : Option A_M :=
  (gI M a0 3 3).bind fun v2 =>
  (pV M a0 3 3 (.int (v2 + (1 : Int32)))).bind fun M7 =>
  some M7
set_option maxHeartbeats 4000000 in
set_option maxRecDepth 100000 in
theorem ok_X3_dropFirst (N : Nat) {a0 : Nat} {M : A_M} {M' : A_M} (h : f_X3_dropFirst N a0 M = some M') : Runs yX3_dropFirst cX3_dropFirst 1 none 0 0 0 0 [.ref a0] M none M' := by
  refine Runs.intro (by decide) (Nat.le_of_ble_eq_true rfl) (fun X C hnm hMC hMS => ?_)
  have C : Cx X cX3_dropFirst RX3 1 none 0 0 := C
  show J X 1 0 [(0, .ref a0)] [] M 0 0 none M'
  unfold f_X3_dropFirst at h
  refine J_aload_n (pc' := 1) C 0 dX3_dropFirst_0 rfl rfl rfl ?_
  refine J_dup (pc' := 2) C dX3_dropFirst_1 rfl rfl ?_
  obtain ⟨v2, e2, h⟩ := bd h
  refine jg_150 (pc' := 5) C dX3_dropFirst_2 rfl (gI_some e2) ?_
  refine J_iconst (pc' := 6) (v := (1 : Int32)) C dX3_dropFirst_5 rfl (by decide) ?_
  refine J_iadd (pc' := 7) C dX3_dropFirst_6 rfl ?_
  obtain ⟨M7, e7, h⟩ := bd h
  refine jp_150 (pc' := 10) C (fun _ => ⟨rfl, rfl⟩) dX3_dropFirst_7 rfl e7 ?_
  obtain rfl := rt1 h
  exact J_vret C dX3_dropFirst_10 (Nat.zero_le _) (Nat.zero_le _)
def f_X6_rowAndSign (N : Nat) (a0 : Int64) (a2 : Int32) (a3 : Int32) (M : A_M) : Option (Int64 × A_M) :=
  if a2 < (24 : Int32) then
  (some ((a0 ||| ((a3.toInt64) <<< (((2 : Int32) * ((23 : Int32) - a2)).toInt64 &&& 63))), M))
  else
  (some (a0, M))
set_option maxHeartbeats 4000000 in
set_option maxRecDepth 100000 in
theorem ok_X6_rowAndSign (N : Nat) {a0 : Int64} {a2 : Int32} {a3 : Int32} {M : A_M} {r : Int64} {M' : A_M} (h : f_X6_rowAndSign N a0 a2 a3 M = some (r, M')) : Runs yX6_rowAndSign cX6_rowAndSign 4 (some .long) 0 0 0 0 [.long a0, .int a2, .int a3] M (some (.long r)) M' := by
  refine Runs.intro (by decide) (Nat.le_of_ble_eq_true rfl) (fun X C hnm hMC hMS => ?_)
  have C : Cx X cX6_rowAndSign RX6 4 (some .long) 0 0 := C
  show J X 4 0 [(0, .long a0), (2, .int a2), (3, .int a3)] [] M 0 0 (some (.long r)) M'
  unfold f_X6_rowAndSign at h
  refine J_iload_n (pc' := 1) C 1 dX6_rowAndSign_0 rfl rfl rfl ?_
  refine J_bipush (pc' := 3) (v := (24 : Int32)) C dX6_rowAndSign_1 rfl (by decide) ?_
  refine J_icmp_lt (tgt := 10) (pc' := 6) C dX6_rowAndSign_3 (by decide) rfl (fun c3 => ?_) (fun c3 => ?_)
  · rw [if_pos c3] at h
    refine J_lload_n (pc' := 11) C 0 dX6_rowAndSign_10 rfl rfl rfl ?_
    refine J_iload_n (pc' := 12) C 2 dX6_rowAndSign_11 rfl rfl rfl ?_
    refine J_i2l (pc' := 13) C dX6_rowAndSign_12 rfl ?_
    refine J_iconst (pc' := 14) (v := (2 : Int32)) C dX6_rowAndSign_13 rfl (by decide) ?_
    refine J_bipush (pc' := 16) (v := (23 : Int32)) C dX6_rowAndSign_14 rfl (by decide) ?_
    refine J_iload_n (pc' := 17) C 1 dX6_rowAndSign_16 rfl rfl rfl ?_
    refine J_isub (pc' := 18) C dX6_rowAndSign_17 rfl ?_
    refine J_imul (pc' := 19) C dX6_rowAndSign_18 rfl ?_
    refine J_lshl (pc' := 20) C dX6_rowAndSign_19 rfl ?_
    refine J_lor (pc' := 21) C dX6_rowAndSign_20 rfl ?_
    obtain ⟨rfl, rfl⟩ := rt2 h
    exact J_lret C dX6_rowAndSign_21 (Nat.zero_le _) (Nat.zero_le _)
  · rw [if_neg c3] at h
    refine J_lload_n (pc' := 7) C 0 dX6_rowAndSign_6 rfl rfl rfl ?_
    refine J_goto (tgt := 21) C dX6_rowAndSign_7 (by decide) ?_
    obtain ⟨rfl, rfl⟩ := rt2 h
    exact J_lret C dX6_rowAndSign_21 (Nat.zero_le _) (Nat.zero_le _)
def f_X1_continueFirst_L46 (N : Nat) : Nat → Nat → Int64 → Int32 → Int32 → Int32 → A_M → Option A_M
  | 0, _, _, _, _, _, _ => none
  | n + 1, x0, x1, x3, x4, x5, M =>
    (gI M x0 1 8).bind fun v49 =>
    if v49 ≤ x5 then
    (some M)
    else
    ((gR M x0 1 6).bind fun v56 =>
    bnd2 (f_X6_rowAndSign N x1 x3 x5 M) fun v63 M63 =>
    (gR M63 x0 1 4).bind fun v72 =>
    (ldI M63 v72 x5).bind fun v77 =>
    (chk M63 v56 3).bind fun _ =>
    (f_X3_insert N v56 v63 (x3 + (1 : Int32)) (x4 + v77) M63).bind fun M79 =>
    f_X1_continueFirst_L46 N n x0 x1 x3 x4 (x5 + 1) M79)
set_option maxHeartbeats 4000000 in
set_option maxRecDepth 100000 in
theorem ok_X1_continueFirst_L46 {X : JX} (C : Cx X cX1_continueFirst RX1 6 none 2 49) (N : Nat) : ∀ (n : Nat) (x0 : Nat) (x1 : Int64) (x3 : Int32) (x4 : Int32) (x5 : Int32) (M : A_M) (M' : A_M), f_X1_continueFirst_L46 N n x0 x1 x3 x4 x5 M = some M' → J X 6 46 [(0, .ref x0), (1, .long x1), (3, .int x3), (4, .int x4), (5, .int x5)] [] M 0 0 none M' := by
  intro n
  induction n with
  | zero =>
    intro x0 x1 x3 x4 x5 M M' h
    cases h
  | succ n ih =>
    intro x0 x1 x3 x4 x5 M M' h
    rw [f_X1_continueFirst_L46] at h
    refine J_iload (pc' := 48) C 4 dX1_continueFirst_46 rfl rfl ?_
    refine J_aload_n (pc' := 49) C 0 dX1_continueFirst_48 rfl rfl rfl ?_
    obtain ⟨v49, e49, h⟩ := bd h
    refine jg_335 (pc' := 52) C dX1_continueFirst_49 rfl (gI_some e49) ?_
    refine J_icmp_ge (tgt := 88) (pc' := 55) C dX1_continueFirst_52 (by decide) rfl (fun c52 => ?_) (fun c52 => ?_)
    · rw [if_pos c52] at h
      obtain rfl := rt1 h
      exact J_vret C dX1_continueFirst_88 (Nat.zero_le _) (Nat.zero_le _)
    · rw [if_neg c52] at h
      refine J_aload_n (pc' := 56) C 0 dX1_continueFirst_55 rfl rfl rfl ?_
      obtain ⟨v56, e56, h⟩ := bd h
      refine jg_333 (pc' := 59) C dX1_continueFirst_56 rfl (gR_some e56) ?_
      refine J_lload_n (pc' := 60) C 1 dX1_continueFirst_59 rfl rfl rfl ?_
      refine J_iload_n (pc' := 61) C 2 dX1_continueFirst_60 rfl rfl rfl ?_
      refine J_iload (pc' := 63) C 4 dX1_continueFirst_61 rfl rfl ?_
      obtain ⟨v63, M63, e63, h⟩ := bd2 h
      refine J_cSN (pc' := 66) (st := [.ref v56]) (st2 := [.long v63, .ref v56]) (cs2 := 0) (sl2 := 0) C (ok_X6_rowAndSign N e63) mw_X6_rowAndSign wn_433 rfl dX1_continueFirst_63 rfl rfl (Nat.le_of_ble_eq_true rfl) (by decide) (by decide) rfl rfl rfl (Nat.zero_le _) (Nat.zero_le _) ?_
      refine J_iload_n (pc' := 67) C 2 dX1_continueFirst_66 rfl rfl rfl ?_
      refine J_iconst (pc' := 68) (v := (1 : Int32)) C dX1_continueFirst_67 rfl (by decide) ?_
      refine J_iadd (pc' := 69) C dX1_continueFirst_68 rfl ?_
      refine J_iload (pc' := 71) C 3 dX1_continueFirst_69 rfl rfl ?_
      refine J_aload_n (pc' := 72) C 0 dX1_continueFirst_71 rfl rfl rfl ?_
      obtain ⟨v72, e72, h⟩ := bd h
      refine jg_331 (pc' := 75) C dX1_continueFirst_72 rfl (gR_some e72) ?_
      refine J_iload (pc' := 77) C 4 dX1_continueFirst_75 rfl rfl ?_
      obtain ⟨v77, e77, h⟩ := bd h
      refine J_iald (pc' := 78) C dX1_continueFirst_77 rfl e77 ?_
      refine J_iadd (pc' := 79) C dX1_continueFirst_78 rfl ?_
      obtain ⟨_, q79, h⟩ := bd h
      obtain ⟨M79, e79, h⟩ := bd h
      refine J_cV (pc' := 82) (st := []) (st2 := []) (cs2 := 0) (sl2 := 0) C 3 rfl rfl q79 (ok_X3_insert N e79) mw_X3_insert wq_436 rfl dX1_continueFirst_79 rfl rfl (Nat.le_of_ble_eq_true rfl) (by decide) (by decide) rfl rfl rfl (Nat.zero_le _) (Nat.zero_le _) ?_
      refine J_iinc (pc' := 85) (lv' := [(5, .int (x5 + 1)), (0, .ref x0), (1, .long x1), (3, .int x3), (4, .int x4)]) C 4 dX1_continueFirst_82 rfl rfl rfl (by decide) rfl ?_
      refine J_goto (tgt := 46) C dX1_continueFirst_85 (by decide) ?_
      refine J_sub (lv' := [(0, .ref x0), (1, .long x1), (3, .int x3), (4, .int x4), (5, .int (x5 + 1))]) [1, 2, 3, 4, 0] rfl ?_
      exact ih _ _ _ _ _ _ _ h
def f_X1_continueFirst (N : Nat) (a0 : Nat) (M : A_M) : Option A_M :=
  (gR M a0 1 6).bind fun v1 =>
  (chk M v1 3).bind fun _ =>
  bnd2 (f_X3_isAny N v1 M) fun v4 M4 =>
  if v4 = 0 then
  (some M4)
  else
  ((gR M4 a0 1 6).bind fun v12 =>
  (chk M4 v12 3).bind fun _ =>
  bnd2 (f_X3_firstRow N v12 M4) fun v15 M15 =>
  (gR M15 a0 1 6).bind fun v20 =>
  (chk M15 v20 3).bind fun _ =>
  bnd2 (f_X3_firstSize N v20 M15) fun v23 M23 =>
  (gR M23 a0 1 6).bind fun v28 =>
  (chk M23 v28 3).bind fun _ =>
  bnd2 (f_X3_firstLevel N v28 M23) fun v31 M31 =>
  (gR M31 a0 1 6).bind fun v37 =>
  (chk M31 v37 3).bind fun _ =>
  (f_X3_dropFirst N v37 M31).bind fun M40 =>
  f_X1_continueFirst_L46 N N a0 v15 v23 v31 (0 : Int32) M40)
set_option maxHeartbeats 4000000 in
set_option maxRecDepth 100000 in
theorem ok_X1_continueFirst (N : Nat) {a0 : Nat} {M : A_M} {M' : A_M} (h : f_X1_continueFirst N a0 M = some M') : Runs yX1_continueFirst cX1_continueFirst 6 none 2 49 0 0 [.ref a0] M none M' := by
  refine Runs.intro (by decide) (Nat.le_of_ble_eq_true rfl) (fun X C hnm hMC hMS => ?_)
  have C : Cx X cX1_continueFirst RX1 6 none 2 49 := C
  show J X 6 0 [(0, .ref a0)] [] M 0 0 none M'
  unfold f_X1_continueFirst at h
  refine J_aload_n (pc' := 1) C 0 dX1_continueFirst_0 rfl rfl rfl ?_
  obtain ⟨v1, e1, h⟩ := bd h
  refine jg_333 (pc' := 4) C dX1_continueFirst_1 rfl (gR_some e1) ?_
  obtain ⟨_, q4, h⟩ := bd h
  obtain ⟨v4, M4, e4, h⟩ := bd2 h
  refine J_cV (pc' := 7) (st := []) (st2 := [.int v4]) (cs2 := 0) (sl2 := 0) C 3 rfl rfl q4 (ok_X3_isAny N e4) mw_X3_isAny wq_413 rfl dX1_continueFirst_4 rfl rfl (Nat.le_of_ble_eq_true rfl) (by decide) (by decide) rfl rfl rfl (Nat.zero_le _) (Nat.zero_le _) ?_
  refine J_if_ne (tgt := 11) (pc' := 10) C dX1_continueFirst_7 (by decide) rfl (fun c7 => ?_) (fun c7 => ?_)
  · rw [if_neg c7] at h
    refine J_aload_n (pc' := 12) C 0 dX1_continueFirst_11 rfl rfl rfl ?_
    obtain ⟨v12, e12, h⟩ := bd h
    refine jg_333 (pc' := 15) C dX1_continueFirst_12 rfl (gR_some e12) ?_
    obtain ⟨_, q15, h⟩ := bd h
    obtain ⟨v15, M15, e15, h⟩ := bd2 h
    refine J_cV (pc' := 18) (st := []) (st2 := [.long v15]) (cs2 := 0) (sl2 := 0) C 3 rfl rfl q15 (ok_X3_firstRow N e15) mw_X3_firstRow wq_417 rfl dX1_continueFirst_15 rfl rfl (Nat.le_of_ble_eq_true rfl) (by decide) (by decide) rfl rfl rfl (Nat.zero_le _) (Nat.zero_le _) ?_
    refine J_lstore_n (pc' := 19) (lv' := [(1, .long v15), (0, .ref a0)]) C dX1_continueFirst_18 rfl rfl (by decide) rfl ?_
    refine J_aload_n (pc' := 20) C 1 dX1_continueFirst_19 rfl rfl rfl ?_
    obtain ⟨v20, e20, h⟩ := bd h
    refine jg_333 (pc' := 23) C dX1_continueFirst_20 rfl (gR_some e20) ?_
    obtain ⟨_, q23, h⟩ := bd h
    obtain ⟨v23, M23, e23, h⟩ := bd2 h
    refine J_cV (pc' := 26) (st := []) (st2 := [.int v23]) (cs2 := 0) (sl2 := 0) C 3 rfl rfl q23 (ok_X3_firstSize N e23) mw_X3_firstSize wq_421 rfl dX1_continueFirst_23 rfl rfl (Nat.le_of_ble_eq_true rfl) (by decide) (by decide) rfl rfl rfl (Nat.zero_le _) (Nat.zero_le _) ?_
    refine J_istore_n (pc' := 27) (lv' := [(3, .int v23), (1, .long v15), (0, .ref a0)]) C dX1_continueFirst_26 rfl rfl (by decide) rfl ?_
    refine J_aload_n (pc' := 28) C 2 dX1_continueFirst_27 rfl rfl rfl ?_
    obtain ⟨v28, e28, h⟩ := bd h
    refine jg_333 (pc' := 31) C dX1_continueFirst_28 rfl (gR_some e28) ?_
    obtain ⟨_, q31, h⟩ := bd h
    obtain ⟨v31, M31, e31, h⟩ := bd2 h
    refine J_cV (pc' := 34) (st := []) (st2 := [.int v31]) (cs2 := 0) (sl2 := 0) C 3 rfl rfl q31 (ok_X3_firstLevel N e31) mw_X3_firstLevel wq_425 rfl dX1_continueFirst_31 rfl rfl (Nat.le_of_ble_eq_true rfl) (by decide) (by decide) rfl rfl rfl (Nat.zero_le _) (Nat.zero_le _) ?_
    refine J_istore (pc' := 36) (lv' := [(4, .int v31), (3, .int v23), (1, .long v15), (0, .ref a0)]) C dX1_continueFirst_34 rfl (by decide) rfl ?_
    refine J_aload_n (pc' := 37) C 3 dX1_continueFirst_36 rfl rfl rfl ?_
    obtain ⟨v37, e37, h⟩ := bd h
    refine jg_333 (pc' := 40) C dX1_continueFirst_37 rfl (gR_some e37) ?_
    obtain ⟨_, q40, h⟩ := bd h
    obtain ⟨M40, e40, h⟩ := bd h
    refine J_cV (pc' := 43) (st := []) (st2 := []) (cs2 := 0) (sl2 := 0) C 3 rfl rfl q40 (ok_X3_dropFirst N e40) mw_X3_dropFirst wq_429 rfl dX1_continueFirst_40 rfl rfl (Nat.le_of_ble_eq_true rfl) (by decide) (by decide) rfl rfl rfl (Nat.zero_le _) (Nat.zero_le _) ?_
    refine J_iconst (pc' := 44) (v := (0 : Int32)) C dX1_continueFirst_43 rfl (by decide) ?_
    refine J_istore (pc' := 46) (lv' := [(5, .int (0 : Int32)), (4, .int v31), (3, .int v23), (1, .long v15), (0, .ref a0)]) C dX1_continueFirst_44 rfl (by decide) rfl ?_
    refine J_sub (lv' := [(0, .ref a0), (1, .long v15), (3, .int v23), (4, .int v31), (5, .int (0 : Int32))]) [4, 3, 2, 1, 0] rfl ?_
    exact ok_X1_continueFirst_L46 C N N _ _ _ _ _ _ _ h
  · rw [if_pos c7] at h
    obtain rfl := rt1 h
    exact J_vret C dX1_continueFirst_10 (Nat.zero_le _) (Nat.zero_le _)
def f_X1_wordsAt_L25 (N : Nat) : Nat → Nat → Int32 → Int32 → Int32 → Int32 → Int32 → Int64 → Int32 → A_M → Option (Int32 × A_M)
  | 0, _, _, _, _, _, _, _, _, _ => none
  | n + 1, x0, x1, x2, x3, x4, x5, x6, x8, M =>
    if x8 ≤ 0 then
    (some ((0 : Int32), M))
    else
    ((chk M x0 1).bind fun _ =>
    bnd2 (f_X1_leastWith N (f_X1_least N 48) x0 x1 x2 x3 x4 x5 x8 M) fun v40 M40 =>
    if (lg_cmp v40 x6) = 0 then
    (some (x8, M40))
    else
    (f_X1_wordsAt_L25 N n x0 x1 x2 x3 x4 x5 x6 (x8 + (-1)) M40))
set_option maxHeartbeats 4000000 in
set_option maxRecDepth 100000 in
theorem ok_X1_wordsAt_L25 {X : JX} (C : Cx X cX1_wordsAt RX1 9 (some .int) 98 2940) (N : Nat) : ∀ (n : Nat) (x0 : Nat) (x1 : Int32) (x2 : Int32) (x3 : Int32) (x4 : Int32) (x5 : Int32) (x6 : Int64) (x8 : Int32) (M : A_M) (r : Int32) (M' : A_M), f_X1_wordsAt_L25 N n x0 x1 x2 x3 x4 x5 x6 x8 M = some (r, M') → J X 9 25 [(0, .ref x0), (1, .int x1), (2, .int x2), (3, .int x3), (4, .int x4), (5, .int x5), (6, .long x6), (8, .int x8)] [] M 0 0 (some (.int r)) M' := by
  intro n
  induction n with
  | zero =>
    intro x0 x1 x2 x3 x4 x5 x6 x8 M r M' h
    cases h
  | succ n ih =>
    intro x0 x1 x2 x3 x4 x5 x6 x8 M r M' h
    rw [f_X1_wordsAt_L25] at h
    refine J_iload (pc' := 27) C 7 dX1_wordsAt_25 rfl rfl ?_
    refine J_if_le (tgt := 58) (pc' := 30) C dX1_wordsAt_27 (by decide) rfl (fun c27 => ?_) (fun c27 => ?_)
    · rw [if_pos c27] at h
      refine J_iconst (pc' := 59) (v := (0 : Int32)) C dX1_wordsAt_58 rfl (by decide) ?_
      obtain ⟨rfl, rfl⟩ := rt2 h
      exact J_iret C dX1_wordsAt_59 (Nat.zero_le _) (Nat.zero_le _)
    · rw [if_neg c27] at h
      refine J_aload_n (pc' := 31) C 0 dX1_wordsAt_30 rfl rfl rfl ?_
      refine J_iload_n (pc' := 32) C 1 dX1_wordsAt_31 rfl rfl rfl ?_
      refine J_iload_n (pc' := 33) C 2 dX1_wordsAt_32 rfl rfl rfl ?_
      refine J_iload_n (pc' := 34) C 3 dX1_wordsAt_33 rfl rfl rfl ?_
      refine J_iload (pc' := 36) C 4 dX1_wordsAt_34 rfl rfl ?_
      refine J_iload (pc' := 38) C 5 dX1_wordsAt_36 rfl rfl ?_
      refine J_iload (pc' := 40) C 7 dX1_wordsAt_38 rfl rfl ?_
      obtain ⟨_, q40, h⟩ := bd h
      obtain ⟨v40, M40, e40, h⟩ := bd2 h
      refine J_cV (pc' := 43) (st := []) (st2 := [.long v40]) (cs2 := 0) (sl2 := 0) C 1 rfl rfl q40 (ok_X1_leastWith N (ok_X1_least N 48) e40) mw_X1_leastWith wq_389 rfl dX1_wordsAt_40 rfl rfl (Nat.le_of_ble_eq_true rfl) (by decide) (by decide) rfl rfl rfl (Nat.zero_le _) (Nat.zero_le _) ?_
      refine J_lload (pc' := 45) C 6 dX1_wordsAt_43 rfl rfl ?_
      refine J_lcmp (pc' := 46) C dX1_wordsAt_45 rfl ?_
      refine J_if_ne (tgt := 52) (pc' := 49) C dX1_wordsAt_46 (by decide) rfl (fun c46 => ?_) (fun c46 => ?_)
      · rw [if_neg c46] at h
        refine J_iinc (pc' := 55) (lv' := [(8, .int (x8 + (-1))), (0, .ref x0), (1, .int x1), (2, .int x2), (3, .int x3), (4, .int x4), (5, .int x5), (6, .long x6)]) C 7 dX1_wordsAt_52 rfl rfl rfl (by decide) rfl ?_
        refine J_goto (tgt := 25) C dX1_wordsAt_55 (by decide) ?_
        refine J_sub (lv' := [(0, .ref x0), (1, .int x1), (2, .int x2), (3, .int x3), (4, .int x4), (5, .int x5), (6, .long x6), (8, .int (x8 + (-1)))]) [1, 2, 3, 4, 5, 6, 7, 0] rfl ?_
        exact ih _ _ _ _ _ _ _ _ _ _ _ h
      · rw [if_pos c46] at h
        refine J_iload (pc' := 51) C 7 dX1_wordsAt_49 rfl rfl ?_
        obtain ⟨rfl, rfl⟩ := rt2 h
        exact J_iret C dX1_wordsAt_51 (Nat.zero_le _) (Nat.zero_le _)
def f_X1_wordsAt (N : Nat) (a0 : Nat) (a1 : Int32) (a2 : Int32) (a3 : Int32) (a4 : Int32) (a5 : Int32) (M : A_M) : Option (Int32 × A_M) :=
  if a2 < a5 then
  ((chk M a0 1).bind fun _ =>
  bnd2 (f_X1_least N 48 a0 a1 a2 a3 a4 a5 M) fun v17 M17 =>
  f_X1_wordsAt_L25 N N a0 a1 a2 a3 a4 a5 v17 a2 M17)
  else
  (some (a5, M))
set_option maxHeartbeats 4000000 in
set_option maxRecDepth 100000 in
theorem ok_X1_wordsAt (N : Nat) {a0 : Nat} {a1 : Int32} {a2 : Int32} {a3 : Int32} {a4 : Int32} {a5 : Int32} {M : A_M} {r : Int32} {M' : A_M} (h : f_X1_wordsAt N a0 a1 a2 a3 a4 a5 M = some (r, M')) : Runs yX1_wordsAt cX1_wordsAt 9 (some .int) 98 2940 0 0 [.ref a0, .int a1, .int a2, .int a3, .int a4, .int a5] M (some (.int r)) M' := by
  refine Runs.intro (by decide) (Nat.le_of_ble_eq_true rfl) (fun X C hnm hMC hMS => ?_)
  have C : Cx X cX1_wordsAt RX1 9 (some .int) 98 2940 := C
  show J X 9 0 [(0, .ref a0), (1, .int a1), (2, .int a2), (3, .int a3), (4, .int a4), (5, .int a5)] [] M 0 0 (some (.int r)) M'
  unfold f_X1_wordsAt at h
  refine J_iload_n (pc' := 1) C 2 dX1_wordsAt_0 rfl rfl rfl ?_
  refine J_iload (pc' := 3) C 5 dX1_wordsAt_1 rfl rfl ?_
  refine J_icmp_lt (tgt := 9) (pc' := 6) C dX1_wordsAt_3 (by decide) rfl (fun c3 => ?_) (fun c3 => ?_)
  · rw [if_pos c3] at h
    refine J_aload_n (pc' := 10) C 0 dX1_wordsAt_9 rfl rfl rfl ?_
    refine J_iload_n (pc' := 11) C 1 dX1_wordsAt_10 rfl rfl rfl ?_
    refine J_iload_n (pc' := 12) C 2 dX1_wordsAt_11 rfl rfl rfl ?_
    refine J_iload_n (pc' := 13) C 3 dX1_wordsAt_12 rfl rfl rfl ?_
    refine J_iload (pc' := 15) C 4 dX1_wordsAt_13 rfl rfl ?_
    refine J_iload (pc' := 17) C 5 dX1_wordsAt_15 rfl rfl ?_
    obtain ⟨_, q17, h⟩ := bd h
    obtain ⟨v17, M17, e17, h⟩ := bd2 h
    refine J_cV (pc' := 20) (st := []) (st2 := [.long v17]) (cs2 := 0) (sl2 := 0) C 1 rfl rfl q17 (ok_X1_least N 48 a0 a1 a2 a3 a4 a5 _ _ _ e17) mw_X1_least wq_380 rfl dX1_wordsAt_17 rfl rfl (Nat.le_of_ble_eq_true rfl) (by decide) (by decide) rfl rfl rfl (Nat.zero_le _) (Nat.zero_le _) ?_
    refine J_lstore (pc' := 22) (lv' := [(6, .long v17), (0, .ref a0), (1, .int a1), (2, .int a2), (3, .int a3), (4, .int a4), (5, .int a5)]) C dX1_wordsAt_20 rfl (by decide) rfl ?_
    refine J_iload_n (pc' := 23) C 3 dX1_wordsAt_22 rfl rfl rfl ?_
    refine J_istore (pc' := 25) (lv' := [(8, .int a2), (6, .long v17), (0, .ref a0), (1, .int a1), (2, .int a2), (3, .int a3), (4, .int a4), (5, .int a5)]) C dX1_wordsAt_23 rfl (by decide) rfl ?_
    refine J_sub (lv' := [(0, .ref a0), (1, .int a1), (2, .int a2), (3, .int a3), (4, .int a4), (5, .int a5), (6, .long v17), (8, .int a2)]) [2, 3, 4, 5, 6, 7, 1, 0] rfl ?_
    exact ok_X1_wordsAt_L25 C N N _ _ _ _ _ _ _ _ _ _ _ h
  · rw [if_neg c3] at h
    refine J_iload (pc' := 8) C 5 dX1_wordsAt_6 rfl rfl ?_
    obtain ⟨rfl, rfl⟩ := rt2 h
    exact J_iret C dX1_wordsAt_8 (Nat.zero_le _) (Nat.zero_le _)
def f_X1_giveWords_L3 (N : Nat) : Nat → Nat → Nat → Int32 → Int32 → Int32 → A_M → Option A_M
  | 0, _, _, _, _, _, _ => none
  | n + 1, x0, x1, x2, x3, x4, M =>
    if x2 ≤ x4 then
    (some M)
    else
    ((gR M x0 1 6).bind fun v10 =>
    (chk M v10 3).bind fun _ =>
    bnd2 (f_X3_isAny N v10 M) fun v13 M13 =>
    if v13 = 0 then
    (some M13)
    else
    ((gR M13 x0 1 3).bind fun v21 =>
    (ldI M13 v21 (x3 + x4)).bind fun v28 =>
    (gR M13 x0 1 6).bind fun v30 =>
    (chk M13 v30 3).bind fun _ =>
    bnd2 (f_X3_firstRow N v30 M13) fun v33 M33 =>
    (gR M33 x0 1 6).bind fun v37 =>
    (chk M33 v37 3).bind fun _ =>
    bnd2 (f_X3_firstSize N v37 M33) fun v40 M40 =>
    (chk M40 x1 0).bind fun _ =>
    (f_X0_giveWord N x1 v28 v33 v40 M40).bind fun M43 =>
    (gR M43 x0 1 6).bind fun v47 =>
    (chk M43 v47 3).bind fun _ =>
    (f_X3_dropFirst N v47 M43).bind fun M50 =>
    f_X1_giveWords_L3 N n x0 x1 x2 x3 (x4 + 1) M50))
set_option maxHeartbeats 4000000 in
set_option maxRecDepth 100000 in
theorem ok_X1_giveWords_L3 {X : JX} (C : Cx X cX1_giveWords RX1 5 none 1 24) (N : Nat) : ∀ (n : Nat) (x0 : Nat) (x1 : Nat) (x2 : Int32) (x3 : Int32) (x4 : Int32) (M : A_M) (M' : A_M), f_X1_giveWords_L3 N n x0 x1 x2 x3 x4 M = some M' → J X 5 3 [(0, .ref x0), (1, .ref x1), (2, .int x2), (3, .int x3), (4, .int x4)] [] M 0 0 none M' := by
  intro n
  induction n with
  | zero =>
    intro x0 x1 x2 x3 x4 M M' h
    cases h
  | succ n ih =>
    intro x0 x1 x2 x3 x4 M M' h
    rw [f_X1_giveWords_L3] at h
    refine J_iload (pc' := 5) C 4 dX1_giveWords_3 rfl rfl ?_
    refine J_iload_n (pc' := 6) C 2 dX1_giveWords_5 rfl rfl rfl ?_
    refine J_icmp_ge (tgt := 59) (pc' := 9) C dX1_giveWords_6 (by decide) rfl (fun c6 => ?_) (fun c6 => ?_)
    · rw [if_pos c6] at h
      obtain rfl := rt1 h
      exact J_vret C dX1_giveWords_59 (Nat.zero_le _) (Nat.zero_le _)
    · rw [if_neg c6] at h
      refine J_aload_n (pc' := 10) C 0 dX1_giveWords_9 rfl rfl rfl ?_
      obtain ⟨v10, e10, h⟩ := bd h
      refine jg_333 (pc' := 13) C dX1_giveWords_10 rfl (gR_some e10) ?_
      obtain ⟨_, q13, h⟩ := bd h
      obtain ⟨v13, M13, e13, h⟩ := bd2 h
      refine J_cV (pc' := 16) (st := []) (st2 := [.int v13]) (cs2 := 0) (sl2 := 0) C 3 rfl rfl q13 (ok_X3_isAny N e13) mw_X3_isAny wq_413 rfl dX1_giveWords_13 rfl rfl (Nat.le_of_ble_eq_true rfl) (by decide) (by decide) rfl rfl rfl (Nat.zero_le _) (Nat.zero_le _) ?_
      refine J_if_eq (tgt := 59) (pc' := 19) C dX1_giveWords_16 (by decide) rfl (fun c16 => ?_) (fun c16 => ?_)
      · rw [if_pos c16] at h
        obtain rfl := rt1 h
        exact J_vret C dX1_giveWords_59 (Nat.zero_le _) (Nat.zero_le _)
      · rw [if_neg c16] at h
        refine J_aload_n (pc' := 20) C 1 dX1_giveWords_19 rfl rfl rfl ?_
        refine J_aload_n (pc' := 21) C 0 dX1_giveWords_20 rfl rfl rfl ?_
        obtain ⟨v21, e21, h⟩ := bd h
        refine jg_330 (pc' := 24) C dX1_giveWords_21 rfl (gR_some e21) ?_
        refine J_iload_n (pc' := 25) C 3 dX1_giveWords_24 rfl rfl rfl ?_
        refine J_iload (pc' := 27) C 4 dX1_giveWords_25 rfl rfl ?_
        refine J_iadd (pc' := 28) C dX1_giveWords_27 rfl ?_
        obtain ⟨v28, e28, h⟩ := bd h
        refine J_iald (pc' := 29) C dX1_giveWords_28 rfl e28 ?_
        refine J_aload_n (pc' := 30) C 0 dX1_giveWords_29 rfl rfl rfl ?_
        obtain ⟨v30, e30, h⟩ := bd h
        refine jg_333 (pc' := 33) C dX1_giveWords_30 rfl (gR_some e30) ?_
        obtain ⟨_, q33, h⟩ := bd h
        obtain ⟨v33, M33, e33, h⟩ := bd2 h
        refine J_cV (pc' := 36) (st := [.int v28, .ref x1]) (st2 := [.long v33, .int v28, .ref x1]) (cs2 := 0) (sl2 := 0) C 3 rfl rfl q33 (ok_X3_firstRow N e33) mw_X3_firstRow wq_417 rfl dX1_giveWords_33 rfl rfl (Nat.le_of_ble_eq_true rfl) (by decide) (by decide) rfl rfl rfl (Nat.zero_le _) (Nat.zero_le _) ?_
        refine J_aload_n (pc' := 37) C 0 dX1_giveWords_36 rfl rfl rfl ?_
        obtain ⟨v37, e37, h⟩ := bd h
        refine jg_333 (pc' := 40) C dX1_giveWords_37 rfl (gR_some e37) ?_
        obtain ⟨_, q40, h⟩ := bd h
        obtain ⟨v40, M40, e40, h⟩ := bd2 h
        refine J_cV (pc' := 43) (st := [.long v33, .int v28, .ref x1]) (st2 := [.int v40, .long v33, .int v28, .ref x1]) (cs2 := 0) (sl2 := 0) C 3 rfl rfl q40 (ok_X3_firstSize N e40) mw_X3_firstSize wq_421 rfl dX1_giveWords_40 rfl rfl (Nat.le_of_ble_eq_true rfl) (by decide) (by decide) rfl rfl rfl (Nat.zero_le _) (Nat.zero_le _) ?_
        obtain ⟨_, q43, h⟩ := bd h
        obtain ⟨M43, e43, h⟩ := bd h
        refine J_cV (pc' := 46) (st := []) (st2 := []) (cs2 := 0) (sl2 := 0) C 0 rfl rfl q43 (ok_X0_giveWord N e43) mw_X0_giveWord wq_445 rfl dX1_giveWords_43 rfl rfl (Nat.le_of_ble_eq_true rfl) (by decide) (by decide) rfl rfl rfl (Nat.zero_le _) (Nat.zero_le _) ?_
        refine J_aload_n (pc' := 47) C 0 dX1_giveWords_46 rfl rfl rfl ?_
        obtain ⟨v47, e47, h⟩ := bd h
        refine jg_333 (pc' := 50) C dX1_giveWords_47 rfl (gR_some e47) ?_
        obtain ⟨_, q50, h⟩ := bd h
        obtain ⟨M50, e50, h⟩ := bd h
        refine J_cV (pc' := 53) (st := []) (st2 := []) (cs2 := 0) (sl2 := 0) C 3 rfl rfl q50 (ok_X3_dropFirst N e50) mw_X3_dropFirst wq_429 rfl dX1_giveWords_50 rfl rfl (Nat.le_of_ble_eq_true rfl) (by decide) (by decide) rfl rfl rfl (Nat.zero_le _) (Nat.zero_le _) ?_
        refine J_iinc (pc' := 56) (lv' := [(4, .int (x4 + 1)), (0, .ref x0), (1, .ref x1), (2, .int x2), (3, .int x3)]) C 4 dX1_giveWords_53 rfl rfl rfl (by decide) rfl ?_
        refine J_goto (tgt := 3) C dX1_giveWords_56 (by decide) ?_
        refine J_sub (lv' := [(0, .ref x0), (1, .ref x1), (2, .int x2), (3, .int x3), (4, .int (x4 + 1))]) [1, 2, 3, 4, 0] rfl ?_
        exact ih _ _ _ _ _ _ _ h
def f_X1_giveWords (N : Nat) (a0 : Nat) (a1 : Nat) (a2 : Int32) (a3 : Int32) (M : A_M) : Option A_M :=
  f_X1_giveWords_L3 N N a0 a1 a2 a3 (0 : Int32) M
set_option maxHeartbeats 4000000 in
set_option maxRecDepth 100000 in
theorem ok_X1_giveWords (N : Nat) {a0 : Nat} {a1 : Nat} {a2 : Int32} {a3 : Int32} {M : A_M} {M' : A_M} (h : f_X1_giveWords N a0 a1 a2 a3 M = some M') : Runs yX1_giveWords cX1_giveWords 5 none 1 24 0 0 [.ref a0, .ref a1, .int a2, .int a3] M none M' := by
  refine Runs.intro (by decide) (Nat.le_of_ble_eq_true rfl) (fun X C hnm hMC hMS => ?_)
  have C : Cx X cX1_giveWords RX1 5 none 1 24 := C
  show J X 5 0 [(0, .ref a0), (1, .ref a1), (2, .int a2), (3, .int a3)] [] M 0 0 none M'
  unfold f_X1_giveWords at h
  refine J_iconst (pc' := 1) (v := (0 : Int32)) C dX1_giveWords_0 rfl (by decide) ?_
  refine J_istore (pc' := 3) (lv' := [(4, .int (0 : Int32)), (0, .ref a0), (1, .ref a1), (2, .int a2), (3, .int a3)]) C dX1_giveWords_1 rfl (by decide) rfl ?_
  refine J_sub (lv' := [(0, .ref a0), (1, .ref a1), (2, .int a2), (3, .int a3), (4, .int (0 : Int32))]) [1, 2, 3, 4, 0] rfl ?_
  exact ok_X1_giveWords_L3 C N N _ _ _ _ _ _ _ h
def f_X1_make_K182 (N : Nat) (k104 : Nat → Nat → Int32 → Int32 → Int32 → Int32 → Int32 → Int32 → A_M → Option (Int32 × A_M)) (x0 : Nat) (x1 : Nat) (x3 : Int32) (x5 : Int32) (x6 : Int32) (x7 : Int32) (x8 : Int32) (x10 : Int32) (M : A_M) : Option (Int32 × A_M) :=
  (gR M x0 1 5).bind fun v187 =>
  (ldI M v187 (1 : Int32)).bind fun v191 =>
  (gR M x0 1 5).bind fun v206 =>
  (ldI M v206 (2 : Int32)).bind fun v210 =>
  (gR M x0 1 5).bind fun v223 =>
  (ldI M v223 (3 : Int32)).bind fun v227 =>
  k104 x0 x1 x3 (mnI x7 (x5 + (v191 * x10))) (mnI x7 (x6 + (v210 * x10))) (mnI x7 (v227 * x10)) x7 (x8 + 1) M
set_option maxHeartbeats 4000000 in
set_option maxRecDepth 100000 in
theorem ok_X1_make_K182 {X : JX} (C : Cx X cX1_make RX1 12 (some .boolean) 99 2968) (N : Nat) {k104 : Nat → Nat → Int32 → Int32 → Int32 → Int32 → Int32 → Int32 → A_M → Option (Int32 × A_M)} (hk104 : ∀ (x0 : Nat) (x1 : Nat) (x3 : Int32) (x4 : Int32) (x5 : Int32) (x6 : Int32) (x7 : Int32) (x8 : Int32) (M : A_M) (r : Int32) (M' : A_M), k104 x0 x1 x3 x4 x5 x6 x7 x8 M = some (r, M') → J X 12 104 [(0, .ref x0), (1, .ref x1), (3, .int x3), (4, .int x4), (5, .int x5), (6, .int x6), (7, .int x7), (8, .int x8)] [] M 0 0 (some (.int r)) M') : ∀ (x0 : Nat) (x1 : Nat) (x3 : Int32) (x5 : Int32) (x6 : Int32) (x7 : Int32) (x8 : Int32) (x10 : Int32) (M : A_M) (r : Int32) (M' : A_M), f_X1_make_K182 N k104 x0 x1 x3 x5 x6 x7 x8 x10 M = some (r, M') → J X 12 182 [(0, .ref x0), (1, .ref x1), (3, .int x3), (5, .int x5), (6, .int x6), (7, .int x7), (8, .int x8), (10, .int x10)] [] M 0 0 (some (.int r)) M' := by
  intro x0 x1 x3 x5 x6 x7 x8 x10 M r M' h
  unfold f_X1_make_K182 at h
  refine J_iload (pc' := 184) C 5 dX1_make_182 rfl rfl ?_
  refine J_iload (pc' := 186) C 3 dX1_make_184 rfl rfl ?_
  refine J_aload_n (pc' := 187) C 0 dX1_make_186 rfl rfl rfl ?_
  obtain ⟨v187, e187, h⟩ := bd h
  refine jg_332 (pc' := 190) C dX1_make_187 rfl (gR_some e187) ?_
  refine J_iconst (pc' := 191) (v := (1 : Int32)) C dX1_make_190 rfl (by decide) ?_
  obtain ⟨v191, e191, h⟩ := bd h
  refine J_iald (pc' := 192) C dX1_make_191 rfl e191 ?_
  refine J_iload (pc' := 194) C 7 dX1_make_192 rfl rfl ?_
  refine J_imul (pc' := 195) C dX1_make_194 rfl ?_
  refine J_iadd (pc' := 196) C dX1_make_195 rfl ?_
  refine J_mmin (pc' := 199) C wq_366 dX1_make_196 rfl (Nat.le_of_ble_eq_true rfl) (by decide) (by decide) (Nat.zero_le _) (Nat.zero_le _) ?_
  refine J_istore (pc' := 201) (lv' := [(4, .int (mnI x7 (x5 + (v191 * x10)))), (0, .ref x0), (1, .ref x1), (3, .int x3), (5, .int x5), (6, .int x6), (7, .int x7), (8, .int x8), (10, .int x10)]) C dX1_make_199 rfl (by decide) rfl ?_
  refine J_iload (pc' := 203) C 6 dX1_make_201 rfl rfl ?_
  refine J_iload (pc' := 205) C 5 dX1_make_203 rfl rfl ?_
  refine J_aload_n (pc' := 206) C 1 dX1_make_205 rfl rfl rfl ?_
  obtain ⟨v206, e206, h⟩ := bd h
  refine jg_332 (pc' := 209) C dX1_make_206 rfl (gR_some e206) ?_
  refine J_iconst (pc' := 210) (v := (2 : Int32)) C dX1_make_209 rfl (by decide) ?_
  obtain ⟨v210, e210, h⟩ := bd h
  refine J_iald (pc' := 211) C dX1_make_210 rfl e210 ?_
  refine J_iload (pc' := 213) C 8 dX1_make_211 rfl rfl ?_
  refine J_imul (pc' := 214) C dX1_make_213 rfl ?_
  refine J_iadd (pc' := 215) C dX1_make_214 rfl ?_
  refine J_mmin (pc' := 218) C wq_366 dX1_make_215 rfl (Nat.le_of_ble_eq_true rfl) (by decide) (by decide) (Nat.zero_le _) (Nat.zero_le _) ?_
  refine J_istore (pc' := 220) (lv' := [(5, .int (mnI x7 (x6 + (v210 * x10)))), (4, .int (mnI x7 (x5 + (v191 * x10)))), (0, .ref x0), (1, .ref x1), (3, .int x3), (6, .int x6), (7, .int x7), (8, .int x8), (10, .int x10)]) C dX1_make_218 rfl (by decide) rfl ?_
  refine J_iload (pc' := 222) C 6 dX1_make_220 rfl rfl ?_
  refine J_aload_n (pc' := 223) C 2 dX1_make_222 rfl rfl rfl ?_
  obtain ⟨v223, e223, h⟩ := bd h
  refine jg_332 (pc' := 226) C dX1_make_223 rfl (gR_some e223) ?_
  refine J_iconst (pc' := 227) (v := (3 : Int32)) C dX1_make_226 rfl (by decide) ?_
  obtain ⟨v227, e227, h⟩ := bd h
  refine J_iald (pc' := 228) C dX1_make_227 rfl e227 ?_
  refine J_iload (pc' := 230) C 8 dX1_make_228 rfl rfl ?_
  refine J_imul (pc' := 231) C dX1_make_230 rfl ?_
  refine J_mmin (pc' := 234) C wq_366 dX1_make_231 rfl (Nat.le_of_ble_eq_true rfl) (by decide) (by decide) (Nat.zero_le _) (Nat.zero_le _) ?_
  refine J_istore (pc' := 236) (lv' := [(6, .int (mnI x7 (v227 * x10))), (5, .int (mnI x7 (x6 + (v210 * x10)))), (4, .int (mnI x7 (x5 + (v191 * x10)))), (0, .ref x0), (1, .ref x1), (3, .int x3), (7, .int x7), (8, .int x8), (10, .int x10)]) C dX1_make_234 rfl (by decide) rfl ?_
  refine J_iinc (pc' := 239) (lv' := [(8, .int (x8 + 1)), (6, .int (mnI x7 (v227 * x10))), (5, .int (mnI x7 (x6 + (v210 * x10)))), (4, .int (mnI x7 (x5 + (v191 * x10)))), (0, .ref x0), (1, .ref x1), (3, .int x3), (7, .int x7), (10, .int x10)]) C 7 dX1_make_236 rfl rfl rfl (by decide) rfl ?_
  refine J_goto (tgt := 104) C dX1_make_239 (by decide) ?_
  refine J_sub (lv' := [(0, .ref x0), (1, .ref x1), (3, .int x3), (4, .int (mnI x7 (x5 + (v191 * x10)))), (5, .int (mnI x7 (x6 + (v210 * x10)))), (6, .int (mnI x7 (v227 * x10))), (7, .int x7), (8, .int (x8 + 1))]) [4, 5, 6, 3, 2, 1, 7, 0] rfl ?_
  exact hk104 _ _ _ _ _ _ _ _ _ _ _ h
def f_X1_make_L160 (N : Nat) (k104 : Nat → Nat → Int32 → Int32 → Int32 → Int32 → Int32 → Int32 → A_M → Option (Int32 × A_M)) : Nat → Nat → Nat → Int32 → Int32 → Int32 → Int32 → Int32 → Int32 → Int32 → A_M → Option (Int32 × A_M)
  | 0, _, _, _, _, _, _, _, _, _, _ => none
  | n + 1, x0, x1, x3, x5, x6, x7, x8, x10, x11, M =>
    if x10 ≤ x11 then
    (f_X1_make_K182 N k104 x0 x1 x3 x5 x6 x7 x8 x10 M)
    else
    (if x7 ≤ 0 then
    (f_X1_make_K182 N k104 x0 x1 x3 x5 x6 x7 x8 x10 M)
    else
    ((chk M x0 1).bind fun _ =>
    (f_X1_continueFirst N x0 M).bind fun M173 =>
    f_X1_make_L160 N k104 n x0 x1 x3 x5 x6 x7 x8 x10 (x11 + 1) M173))
set_option maxHeartbeats 4000000 in
set_option maxRecDepth 100000 in
theorem ok_X1_make_L160 {X : JX} (C : Cx X cX1_make RX1 12 (some .boolean) 99 2968) (N : Nat) {k104 : Nat → Nat → Int32 → Int32 → Int32 → Int32 → Int32 → Int32 → A_M → Option (Int32 × A_M)} (hk104 : ∀ (x0 : Nat) (x1 : Nat) (x3 : Int32) (x4 : Int32) (x5 : Int32) (x6 : Int32) (x7 : Int32) (x8 : Int32) (M : A_M) (r : Int32) (M' : A_M), k104 x0 x1 x3 x4 x5 x6 x7 x8 M = some (r, M') → J X 12 104 [(0, .ref x0), (1, .ref x1), (3, .int x3), (4, .int x4), (5, .int x5), (6, .int x6), (7, .int x7), (8, .int x8)] [] M 0 0 (some (.int r)) M') : ∀ (n : Nat) (x0 : Nat) (x1 : Nat) (x3 : Int32) (x5 : Int32) (x6 : Int32) (x7 : Int32) (x8 : Int32) (x10 : Int32) (x11 : Int32) (M : A_M) (r : Int32) (M' : A_M), f_X1_make_L160 N k104 n x0 x1 x3 x5 x6 x7 x8 x10 x11 M = some (r, M') → J X 12 160 [(0, .ref x0), (1, .ref x1), (3, .int x3), (5, .int x5), (6, .int x6), (7, .int x7), (8, .int x8), (10, .int x10), (11, .int x11)] [] M 0 0 (some (.int r)) M' := by
  intro n
  induction n with
  | zero =>
    intro x0 x1 x3 x5 x6 x7 x8 x10 x11 M r M' h
    cases h
  | succ n ih =>
    intro x0 x1 x3 x5 x6 x7 x8 x10 x11 M r M' h
    rw [f_X1_make_L160] at h
    refine J_iload (pc' := 162) C 8 dX1_make_160 rfl rfl ?_
    refine J_iload (pc' := 164) C 7 dX1_make_162 rfl rfl ?_
    refine J_icmp_ge (tgt := 182) (pc' := 167) C dX1_make_164 (by decide) rfl (fun c164 => ?_) (fun c164 => ?_)
    · rw [if_pos c164] at h
      refine J_sub (lv' := [(0, .ref x0), (1, .ref x1), (3, .int x3), (5, .int x5), (6, .int x6), (7, .int x7), (8, .int x8), (10, .int x10)]) [0, 1, 2, 3, 4, 5, 6, 7] rfl ?_
      exact ok_X1_make_K182 C N hk104 _ _ _ _ _ _ _ _ _ _ _ h
    · rw [if_neg c164] at h
      refine J_iload (pc' := 169) C 5 dX1_make_167 rfl rfl ?_
      refine J_if_le (tgt := 182) (pc' := 172) C dX1_make_169 (by decide) rfl (fun c169 => ?_) (fun c169 => ?_)
      · rw [if_pos c169] at h
        refine J_sub (lv' := [(0, .ref x0), (1, .ref x1), (3, .int x3), (5, .int x5), (6, .int x6), (7, .int x7), (8, .int x8), (10, .int x10)]) [0, 1, 2, 3, 4, 5, 6, 7] rfl ?_
        exact ok_X1_make_K182 C N hk104 _ _ _ _ _ _ _ _ _ _ _ h
      · rw [if_neg c169] at h
        refine J_aload_n (pc' := 173) C 0 dX1_make_172 rfl rfl rfl ?_
        obtain ⟨_, q173, h⟩ := bd h
        obtain ⟨M173, e173, h⟩ := bd h
        refine J_cV (pc' := 176) (st := []) (st2 := []) (cs2 := 0) (sl2 := 0) C 1 rfl rfl q173 (ok_X1_continueFirst N e173) mw_X1_continueFirst wq_409 rfl dX1_make_173 rfl rfl (Nat.le_of_ble_eq_true rfl) (by decide) (by decide) rfl rfl rfl (Nat.zero_le _) (Nat.zero_le _) ?_
        refine J_iinc (pc' := 179) (lv' := [(11, .int (x11 + 1)), (0, .ref x0), (1, .ref x1), (3, .int x3), (5, .int x5), (6, .int x6), (7, .int x7), (8, .int x8), (10, .int x10)]) C 8 dX1_make_176 rfl rfl rfl (by decide) rfl ?_
        refine J_goto (tgt := 160) C dX1_make_179 (by decide) ?_
        refine J_sub (lv' := [(0, .ref x0), (1, .ref x1), (3, .int x3), (5, .int x5), (6, .int x6), (7, .int x7), (8, .int x8), (10, .int x10), (11, .int (x11 + 1))]) [1, 2, 3, 4, 5, 6, 7, 8, 0] rfl ?_
        exact ih _ _ _ _ _ _ _ _ _ _ _ _ h
def f_X1_make_L104 (N : Nat) : Nat → Nat → Nat → Int32 → Int32 → Int32 → Int32 → Int32 → Int32 → A_M → Option (Int32 × A_M)
  | 0, _, _, _, _, _, _, _, _, _ => none
  | n + 1, x0, x1, x3, x4, x5, x6, x7, x8, M =>
    if (40 : Int32) ≤ x8 then
    (some ((1 : Int32), M))
    else
    (if x7 ≤ 0 then
    (some ((1 : Int32), M))
    else
    ((chk M x0 1).bind fun _ =>
    bnd2 (f_X1_wordsAt N x0 x8 x4 x5 x6 x7 M) fun v127 M127 =>
    (chk M127 x0 1).bind fun _ =>
    (f_X1_giveWords N x0 x1 v127 (x3 - x7) M127).bind fun M140 =>
    f_X1_make_L160 N (f_X1_make_L104 N n) N x0 x1 x3 x5 x6 (x7 - v127) x8 (x4 - v127) (0 : Int32) M140))
set_option maxHeartbeats 4000000 in
set_option maxRecDepth 100000 in
theorem ok_X1_make_L104 {X : JX} (C : Cx X cX1_make RX1 12 (some .boolean) 99 2968) (N : Nat) : ∀ (n : Nat) (x0 : Nat) (x1 : Nat) (x3 : Int32) (x4 : Int32) (x5 : Int32) (x6 : Int32) (x7 : Int32) (x8 : Int32) (M : A_M) (r : Int32) (M' : A_M), f_X1_make_L104 N n x0 x1 x3 x4 x5 x6 x7 x8 M = some (r, M') → J X 12 104 [(0, .ref x0), (1, .ref x1), (3, .int x3), (4, .int x4), (5, .int x5), (6, .int x6), (7, .int x7), (8, .int x8)] [] M 0 0 (some (.int r)) M' := by
  intro n
  induction n with
  | zero =>
    intro x0 x1 x3 x4 x5 x6 x7 x8 M r M' h
    cases h
  | succ n ih =>
    intro x0 x1 x3 x4 x5 x6 x7 x8 M r M' h
    rw [f_X1_make_L104] at h
    refine J_iload (pc' := 106) C 7 dX1_make_104 rfl rfl ?_
    refine J_bipush (pc' := 108) (v := (40 : Int32)) C dX1_make_106 rfl (by decide) ?_
    refine J_icmp_ge (tgt := 242) (pc' := 111) C dX1_make_108 (by decide) rfl (fun c108 => ?_) (fun c108 => ?_)
    · rw [if_pos c108] at h
      refine J_iconst (pc' := 243) (v := (1 : Int32)) C dX1_make_242 rfl (by decide) ?_
      obtain ⟨rfl, rfl⟩ := rt2 h
      exact J_zret C rfl dX1_make_243 (Nat.zero_le _) (Nat.zero_le _)
    · rw [if_neg c108] at h
      refine J_iload (pc' := 113) C 6 dX1_make_111 rfl rfl ?_
      refine J_if_le (tgt := 242) (pc' := 116) C dX1_make_113 (by decide) rfl (fun c113 => ?_) (fun c113 => ?_)
      · rw [if_pos c113] at h
        refine J_iconst (pc' := 243) (v := (1 : Int32)) C dX1_make_242 rfl (by decide) ?_
        obtain ⟨rfl, rfl⟩ := rt2 h
        exact J_zret C rfl dX1_make_243 (Nat.zero_le _) (Nat.zero_le _)
      · rw [if_neg c113] at h
        refine J_aload_n (pc' := 117) C 0 dX1_make_116 rfl rfl rfl ?_
        refine J_iload (pc' := 119) C 7 dX1_make_117 rfl rfl ?_
        refine J_iload (pc' := 121) C 3 dX1_make_119 rfl rfl ?_
        refine J_iload (pc' := 123) C 4 dX1_make_121 rfl rfl ?_
        refine J_iload (pc' := 125) C 5 dX1_make_123 rfl rfl ?_
        refine J_iload (pc' := 127) C 6 dX1_make_125 rfl rfl ?_
        obtain ⟨_, q127, h⟩ := bd h
        obtain ⟨v127, M127, e127, h⟩ := bd2 h
        refine J_cV (pc' := 130) (st := []) (st2 := [.int v127]) (cs2 := 0) (sl2 := 0) C 1 rfl rfl q127 (ok_X1_wordsAt N e127) mw_X1_wordsAt wq_437 rfl dX1_make_127 rfl rfl (Nat.le_of_ble_eq_true rfl) (by decide) (by decide) rfl rfl rfl (Nat.zero_le _) (Nat.zero_le _) ?_
        refine J_istore (pc' := 132) (lv' := [(9, .int v127), (0, .ref x0), (1, .ref x1), (3, .int x3), (4, .int x4), (5, .int x5), (6, .int x6), (7, .int x7), (8, .int x8)]) C dX1_make_130 rfl (by decide) rfl ?_
        refine J_aload_n (pc' := 133) C 1 dX1_make_132 rfl rfl rfl ?_
        refine J_aload_n (pc' := 134) C 2 dX1_make_133 rfl rfl rfl ?_
        refine J_iload (pc' := 136) C 0 dX1_make_134 rfl rfl ?_
        refine J_iload_n (pc' := 137) C 3 dX1_make_136 rfl rfl rfl ?_
        refine J_iload (pc' := 139) C 7 dX1_make_137 rfl rfl ?_
        refine J_isub (pc' := 140) C dX1_make_139 rfl ?_
        obtain ⟨_, q140, h⟩ := bd h
        obtain ⟨M140, e140, h⟩ := bd h
        refine J_cV (pc' := 143) (st := []) (st2 := []) (cs2 := 0) (sl2 := 0) C 1 rfl rfl q140 (ok_X1_giveWords N e140) mw_X1_giveWords wq_441 rfl dX1_make_140 rfl rfl (Nat.le_of_ble_eq_true rfl) (by decide) (by decide) rfl rfl rfl (Nat.zero_le _) (Nat.zero_le _) ?_
        refine J_iload (pc' := 145) C 7 dX1_make_143 rfl rfl ?_
        refine J_iload (pc' := 147) C 0 dX1_make_145 rfl rfl ?_
        refine J_isub (pc' := 148) C dX1_make_147 rfl ?_
        refine J_istore (pc' := 150) (lv' := [(7, .int (x7 - v127)), (9, .int v127), (0, .ref x0), (1, .ref x1), (3, .int x3), (4, .int x4), (5, .int x5), (6, .int x6), (8, .int x8)]) C dX1_make_148 rfl (by decide) rfl ?_
        refine J_iload (pc' := 152) C 5 dX1_make_150 rfl rfl ?_
        refine J_iload (pc' := 154) C 1 dX1_make_152 rfl rfl ?_
        refine J_isub (pc' := 155) C dX1_make_154 rfl ?_
        refine J_istore (pc' := 157) (lv' := [(10, .int (x4 - v127)), (7, .int (x7 - v127)), (9, .int v127), (0, .ref x0), (1, .ref x1), (3, .int x3), (4, .int x4), (5, .int x5), (6, .int x6), (8, .int x8)]) C dX1_make_155 rfl (by decide) rfl ?_
        refine J_iconst (pc' := 158) (v := (0 : Int32)) C dX1_make_157 rfl (by decide) ?_
        refine J_istore (pc' := 160) (lv' := [(11, .int (0 : Int32)), (10, .int (x4 - v127)), (7, .int (x7 - v127)), (9, .int v127), (0, .ref x0), (1, .ref x1), (3, .int x3), (4, .int x4), (5, .int x5), (6, .int x6), (8, .int x8)]) C dX1_make_158 rfl (by decide) rfl ?_
        refine J_sub (lv' := [(0, .ref x0), (1, .ref x1), (3, .int x3), (5, .int x5), (6, .int x6), (7, .int (x7 - v127)), (8, .int x8), (10, .int (x4 - v127)), (11, .int (0 : Int32))]) [4, 5, 6, 8, 9, 2, 10, 1, 0] rfl ?_
        exact ok_X1_make_L160 C N ih N _ _ _ _ _ _ _ _ _ _ _ _ h
def f_X1_make (N : Nat) (a0 : Nat) (a1 : Nat) (a2 : Nat) (a3 : Int32) (M : A_M) : Option (Int32 × A_M) :=
  (gR M a0 1 3).bind fun v1 =>
  (f_X6_rankThings N v1 a2 a3 M).bind fun M6 =>
  (chk M6 a0 1).bind fun _ =>
  (f_X1_sumLastCounts N a0 a2 a3 M6).bind fun M12 =>
  (gI M12 a0 1 7).bind fun v17 =>
  (pV M12 a0 1 7 (.int (v17 + (1 : Int32)))).bind fun M22 =>
  (gR M22 a0 1 5).bind fun v27 =>
  (ldI M22 v27 (1 : Int32)).bind fun v31 =>
  (gR M22 a0 1 5).bind fun v39 =>
  (ldI M22 v39 (2 : Int32)).bind fun v43 =>
  (gR M22 a0 1 5).bind fun v51 =>
  (ldI M22 v51 (3 : Int32)).bind fun v55 =>
  (chk M22 a0 1).bind fun _ =>
  bnd2 (f_X1_least N 48 a0 (1 : Int32) (mnI a3 v31) (mnI a3 v43) (mnI a3 v55) a3 M22) fun v70 M70 =>
  if (lg_cmp v70 (1152921504606846976 : Int64)) < 0 then
  ((chk M70 a1 0).bind fun _ =>
  (f_X0_begin N a1 a3 M70).bind fun M84 =>
  (gR M84 a0 1 6).bind fun v88 =>
  (chk M84 v88 3).bind fun _ =>
  (f_X3_start N v88 M84).bind fun M91 =>
  (chk M91 a0 1).bind fun _ =>
  (f_X1_continueFirst N a0 M91).bind fun M95 =>
  f_X1_make_L104 N N a0 a1 a3 (mnI a3 v31) (mnI a3 v43) (mnI a3 v55) a3 (1 : Int32) M95)
  else
  (some ((0 : Int32), M70))
set_option maxHeartbeats 4000000 in
set_option maxRecDepth 100000 in
theorem ok_X1_make (N : Nat) {a0 : Nat} {a1 : Nat} {a2 : Nat} {a3 : Int32} {M : A_M} {r : Int32} {M' : A_M} (h : f_X1_make N a0 a1 a2 a3 M = some (r, M')) : Runs yX1_make cX1_make 12 (some .boolean) 99 2968 0 0 [.ref a0, .ref a1, .ref a2, .int a3] M (some (.int r)) M' := by
  refine Runs.intro (by decide) (Nat.le_of_ble_eq_true rfl) (fun X C hnm hMC hMS => ?_)
  have C : Cx X cX1_make RX1 12 (some .boolean) 99 2968 := C
  show J X 12 0 [(0, .ref a0), (1, .ref a1), (2, .ref a2), (3, .int a3)] [] M 0 0 (some (.int r)) M'
  unfold f_X1_make at h
  refine J_aload_n (pc' := 1) C 0 dX1_make_0 rfl rfl rfl ?_
  obtain ⟨v1, e1, h⟩ := bd h
  refine jg_330 (pc' := 4) C dX1_make_1 rfl (gR_some e1) ?_
  refine J_aload_n (pc' := 5) C 2 dX1_make_4 rfl rfl rfl ?_
  refine J_iload_n (pc' := 6) C 3 dX1_make_5 rfl rfl rfl ?_
  obtain ⟨M6, e6, h⟩ := bd h
  refine J_cSN (pc' := 9) (st := []) (st2 := []) (cs2 := 0) (sl2 := 0) C (ok_X6_rankThings N e6) mw_X6_rankThings wn_373 rfl dX1_make_6 rfl rfl (Nat.le_of_ble_eq_true rfl) (by decide) (by decide) rfl rfl rfl (Nat.zero_le _) (Nat.zero_le _) ?_
  refine J_aload_n (pc' := 10) C 0 dX1_make_9 rfl rfl rfl ?_
  refine J_aload_n (pc' := 11) C 2 dX1_make_10 rfl rfl rfl ?_
  refine J_iload_n (pc' := 12) C 3 dX1_make_11 rfl rfl rfl ?_
  obtain ⟨_, q12, h⟩ := bd h
  obtain ⟨M12, e12, h⟩ := bd h
  refine J_cV (pc' := 15) (st := []) (st2 := []) (cs2 := 0) (sl2 := 0) C 1 rfl rfl q12 (ok_X1_sumLastCounts N e12) mw_X1_sumLastCounts wq_376 rfl dX1_make_12 rfl rfl (Nat.le_of_ble_eq_true rfl) (by decide) (by decide) rfl rfl rfl (Nat.zero_le _) (Nat.zero_le _) ?_
  refine J_aload_n (pc' := 16) C 0 dX1_make_15 rfl rfl rfl ?_
  refine J_dup (pc' := 17) C dX1_make_16 rfl rfl ?_
  obtain ⟨v17, e17, h⟩ := bd h
  refine jg_334 (pc' := 20) C dX1_make_17 rfl (gI_some e17) ?_
  refine J_iconst (pc' := 21) (v := (1 : Int32)) C dX1_make_20 rfl (by decide) ?_
  refine J_iadd (pc' := 22) C dX1_make_21 rfl ?_
  obtain ⟨M22, e22, h⟩ := bd h
  refine jp_334 (pc' := 25) C (fun _ => ⟨rfl, rfl⟩) dX1_make_22 rfl e22 ?_
  refine J_iload_n (pc' := 26) C 3 dX1_make_25 rfl rfl rfl ?_
  refine J_aload_n (pc' := 27) C 0 dX1_make_26 rfl rfl rfl ?_
  obtain ⟨v27, e27, h⟩ := bd h
  refine jg_332 (pc' := 30) C dX1_make_27 rfl (gR_some e27) ?_
  refine J_iconst (pc' := 31) (v := (1 : Int32)) C dX1_make_30 rfl (by decide) ?_
  obtain ⟨v31, e31, h⟩ := bd h
  refine J_iald (pc' := 32) C dX1_make_31 rfl e31 ?_
  refine J_mmin (pc' := 35) C wq_366 dX1_make_32 rfl (Nat.le_of_ble_eq_true rfl) (by decide) (by decide) (Nat.zero_le _) (Nat.zero_le _) ?_
  refine J_istore (pc' := 37) (lv' := [(4, .int (mnI a3 v31)), (0, .ref a0), (1, .ref a1), (2, .ref a2), (3, .int a3)]) C dX1_make_35 rfl (by decide) rfl ?_
  refine J_iload_n (pc' := 38) C 4 dX1_make_37 rfl rfl rfl ?_
  refine J_aload_n (pc' := 39) C 1 dX1_make_38 rfl rfl rfl ?_
  obtain ⟨v39, e39, h⟩ := bd h
  refine jg_332 (pc' := 42) C dX1_make_39 rfl (gR_some e39) ?_
  refine J_iconst (pc' := 43) (v := (2 : Int32)) C dX1_make_42 rfl (by decide) ?_
  obtain ⟨v43, e43, h⟩ := bd h
  refine J_iald (pc' := 44) C dX1_make_43 rfl e43 ?_
  refine J_mmin (pc' := 47) C wq_366 dX1_make_44 rfl (Nat.le_of_ble_eq_true rfl) (by decide) (by decide) (Nat.zero_le _) (Nat.zero_le _) ?_
  refine J_istore (pc' := 49) (lv' := [(5, .int (mnI a3 v43)), (4, .int (mnI a3 v31)), (0, .ref a0), (1, .ref a1), (2, .ref a2), (3, .int a3)]) C dX1_make_47 rfl (by decide) rfl ?_
  refine J_iload_n (pc' := 50) C 5 dX1_make_49 rfl rfl rfl ?_
  refine J_aload_n (pc' := 51) C 2 dX1_make_50 rfl rfl rfl ?_
  obtain ⟨v51, e51, h⟩ := bd h
  refine jg_332 (pc' := 54) C dX1_make_51 rfl (gR_some e51) ?_
  refine J_iconst (pc' := 55) (v := (3 : Int32)) C dX1_make_54 rfl (by decide) ?_
  obtain ⟨v55, e55, h⟩ := bd h
  refine J_iald (pc' := 56) C dX1_make_55 rfl e55 ?_
  refine J_mmin (pc' := 59) C wq_366 dX1_make_56 rfl (Nat.le_of_ble_eq_true rfl) (by decide) (by decide) (Nat.zero_le _) (Nat.zero_le _) ?_
  refine J_istore (pc' := 61) (lv' := [(6, .int (mnI a3 v55)), (5, .int (mnI a3 v43)), (4, .int (mnI a3 v31)), (0, .ref a0), (1, .ref a1), (2, .ref a2), (3, .int a3)]) C dX1_make_59 rfl (by decide) rfl ?_
  refine J_aload_n (pc' := 62) C 3 dX1_make_61 rfl rfl rfl ?_
  refine J_iconst (pc' := 63) (v := (1 : Int32)) C dX1_make_62 rfl (by decide) ?_
  refine J_iload (pc' := 65) C 2 dX1_make_63 rfl rfl ?_
  refine J_iload (pc' := 67) C 1 dX1_make_65 rfl rfl ?_
  refine J_iload (pc' := 69) C 0 dX1_make_67 rfl rfl ?_
  refine J_iload_n (pc' := 70) C 6 dX1_make_69 rfl rfl rfl ?_
  obtain ⟨_, q70, h⟩ := bd h
  obtain ⟨v70, M70, e70, h⟩ := bd2 h
  refine J_cV (pc' := 73) (st := []) (st2 := [.long v70]) (cs2 := 0) (sl2 := 0) C 1 rfl rfl q70 (ok_X1_least N 48 a0 (1 : Int32) (mnI a3 v31) (mnI a3 v43) (mnI a3 v55) a3 _ _ _ e70) mw_X1_least wq_380 rfl dX1_make_70 rfl rfl (Nat.le_of_ble_eq_true rfl) (by decide) (by decide) rfl rfl rfl (Nat.zero_le _) (Nat.zero_le _) ?_
  refine J_ldc2 (pc' := 76) C dX1_make_73 rfl wq_384 ?_
  refine J_lcmp (pc' := 77) C dX1_make_76 rfl ?_
  refine J_if_lt (tgt := 82) (pc' := 80) C dX1_make_77 (by decide) rfl (fun c77 => ?_) (fun c77 => ?_)
  · rw [if_pos c77] at h
    refine J_aload_n (pc' := 83) C 4 dX1_make_82 rfl rfl rfl ?_
    refine J_iload_n (pc' := 84) C 6 dX1_make_83 rfl rfl rfl ?_
    obtain ⟨_, q84, h⟩ := bd h
    obtain ⟨M84, e84, h⟩ := bd h
    refine J_cV (pc' := 87) (st := []) (st2 := []) (cs2 := 0) (sl2 := 0) C 0 rfl rfl q84 (ok_X0_begin N e84) mw_X0_begin wq_396 rfl dX1_make_84 rfl rfl (Nat.le_of_ble_eq_true rfl) (by decide) (by decide) rfl rfl rfl (Nat.zero_le _) (Nat.zero_le _) ?_
    refine J_aload_n (pc' := 88) C 3 dX1_make_87 rfl rfl rfl ?_
    obtain ⟨v88, e88, h⟩ := bd h
    refine jg_333 (pc' := 91) C dX1_make_88 rfl (gR_some e88) ?_
    obtain ⟨_, q91, h⟩ := bd h
    obtain ⟨M91, e91, h⟩ := bd h
    refine J_cV (pc' := 94) (st := []) (st2 := []) (cs2 := 0) (sl2 := 0) C 3 rfl rfl q91 (ok_X3_start N e91) mw_X3_start wq_397 rfl dX1_make_91 rfl rfl (Nat.le_of_ble_eq_true rfl) (by decide) (by decide) rfl rfl rfl (Nat.zero_le _) (Nat.zero_le _) ?_
    refine J_aload_n (pc' := 95) C 3 dX1_make_94 rfl rfl rfl ?_
    obtain ⟨_, q95, h⟩ := bd h
    obtain ⟨M95, e95, h⟩ := bd h
    refine J_cV (pc' := 98) (st := []) (st2 := []) (cs2 := 0) (sl2 := 0) C 1 rfl rfl q95 (ok_X1_continueFirst N e95) mw_X1_continueFirst wq_409 rfl dX1_make_95 rfl rfl (Nat.le_of_ble_eq_true rfl) (by decide) (by decide) rfl rfl rfl (Nat.zero_le _) (Nat.zero_le _) ?_
    refine J_iload_n (pc' := 99) C 6 dX1_make_98 rfl rfl rfl ?_
    refine J_istore (pc' := 101) (lv' := [(7, .int a3), (6, .int (mnI a3 v55)), (5, .int (mnI a3 v43)), (4, .int (mnI a3 v31)), (0, .ref a0), (1, .ref a1), (2, .ref a2), (3, .int a3)]) C dX1_make_99 rfl (by decide) rfl ?_
    refine J_iconst (pc' := 102) (v := (1 : Int32)) C dX1_make_101 rfl (by decide) ?_
    refine J_istore (pc' := 104) (lv' := [(8, .int (1 : Int32)), (7, .int a3), (6, .int (mnI a3 v55)), (5, .int (mnI a3 v43)), (4, .int (mnI a3 v31)), (0, .ref a0), (1, .ref a1), (2, .ref a2), (3, .int a3)]) C dX1_make_102 rfl (by decide) rfl ?_
    refine J_sub (lv' := [(0, .ref a0), (1, .ref a1), (3, .int a3), (4, .int (mnI a3 v31)), (5, .int (mnI a3 v43)), (6, .int (mnI a3 v55)), (7, .int a3), (8, .int (1 : Int32))]) [5, 6, 8, 4, 3, 2, 1, 0] rfl ?_
    exact ok_X1_make_L104 C N N _ _ _ _ _ _ _ _ _ _ _ h
  · rw [if_neg c77] at h
    refine J_iconst (pc' := 81) (v := (0 : Int32)) C dX1_make_80 rfl (by decide) ?_
    obtain ⟨rfl, rfl⟩ := rt2 h
    exact J_zret C rfl dX1_make_81 (Nat.zero_le _) (Nat.zero_le _)
def f_X2_putSign (N : Nat) (a0 : Nat) (a1 : Int32) (M : A_M) : Option A_M :=
  (gR M a0 2 0).bind fun v1 =>
  (gI M a0 2 2).bind fun v5 =>
  (stI M v1 v5 a1).bind fun M9 =>
  (gI M9 a0 2 2).bind fun v12 =>
  (pV M9 a0 2 2 (.int (v12 + (1 : Int32)))).bind fun M17 =>
  some M17
set_option maxHeartbeats 4000000 in
set_option maxRecDepth 100000 in
theorem ok_X2_putSign (N : Nat) {a0 : Nat} {a1 : Int32} {M : A_M} {M' : A_M} (h : f_X2_putSign N a0 a1 M = some M') : Runs yX2_putSign cX2_putSign 2 none 0 0 0 0 [.ref a0, .int a1] M none M' := by
  refine Runs.intro (by decide) (Nat.le_of_ble_eq_true rfl) (fun X C hnm hMC hMS => ?_)
  have C : Cx X cX2_putSign RX2 2 none 0 0 := C
  show J X 2 0 [(0, .ref a0), (1, .int a1)] [] M 0 0 none M'
  unfold f_X2_putSign at h
  refine J_aload_n (pc' := 1) C 0 dX2_putSign_0 rfl rfl rfl ?_
  obtain ⟨v1, e1, h⟩ := bd h
  refine jg_120 (pc' := 4) C dX2_putSign_1 rfl (gR_some e1) ?_
  refine J_aload_n (pc' := 5) C 0 dX2_putSign_4 rfl rfl rfl ?_
  obtain ⟨v5, e5, h⟩ := bd h
  refine jg_124 (pc' := 8) C dX2_putSign_5 rfl (gI_some e5) ?_
  refine J_iload_n (pc' := 9) C 1 dX2_putSign_8 rfl rfl rfl ?_
  obtain ⟨M9, e9, h⟩ := bd h
  refine J_iast (pc' := 10) C dX2_putSign_9 rfl e9 ?_
  refine J_aload_n (pc' := 11) C 0 dX2_putSign_10 rfl rfl rfl ?_
  refine J_dup (pc' := 12) C dX2_putSign_11 rfl rfl ?_
  obtain ⟨v12, e12, h⟩ := bd h
  refine jg_124 (pc' := 15) C dX2_putSign_12 rfl (gI_some e12) ?_
  refine J_iconst (pc' := 16) (v := (1 : Int32)) C dX2_putSign_15 rfl (by decide) ?_
  refine J_iadd (pc' := 17) C dX2_putSign_16 rfl ?_
  obtain ⟨M17, e17, h⟩ := bd h
  refine jp_124 (pc' := 20) C (fun _ => ⟨rfl, rfl⟩) dX2_putSign_17 rfl e17 ?_
  obtain rfl := rt1 h
  exact J_vret C dX2_putSign_20 (Nat.zero_le _) (Nat.zero_le _)
def f_X6_signOfRow (N : Nat) (a0 : Int64) (a2 : Int32) (M : A_M) : Option (Int32 × A_M) :=
  some (((((a0.toUInt64 >>> (((2 : Int32) * ((23 : Int32) - a2)).toInt64.toUInt64 &&& Int64.toUInt64 63)).toInt64).toInt32) &&& (3 : Int32)), M)
set_option maxHeartbeats 4000000 in
set_option maxRecDepth 100000 in
theorem ok_X6_signOfRow (N : Nat) {a0 : Int64} {a2 : Int32} {M : A_M} {r : Int32} {M' : A_M} (h : f_X6_signOfRow N a0 a2 M = some (r, M')) : Runs yX6_signOfRow cX6_signOfRow 3 (some .int) 0 0 0 0 [.long a0, .int a2] M (some (.int r)) M' := by
  refine Runs.intro (by decide) (Nat.le_of_ble_eq_true rfl) (fun X C hnm hMC hMS => ?_)
  have C : Cx X cX6_signOfRow RX6 3 (some .int) 0 0 := C
  show J X 3 0 [(0, .long a0), (2, .int a2)] [] M 0 0 (some (.int r)) M'
  unfold f_X6_signOfRow at h
  refine J_lload_n (pc' := 1) C 0 dX6_signOfRow_0 rfl rfl rfl ?_
  refine J_iconst (pc' := 2) (v := (2 : Int32)) C dX6_signOfRow_1 rfl (by decide) ?_
  refine J_bipush (pc' := 4) (v := (23 : Int32)) C dX6_signOfRow_2 rfl (by decide) ?_
  refine J_iload_n (pc' := 5) C 1 dX6_signOfRow_4 rfl rfl rfl ?_
  refine J_isub (pc' := 6) C dX6_signOfRow_5 rfl ?_
  refine J_imul (pc' := 7) C dX6_signOfRow_6 rfl ?_
  refine J_lushr (pc' := 8) C dX6_signOfRow_7 rfl ?_
  refine J_l2i (pc' := 9) C dX6_signOfRow_8 rfl ?_
  refine J_iconst (pc' := 10) (v := (3 : Int32)) C dX6_signOfRow_9 rfl (by decide) ?_
  refine J_iand (pc' := 11) C dX6_signOfRow_10 rfl ?_
  obtain ⟨rfl, rfl⟩ := rt2 h
  exact J_iret C dX6_signOfRow_11 (Nat.zero_le _) (Nat.zero_le _)
def f_X2_writeWord_L24 (N : Nat) : Nat → Nat → Nat → Int32 → Int32 → Int32 → A_M → Option (Int32 × A_M)
  | 0, _, _, _, _, _, _ => none
  | n + 1, x0, x1, x2, x3, x4, M =>
    if x3 ≤ x4 then
    (some ((1 : Int32), M))
    else
    ((gR M x1 0 0).bind fun v32 =>
    (ldJ M v32 x2).bind fun v36 =>
    bnd2 (f_X6_signOfRow N v36 x4 M) fun v39 M39 =>
    (chk M39 x0 2).bind fun _ =>
    (f_X2_putSign N x0 v39 M39).bind fun M42 =>
    f_X2_writeWord_L24 N n x0 x1 x2 x3 (x4 + 1) M42)
set_option maxHeartbeats 4000000 in
set_option maxRecDepth 100000 in
theorem ok_X2_writeWord_L24 {X : JX} (C : Cx X cX2_writeWord RX2 5 (some .boolean) 1 22) (N : Nat) : ∀ (n : Nat) (x0 : Nat) (x1 : Nat) (x2 : Int32) (x3 : Int32) (x4 : Int32) (M : A_M) (r : Int32) (M' : A_M), f_X2_writeWord_L24 N n x0 x1 x2 x3 x4 M = some (r, M') → J X 5 24 [(0, .ref x0), (1, .ref x1), (2, .int x2), (3, .int x3), (4, .int x4)] [] M 0 0 (some (.int r)) M' := by
  intro n
  induction n with
  | zero =>
    intro x0 x1 x2 x3 x4 M r M' h
    cases h
  | succ n ih =>
    intro x0 x1 x2 x3 x4 M r M' h
    rw [f_X2_writeWord_L24] at h
    refine J_iload (pc' := 26) C 4 dX2_writeWord_24 rfl rfl ?_
    refine J_iload_n (pc' := 27) C 3 dX2_writeWord_26 rfl rfl rfl ?_
    refine J_icmp_ge (tgt := 51) (pc' := 30) C dX2_writeWord_27 (by decide) rfl (fun c27 => ?_) (fun c27 => ?_)
    · rw [if_pos c27] at h
      refine J_iconst (pc' := 52) (v := (1 : Int32)) C dX2_writeWord_51 rfl (by decide) ?_
      obtain ⟨rfl, rfl⟩ := rt2 h
      exact J_zret C rfl dX2_writeWord_52 (Nat.zero_le _) (Nat.zero_le _)
    · rw [if_neg c27] at h
      refine J_aload_n (pc' := 31) C 0 dX2_writeWord_30 rfl rfl rfl ?_
      refine J_aload_n (pc' := 32) C 1 dX2_writeWord_31 rfl rfl rfl ?_
      obtain ⟨v32, e32, h⟩ := bd h
      refine jg_171 (pc' := 35) C dX2_writeWord_32 rfl (gR_some e32) ?_
      refine J_iload_n (pc' := 36) C 2 dX2_writeWord_35 rfl rfl rfl ?_
      obtain ⟨v36, e36, h⟩ := bd h
      refine J_lald (pc' := 37) C dX2_writeWord_36 rfl e36 ?_
      refine J_iload (pc' := 39) C 4 dX2_writeWord_37 rfl rfl ?_
      obtain ⟨v39, M39, e39, h⟩ := bd2 h
      refine J_cSN (pc' := 42) (st := [.ref x0]) (st2 := [.int v39, .ref x0]) (cs2 := 0) (sl2 := 0) C (ok_X6_signOfRow N e39) mw_X6_signOfRow wn_666 rfl dX2_writeWord_39 rfl rfl (Nat.le_of_ble_eq_true rfl) (by decide) (by decide) rfl rfl rfl (Nat.zero_le _) (Nat.zero_le _) ?_
      obtain ⟨_, q42, h⟩ := bd h
      obtain ⟨M42, e42, h⟩ := bd h
      refine J_cV (pc' := 45) (st := []) (st2 := []) (cs2 := 0) (sl2 := 0) C 2 rfl rfl q42 (ok_X2_putSign N e42) mw_X2_putSign wq_667 rfl dX2_writeWord_42 rfl rfl (Nat.le_of_ble_eq_true rfl) (by decide) (by decide) rfl rfl rfl (Nat.zero_le _) (Nat.zero_le _) ?_
      refine J_iinc (pc' := 48) (lv' := [(4, .int (x4 + 1)), (0, .ref x0), (1, .ref x1), (2, .int x2), (3, .int x3)]) C 4 dX2_writeWord_45 rfl rfl rfl (by decide) rfl ?_
      refine J_goto (tgt := 24) C dX2_writeWord_48 (by decide) ?_
      refine J_sub (lv' := [(0, .ref x0), (1, .ref x1), (2, .int x2), (3, .int x3), (4, .int (x4 + 1))]) [1, 2, 3, 4, 0] rfl ?_
      exact ih _ _ _ _ _ _ _ _ h
def f_X2_writeWord (N : Nat) (a0 : Nat) (a1 : Nat) (a2 : Int32) (M : A_M) : Option (Int32 × A_M) :=
  (gR M a1 0 1).bind fun v1 =>
  (ldI M v1 a2).bind fun v5 =>
  (gI M a0 2 2).bind fun v8 =>
  if (v8 + v5) ≤ (200 : Int32) then
  (f_X2_writeWord_L24 N N a0 a1 a2 v5 (0 : Int32) M)
  else
  (some ((0 : Int32), M))
set_option maxHeartbeats 4000000 in
set_option maxRecDepth 100000 in
theorem ok_X2_writeWord (N : Nat) {a0 : Nat} {a1 : Nat} {a2 : Int32} {M : A_M} {r : Int32} {M' : A_M} (h : f_X2_writeWord N a0 a1 a2 M = some (r, M')) : Runs yX2_writeWord cX2_writeWord 5 (some .boolean) 1 22 0 0 [.ref a0, .ref a1, .int a2] M (some (.int r)) M' := by
  refine Runs.intro (by decide) (Nat.le_of_ble_eq_true rfl) (fun X C hnm hMC hMS => ?_)
  have C : Cx X cX2_writeWord RX2 5 (some .boolean) 1 22 := C
  show J X 5 0 [(0, .ref a0), (1, .ref a1), (2, .int a2)] [] M 0 0 (some (.int r)) M'
  unfold f_X2_writeWord at h
  refine J_aload_n (pc' := 1) C 1 dX2_writeWord_0 rfl rfl rfl ?_
  obtain ⟨v1, e1, h⟩ := bd h
  refine jg_175 (pc' := 4) C dX2_writeWord_1 rfl (gR_some e1) ?_
  refine J_iload_n (pc' := 5) C 2 dX2_writeWord_4 rfl rfl rfl ?_
  obtain ⟨v5, e5, h⟩ := bd h
  refine J_iald (pc' := 6) C dX2_writeWord_5 rfl e5 ?_
  refine J_istore_n (pc' := 7) (lv' := [(3, .int v5), (0, .ref a0), (1, .ref a1), (2, .int a2)]) C dX2_writeWord_6 rfl rfl (by decide) rfl ?_
  refine J_aload_n (pc' := 8) C 1 dX2_writeWord_7 rfl rfl rfl ?_
  obtain ⟨v8, e8, h⟩ := bd h
  refine jg_124 (pc' := 11) C dX2_writeWord_8 rfl (gI_some e8) ?_
  refine J_iload_n (pc' := 12) C 0 dX2_writeWord_11 rfl rfl rfl ?_
  refine J_iadd (pc' := 13) C dX2_writeWord_12 rfl ?_
  refine J_sipush (pc' := 16) (v := (200 : Int32)) C dX2_writeWord_13 rfl (by decide) ?_
  refine J_icmp_le (tgt := 21) (pc' := 19) C dX2_writeWord_16 (by decide) rfl (fun c16 => ?_) (fun c16 => ?_)
  · rw [if_pos c16] at h
    refine J_iconst (pc' := 22) (v := (0 : Int32)) C dX2_writeWord_21 rfl (by decide) ?_
    refine J_istore (pc' := 24) (lv' := [(4, .int (0 : Int32)), (3, .int v5), (0, .ref a0), (1, .ref a1), (2, .int a2)]) C dX2_writeWord_22 rfl (by decide) rfl ?_
    refine J_sub (lv' := [(0, .ref a0), (1, .ref a1), (2, .int a2), (3, .int v5), (4, .int (0 : Int32))]) [2, 3, 4, 1, 0] rfl ?_
    exact ok_X2_writeWord_L24 C N N _ _ _ _ _ _ _ _ h
  · rw [if_neg c16] at h
    refine J_iconst (pc' := 20) (v := (0 : Int32)) C dX2_writeWord_19 rfl (by decide) ?_
    obtain ⟨rfl, rfl⟩ := rt2 h
    exact J_zret C rfl dX2_writeWord_20 (Nat.zero_le _) (Nat.zero_le _)
