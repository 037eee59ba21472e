def f_X2_beginReading (N : Nat) (a0 : Nat) (M : A_M) : Option A_M :=
  (pV M a0 2 4 (.int (0 : Int32))).bind fun M2 =>
  (pV M2 a0 2 3 (.int (0 : Int32))).bind fun M7 =>
  some M7
set_option maxHeartbeats 4000000 in
set_option maxRecDepth 100000 in
theorem ok_X2_beginReading (N : Nat) {a0 : Nat} {M : A_M} {M' : A_M} (h : f_X2_beginReading N a0 M = some M') : Runs yX2_beginReading cX2_beginReading 1 none 0 0 0 0 [.ref a0] M none M' := by
  refine Runs.intro (by decide) (Nat.le_of_ble_eq_true rfl) (fun X C hnm hMC hMS => ?_)
  have C : Cx X cX2_beginReading RX2 1 none 0 0 := C
  show J X 1 0 [(0, .ref a0)] [] M 0 0 none M'
  unfold f_X2_beginReading at h
  refine J_aload_n (pc' := 1) C 0 dX2_beginReading_0 rfl rfl rfl ?_
  refine J_iconst (pc' := 2) (v := (0 : Int32)) C dX2_beginReading_1 rfl (by decide) ?_
  obtain ⟨M2, e2, h⟩ := bd h
  refine jp_128 (pc' := 5) C (fun _ => ⟨rfl, rfl⟩) dX2_beginReading_2 rfl e2 ?_
  refine J_aload_n (pc' := 6) C 0 dX2_beginReading_5 rfl rfl rfl ?_
  refine J_iconst (pc' := 7) (v := (0 : Int32)) C dX2_beginReading_6 rfl (by decide) ?_
  obtain ⟨M7, e7, h⟩ := bd h
  refine jp_126 (pc' := 10) C (fun _ => ⟨rfl, rfl⟩) dX2_beginReading_7 rfl e7 ?_
  obtain rfl := rt1 h
  exact J_vret C dX2_beginReading_10 (Nat.zero_le _) (Nat.zero_le _)
def f_X2_goesOn (N : Nat) (a0 : Nat) (M : A_M) : Option (Int32 × A_M) :=
  (gI M a0 2 4).bind fun v1 =>
  (gI M a0 2 2).bind fun v5 =>
  if v5 ≤ v1 then
  (some ((0 : Int32), M))
  else
  (some ((1 : Int32), M))
set_option maxHeartbeats 4000000 in
set_option maxRecDepth 100000 in
theorem ok_X2_goesOn (N : Nat) {a0 : Nat} {M : A_M} {r : Int32} {M' : A_M} (h : f_X2_goesOn N a0 M = some (r, M')) : Runs yX2_goesOn cX2_goesOn 1 (some .boolean) 0 0 0 0 [.ref a0] M (some (.int r)) M' := by
  refine Runs.intro (by decide) (Nat.le_of_ble_eq_true rfl) (fun X C hnm hMC hMS => ?_)
  have C : Cx X cX2_goesOn RX2 1 (some .boolean) 0 0 := C
  show J X 1 0 [(0, .ref a0)] [] M 0 0 (some (.int r)) M'
  unfold f_X2_goesOn at h
  refine J_aload_n (pc' := 1) C 0 dX2_goesOn_0 rfl rfl rfl ?_
  obtain ⟨v1, e1, h⟩ := bd h
  refine jg_128 (pc' := 4) C dX2_goesOn_1 rfl (gI_some e1) ?_
  refine J_aload_n (pc' := 5) C 0 dX2_goesOn_4 rfl rfl rfl ?_
  obtain ⟨v5, e5, h⟩ := bd h
  refine jg_124 (pc' := 8) C dX2_goesOn_5 rfl (gI_some e5) ?_
  refine J_icmp_ge (tgt := 15) (pc' := 11) C dX2_goesOn_8 (by decide) rfl (fun c8 => ?_) (fun c8 => ?_)
  · rw [if_pos c8] at h
    refine J_iconst (pc' := 16) (v := (0 : Int32)) C dX2_goesOn_15 rfl (by decide) ?_
    obtain ⟨rfl, rfl⟩ := rt2 h
    exact J_zret C rfl dX2_goesOn_16 (Nat.zero_le _) (Nat.zero_le _)
  · rw [if_neg c8] at h
    refine J_iconst (pc' := 12) (v := (1 : Int32)) C dX2_goesOn_11 rfl (by decide) ?_
    refine J_goto (tgt := 16) C dX2_goesOn_12 (by decide) ?_
    obtain ⟨rfl, rfl⟩ := rt2 h
    exact J_zret C rfl dX2_goesOn_16 (Nat.zero_le _) (Nat.zero_le _)
def f_X2_readWord_K105 (N : Nat) (x0 : Nat) (x6 : Int32) (x7 : Int32) (M : A_M) : Option (Int32 × A_M) :=
  (gI M x0 2 4).bind fun v107 =>
  (pV M x0 2 4 (.int (v107 + x7))).bind fun M113 =>
  (gR M113 x0 2 1).bind fun v117 =>
  (gI M113 x0 2 3).bind fun v121 =>
  (stI M113 v117 v121 x6).bind fun M126 =>
  (gI M126 x0 2 3).bind fun v129 =>
  (pV M126 x0 2 3 (.int (v129 + (1 : Int32)))).bind fun M134 =>
  some (x6, M134)
set_option maxHeartbeats 4000000 in
set_option maxRecDepth 100000 in
theorem ok_X2_readWord_K105 {X : JX} (C : Cx X cX2_readWord RX2 8 (some .int) 3 66) (N : Nat) : ∀ (x0 : Nat) (x6 : Int32) (x7 : Int32) (M : A_M) (r : Int32) (M' : A_M), f_X2_readWord_K105 N x0 x6 x7 M = some (r, M') → J X 8 105 [(0, .ref x0), (6, .int x6), (7, .int x7)] [] M 0 0 (some (.int r)) M' := by
  intro x0 x6 x7 M r M' h
  unfold f_X2_readWord_K105 at h
  refine J_aload_n (pc' := 106) C 0 dX2_readWord_105 rfl rfl rfl ?_
  refine J_dup (pc' := 107) C dX2_readWord_106 rfl rfl ?_
  obtain ⟨v107, e107, h⟩ := bd h
  refine jg_128 (pc' := 110) C dX2_readWord_107 rfl (gI_some e107) ?_
  refine J_iload (pc' := 112) C 2 dX2_readWord_110 rfl rfl ?_
  refine J_iadd (pc' := 113) C dX2_readWord_112 rfl ?_
  obtain ⟨M113, e113, h⟩ := bd h
  refine jp_128 (pc' := 116) C (fun _ => ⟨rfl, rfl⟩) dX2_readWord_113 rfl e113 ?_
  refine J_aload_n (pc' := 117) C 0 dX2_readWord_116 rfl rfl rfl ?_
  obtain ⟨v117, e117, h⟩ := bd h
  refine jg_122 (pc' := 120) C dX2_readWord_117 rfl (gR_some e117) ?_
  refine J_aload_n (pc' := 121) C 0 dX2_readWord_120 rfl rfl rfl ?_
  obtain ⟨v121, e121, h⟩ := bd h
  refine jg_126 (pc' := 124) C dX2_readWord_121 rfl (gI_some e121) ?_
  refine J_iload (pc' := 126) C 1 dX2_readWord_124 rfl rfl ?_
  obtain ⟨M126, e126, h⟩ := bd h
  refine J_iast (pc' := 127) C dX2_readWord_126 rfl e126 ?_
  refine J_aload_n (pc' := 128) C 0 dX2_readWord_127 rfl rfl rfl ?_
  refine J_dup (pc' := 129) C dX2_readWord_128 rfl rfl ?_
  obtain ⟨v129, e129, h⟩ := bd h
  refine jg_126 (pc' := 132) C dX2_readWord_129 rfl (gI_some e129) ?_
  refine J_iconst (pc' := 133) (v := (1 : Int32)) C dX2_readWord_132 rfl (by decide) ?_
  refine J_iadd (pc' := 134) C dX2_readWord_133 rfl ?_
  obtain ⟨M134, e134, h⟩ := bd h
  refine jp_126 (pc' := 137) C (fun _ => ⟨rfl, rfl⟩) dX2_readWord_134 rfl e134 ?_
  refine J_iload (pc' := 139) C 1 dX2_readWord_137 rfl rfl ?_
  obtain ⟨rfl, rfl⟩ := rt2 h
  exact J_iret C dX2_readWord_139 (Nat.zero_le _) (Nat.zero_le _)
def f_X2_readWord_L57 (N : Nat) : Nat → Nat → Nat → Int32 → Int64 → Int32 → Int32 → A_M → Option (Int32 × A_M)
  | 0, _, _, _, _, _, _, _ => none
  | n + 1, x0, x1, x2, x3, x5, x6, M =>
    (gI M x1 0 2).bind fun v60 =>
    if v60 ≤ x6 then
    ((gI M x0 2 4).bind fun v158 =>
    some ((((-100 : Int32) - v158) - x5), M))
    else
    ((gR M x1 0 0).bind fun v68 =>
    (ldJ M v68 x6).bind fun v73 =>
    bnd2 (f_X6_alikeSigns N x3 v73 M) fun v74 M74 =>
    (gR M74 x1 0 1).bind fun v79 =>
    (ldI M74 v79 x6).bind fun v84 =>
    (gR M74 x1 0 1).bind fun v96 =>
    (ldI M74 v96 x6).bind fun v101 =>
    if (mnI v74 (mnI x2 v84)) = v101 then
    (f_X2_readWord_K105 N x0 x6 (mnI v74 (mnI x2 v84)) M74)
    else
    (f_X2_readWord_L57 N n x0 x1 x2 x3 (mxI x5 (mnI v74 (mnI x2 v84))) (x6 + 1) M74))
set_option maxHeartbeats 4000000 in
set_option maxRecDepth 100000 in
theorem ok_X2_readWord_L57 {X : JX} (C : Cx X cX2_readWord RX2 8 (some .int) 3 66) (N : Nat) : ∀ (n : Nat) (x0 : Nat) (x1 : Nat) (x2 : Int32) (x3 : Int64) (x5 : Int32) (x6 : Int32) (M : A_M) (r : Int32) (M' : A_M), f_X2_readWord_L57 N n x0 x1 x2 x3 x5 x6 M = some (r, M') → J X 8 57 [(0, .ref x0), (1, .ref x1), (2, .int x2), (3, .long x3), (5, .int x5), (6, .int x6)] [] M 0 0 (some (.int r)) M' := by
  intro n
  induction n with
  | zero =>
    intro x0 x1 x2 x3 x5 x6 M r M' h
    cases h
  | succ n ih =>
    intro x0 x1 x2 x3 x5 x6 M r M' h
    rw [f_X2_readWord_L57] at h
    refine J_iload (pc' := 59) C 5 dX2_readWord_57 rfl rfl ?_
    refine J_aload_n (pc' := 60) C 1 dX2_readWord_59 rfl rfl rfl ?_
    obtain ⟨v60, e60, h⟩ := bd h
    refine jg_180 (pc' := 63) C dX2_readWord_60 rfl (gI_some e60) ?_
    refine J_icmp_ge (tgt := 155) (pc' := 66) C dX2_readWord_63 (by decide) rfl (fun c63 => ?_) (fun c63 => ?_)
    · rw [if_pos c63] at h
      refine J_bipush (pc' := 157) (v := (-100 : Int32)) C dX2_readWord_155 rfl (by decide) ?_
      refine J_aload_n (pc' := 158) C 0 dX2_readWord_157 rfl rfl rfl ?_
      obtain ⟨v158, e158, h⟩ := bd h
      refine jg_128 (pc' := 161) C dX2_readWord_158 rfl (gI_some e158) ?_
      refine J_isub (pc' := 162) C dX2_readWord_161 rfl ?_
      refine J_iload (pc' := 164) C 4 dX2_readWord_162 rfl rfl ?_
      refine J_isub (pc' := 165) C dX2_readWord_164 rfl ?_
      obtain ⟨rfl, rfl⟩ := rt2 h
      exact J_iret C dX2_readWord_165 (Nat.zero_le _) (Nat.zero_le _)
    · rw [if_neg c63] at h
      refine J_lload_n (pc' := 67) C 3 dX2_readWord_66 rfl rfl rfl ?_
      refine J_aload_n (pc' := 68) C 1 dX2_readWord_67 rfl rfl rfl ?_
      obtain ⟨v68, e68, h⟩ := bd h
      refine jg_171 (pc' := 71) C dX2_readWord_68 rfl (gR_some e68) ?_
      refine J_iload (pc' := 73) C 5 dX2_readWord_71 rfl rfl ?_
      obtain ⟨v73, e73, h⟩ := bd h
      refine J_lald (pc' := 74) C dX2_readWord_73 rfl e73 ?_
      obtain ⟨v74, M74, e74, h⟩ := bd2 h
      refine J_cSN (pc' := 77) (st := []) (st2 := [.int v74]) (cs2 := 0) (sl2 := 0) C (ok_X6_alikeSigns N e74) mw_X6_alikeSigns wn_702 rfl dX2_readWord_74 rfl rfl (Nat.le_of_ble_eq_true rfl) (by decide) (by decide) rfl rfl rfl (Nat.zero_le _) (Nat.zero_le _) ?_
      refine J_iload_n (pc' := 78) C 2 dX2_readWord_77 rfl rfl rfl ?_
      refine J_aload_n (pc' := 79) C 1 dX2_readWord_78 rfl rfl rfl ?_
      obtain ⟨v79, e79, h⟩ := bd h
      refine jg_175 (pc' := 82) C dX2_readWord_79 rfl (gR_some e79) ?_
      refine J_iload (pc' := 84) C 5 dX2_readWord_82 rfl rfl ?_
      obtain ⟨v84, e84, h⟩ := bd h
      refine J_iald (pc' := 85) C dX2_readWord_84 rfl e84 ?_
      refine J_mmin (pc' := 88) C wq_700 dX2_readWord_85 rfl (Nat.le_of_ble_eq_true rfl) (by decide) (by decide) (Nat.zero_le _) (Nat.zero_le _) ?_
      refine J_mmin (pc' := 91) C wq_700 dX2_readWord_88 rfl (Nat.le_of_ble_eq_true rfl) (by decide) (by decide) (Nat.zero_le _) (Nat.zero_le _) ?_
      refine J_istore (pc' := 93) (lv' := [(7, .int (mnI v74 (mnI x2 v84))), (0, .ref x0), (1, .ref x1), (2, .int x2), (3, .long x3), (5, .int x5), (6, .int x6)]) C dX2_readWord_91 rfl (by decide) rfl ?_
      refine J_iload (pc' := 95) C 0 dX2_readWord_93 rfl rfl ?_
      refine J_aload_n (pc' := 96) C 2 dX2_readWord_95 rfl rfl rfl ?_
      obtain ⟨v96, e96, h⟩ := bd h
      refine jg_175 (pc' := 99) C dX2_readWord_96 rfl (gR_some e96) ?_
      refine J_iload (pc' := 101) C 6 dX2_readWord_99 rfl rfl ?_
      obtain ⟨v101, e101, h⟩ := bd h
      refine J_iald (pc' := 102) C dX2_readWord_101 rfl e101 ?_
      refine J_icmp_ne (tgt := 140) (pc' := 105) C dX2_readWord_102 (by decide) rfl (fun c102 => ?_) (fun c102 => ?_)
      · rw [if_neg c102] at h
        refine J_iload (pc' := 142) C 5 dX2_readWord_140 rfl rfl ?_
        refine J_iload (pc' := 144) C 0 dX2_readWord_142 rfl rfl ?_
        refine J_mmax (pc' := 147) C wq_703 dX2_readWord_144 rfl (Nat.le_of_ble_eq_true rfl) (by decide) (by decide) (Nat.zero_le _) (Nat.zero_le _) ?_
        refine J_istore (pc' := 149) (lv' := [(5, .int (mxI x5 (mnI v74 (mnI x2 v84)))), (7, .int (mnI v74 (mnI x2 v84))), (0, .ref x0), (1, .ref x1), (2, .int x2), (3, .long x3), (6, .int x6)]) C dX2_readWord_147 rfl (by decide) rfl ?_
        refine J_iinc (pc' := 152) (lv' := [(6, .int (x6 + 1)), (5, .int (mxI x5 (mnI v74 (mnI x2 v84)))), (7, .int (mnI v74 (mnI x2 v84))), (0, .ref x0), (1, .ref x1), (2, .int x2), (3, .long x3)]) C 6 dX2_readWord_149 rfl rfl rfl (by decide) rfl ?_
        refine J_goto (tgt := 57) C dX2_readWord_152 (by decide) ?_
        refine J_sub (lv' := [(0, .ref x0), (1, .ref x1), (2, .int x2), (3, .long x3), (5, .int (mxI x5 (mnI v74 (mnI x2 v84)))), (6, .int (x6 + 1))]) [3, 4, 5, 6, 1, 0] rfl ?_
        exact ih _ _ _ _ _ _ _ _ _ h
      · rw [if_pos c102] at h
        refine J_sub (lv' := [(0, .ref x0), (6, .int x6), (7, .int (mnI v74 (mnI x2 v84)))]) [1, 6, 0] rfl ?_
        exact ok_X2_readWord_K105 C N _ _ _ _ _ _ h
def f_X2_readWord_K51 (N : Nat) (x0 : Nat) (x1 : Nat) (x2 : Int32) (x3 : Int64) (M : A_M) : Option (Int32 × A_M) :=
  f_X2_readWord_L57 N N x0 x1 x2 x3 (0 : Int32) (0 : Int32) M
set_option maxHeartbeats 4000000 in
set_option maxRecDepth 100000 in
theorem ok_X2_readWord_K51 {X : JX} (C : Cx X cX2_readWord RX2 8 (some .int) 3 66) (N : Nat) : ∀ (x0 : Nat) (x1 : Nat) (x2 : Int32) (x3 : Int64) (M : A_M) (r : Int32) (M' : A_M), f_X2_readWord_K51 N x0 x1 x2 x3 M = some (r, M') → J X 8 51 [(0, .ref x0), (1, .ref x1), (2, .int x2), (3, .long x3)] [] M 0 0 (some (.int r)) M' := by
  intro x0 x1 x2 x3 M r M' h
  unfold f_X2_readWord_K51 at h
  refine J_iconst (pc' := 52) (v := (0 : Int32)) C dX2_readWord_51 rfl (by decide) ?_
  refine J_istore (pc' := 54) (lv' := [(5, .int (0 : Int32)), (0, .ref x0), (1, .ref x1), (2, .int x2), (3, .long x3)]) C dX2_readWord_52 rfl (by decide) rfl ?_
  refine J_iconst (pc' := 55) (v := (0 : Int32)) C dX2_readWord_54 rfl (by decide) ?_
  refine J_istore (pc' := 57) (lv' := [(6, .int (0 : Int32)), (5, .int (0 : Int32)), (0, .ref x0), (1, .ref x1), (2, .int x2), (3, .long x3)]) C dX2_readWord_55 rfl (by decide) rfl ?_
  refine J_sub (lv' := [(0, .ref x0), (1, .ref x1), (2, .int x2), (3, .long x3), (5, .int (0 : Int32)), (6, .int (0 : Int32))]) [2, 3, 4, 5, 1, 0] rfl ?_
  exact ok_X2_readWord_L57 C N N _ _ _ _ _ _ _ _ _ h
def f_X2_readWord_L20 (N : Nat) : Nat → Nat → Nat → Int32 → Int64 → Int32 → A_M → Option (Int32 × A_M)
  | 0, _, _, _, _, _, _ => none
  | n + 1, x0, x1, x2, x3, x5, M =>
    if x2 ≤ x5 then
    (f_X2_readWord_K51 N x0 x1 x2 x3 M)
    else
    ((gR M x0 2 0).bind fun v30 =>
    (gI M x0 2 4).bind fun v34 =>
    (ldI M v30 (v34 + x5)).bind fun v40 =>
    bnd2 (f_X6_rowAndSign N x3 x5 v40 M) fun v41 M41 =>
    f_X2_readWord_L20 N n x0 x1 x2 v41 (x5 + 1) M41)
set_option maxHeartbeats 4000000 in
set_option maxRecDepth 100000 in
theorem ok_X2_readWord_L20 {X : JX} (C : Cx X cX2_readWord RX2 8 (some .int) 3 66) (N : Nat) : ∀ (n : Nat) (x0 : Nat) (x1 : Nat) (x2 : Int32) (x3 : Int64) (x5 : Int32) (M : A_M) (r : Int32) (M' : A_M), f_X2_readWord_L20 N n x0 x1 x2 x3 x5 M = some (r, M') → J X 8 20 [(0, .ref x0), (1, .ref x1), (2, .int x2), (3, .long x3), (5, .int x5)] [] M 0 0 (some (.int r)) M' := by
  intro n
  induction n with
  | zero =>
    intro x0 x1 x2 x3 x5 M r M' h
    cases h
  | succ n ih =>
    intro x0 x1 x2 x3 x5 M r M' h
    rw [f_X2_readWord_L20] at h
    refine J_iload (pc' := 22) C 4 dX2_readWord_20 rfl rfl ?_
    refine J_iload_n (pc' := 23) C 2 dX2_readWord_22 rfl rfl rfl ?_
    refine J_icmp_ge (tgt := 51) (pc' := 26) C dX2_readWord_23 (by decide) rfl (fun c23 => ?_) (fun c23 => ?_)
    · rw [if_pos c23] at h
      refine J_sub (lv' := [(0, .ref x0), (1, .ref x1), (2, .int x2), (3, .long x3)]) [0, 1, 2, 3] rfl ?_
      exact ok_X2_readWord_K51 C N _ _ _ _ _ _ _ h
    · rw [if_neg c23] at h
      refine J_lload_n (pc' := 27) C 3 dX2_readWord_26 rfl rfl rfl ?_
      refine J_iload (pc' := 29) C 4 dX2_readWord_27 rfl rfl ?_
      refine J_aload_n (pc' := 30) C 0 dX2_readWord_29 rfl rfl rfl ?_
      obtain ⟨v30, e30, h⟩ := bd h
      refine jg_120 (pc' := 33) C dX2_readWord_30 rfl (gR_some e30) ?_
      refine J_aload_n (pc' := 34) C 0 dX2_readWord_33 rfl rfl rfl ?_
      obtain ⟨v34, e34, h⟩ := bd h
      refine jg_128 (pc' := 37) C dX2_readWord_34 rfl (gI_some e34) ?_
      refine J_iload (pc' := 39) C 4 dX2_readWord_37 rfl rfl ?_
      refine J_iadd (pc' := 40) C dX2_readWord_39 rfl ?_
      obtain ⟨v40, e40, h⟩ := bd h
      refine J_iald (pc' := 41) C dX2_readWord_40 rfl e40 ?_
      obtain ⟨v41, M41, e41, h⟩ := bd2 h
      refine J_cSN (pc' := 44) (st := []) (st2 := [.long v41]) (cs2 := 0) (sl2 := 0) C (ok_X6_rowAndSign N e41) mw_X6_rowAndSign wn_701 rfl dX2_readWord_41 rfl rfl (Nat.le_of_ble_eq_true rfl) (by decide) (by decide) rfl rfl rfl (Nat.zero_le _) (Nat.zero_le _) ?_
      refine J_lstore_n (pc' := 45) (lv' := [(3, .long v41), (0, .ref x0), (1, .ref x1), (2, .int x2), (5, .int x5)]) C dX2_readWord_44 rfl rfl (by decide) rfl ?_
      refine J_iinc (pc' := 48) (lv' := [(5, .int (x5 + 1)), (3, .long v41), (0, .ref x0), (1, .ref x1), (2, .int x2)]) C 4 dX2_readWord_45 rfl rfl rfl (by decide) rfl ?_
      refine J_goto (tgt := 20) C dX2_readWord_48 (by decide) ?_
      refine J_sub (lv' := [(0, .ref x0), (1, .ref x1), (2, .int x2), (3, .long v41), (5, .int (x5 + 1))]) [2, 3, 4, 1, 0] rfl ?_
      exact ih _ _ _ _ _ _ _ _ h
def f_X2_readWord (N : Nat) (a0 : Nat) (a1 : Nat) (M : A_M) : Option (Int32 × A_M) :=
  (gI M a0 2 2).bind fun v3 =>
  (gI M a0 2 4).bind fun v7 =>
  f_X2_readWord_L20 N N a0 a1 (mnI (24 : Int32) (v3 - v7)) (0 : Int64) (0 : Int32) M
set_option maxHeartbeats 4000000 in
set_option maxRecDepth 100000 in
theorem ok_X2_readWord (N : Nat) {a0 : Nat} {a1 : Nat} {M : A_M} {r : Int32} {M' : A_M} (h : f_X2_readWord N a0 a1 M = some (r, M')) : Runs yX2_readWord cX2_readWord 8 (some .int) 3 66 0 0 [.ref a0, .ref a1] M (some (.int r)) M' := by
  refine Runs.intro (by decide) (Nat.le_of_ble_eq_true rfl) (fun X C hnm hMC hMS => ?_)
  have C : Cx X cX2_readWord RX2 8 (some .int) 3 66 := C
  show J X 8 0 [(0, .ref a0), (1, .ref a1)] [] M 0 0 (some (.int r)) M'
  unfold f_X2_readWord at h
  refine J_bipush (pc' := 2) (v := (24 : Int32)) C dX2_readWord_0 rfl (by decide) ?_
  refine J_aload_n (pc' := 3) C 0 dX2_readWord_2 rfl rfl rfl ?_
  obtain ⟨v3, e3, h⟩ := bd h
  refine jg_124 (pc' := 6) C dX2_readWord_3 rfl (gI_some e3) ?_
  refine J_aload_n (pc' := 7) C 0 dX2_readWord_6 rfl rfl rfl ?_
  obtain ⟨v7, e7, h⟩ := bd h
  refine jg_128 (pc' := 10) C dX2_readWord_7 rfl (gI_some e7) ?_
  refine J_isub (pc' := 11) C dX2_readWord_10 rfl ?_
  refine J_mmin (pc' := 14) C wq_700 dX2_readWord_11 rfl (Nat.le_of_ble_eq_true rfl) (by decide) (by decide) (Nat.zero_le _) (Nat.zero_le _) ?_
  refine J_istore_n (pc' := 15) (lv' := [(2, .int (mnI (24 : Int32) (v3 - v7))), (0, .ref a0), (1, .ref a1)]) C dX2_readWord_14 rfl rfl (by decide) rfl ?_
  refine J_lconst (pc' := 16) (v := (0 : Int64)) C dX2_readWord_15 rfl (by decide) ?_
  refine J_lstore_n (pc' := 17) (lv' := [(3, .long (0 : Int64)), (2, .int (mnI (24 : Int32) (v3 - v7))), (0, .ref a0), (1, .ref a1)]) C dX2_readWord_16 rfl rfl (by decide) rfl ?_
  refine J_iconst (pc' := 18) (v := (0 : Int32)) C dX2_readWord_17 rfl (by decide) ?_
  refine J_istore (pc' := 20) (lv' := [(5, .int (0 : Int32)), (3, .long (0 : Int64)), (2, .int (mnI (24 : Int32) (v3 - v7))), (0, .ref a0), (1, .ref a1)]) C dX2_readWord_18 rfl (by decide) rfl ?_
  refine J_sub (lv' := [(0, .ref a0), (1, .ref a1), (2, .int (mnI (24 : Int32) (v3 - v7))), (3, .long (0 : Int64)), (5, .int (0 : Int32))]) [3, 4, 2, 1, 0] rfl ?_
  exact ok_X2_readWord_L20 C N N _ _ _ _ _ _ _ _ h
def f_X4_leastOf (N : Nat) (a0 : Nat) (a1 : Int32) (a2 : Int32) (M : A_M) : Option (Int64 × A_M) :=
  (gR M a0 4 0).bind fun v1 =>
  (ldJ M v1 ((a1 * (24 : Int32)) + a2)).bind fun v10 =>
  some (v10, M)
set_option maxHeartbeats 4000000 in
set_option maxRecDepth 100000 in
theorem ok_X4_leastOf (N : Nat) {a0 : Nat} {a1 : Int32} {a2 : Int32} {M : A_M} {r : Int64} {M' : A_M} (h : f_X4_leastOf N a0 a1 a2 M = some (r, M')) : Runs yX4_leastOf cX4_leastOf 3 (some .long) 0 0 0 0 [.ref a0, .int a1, .int a2] M (some (.long r)) M' := by
  refine Runs.intro (by decide) (Nat.le_of_ble_eq_true rfl) (fun X C hnm hMC hMS => ?_)
  have C : Cx X cX4_leastOf RX4 3 (some .long) 0 0 := C
  show J X 3 0 [(0, .ref a0), (1, .int a1), (2, .int a2)] [] M 0 0 (some (.long r)) M'
  unfold f_X4_leastOf at h
  refine J_aload_n (pc' := 1) C 0 dX4_leastOf_0 rfl rfl rfl ?_
  obtain ⟨v1, e1, h⟩ := bd h
  refine jg_460 (pc' := 4) C dX4_leastOf_1 rfl (gR_some e1) ?_
  refine J_iload_n (pc' := 5) C 1 dX4_leastOf_4 rfl rfl rfl ?_
  refine J_bipush (pc' := 7) (v := (24 : Int32)) C dX4_leastOf_5 rfl (by decide) ?_
  refine J_imul (pc' := 8) C dX4_leastOf_7 rfl ?_
  refine J_iload_n (pc' := 9) C 2 dX4_leastOf_8 rfl rfl rfl ?_
  refine J_iadd (pc' := 10) C dX4_leastOf_9 rfl ?_
  obtain ⟨v10, e10, h⟩ := bd h
  refine J_lald (pc' := 11) C dX4_leastOf_10 rfl e10 ?_
  obtain ⟨rfl, rfl⟩ := rt2 h
  exact J_lret C dX4_leastOf_11 (Nat.zero_le _) (Nat.zero_le _)
def f_X4_behindSign (N : Nat) (a0 : Nat) (a1 : Int32) (a2 : Int32) (a3 : Int32) (M : A_M) : Option (Int64 × A_M) :=
  (gR M a0 4 3).bind fun v1 =>
  (ldI M v1 a1).bind fun v5 =>
  (gR M a0 4 2).bind fun v8 =>
  (ldJ M v8 (a3 + (1 : Int32))).bind fun v14 =>
  (gR M a0 4 2).bind fun v16 =>
  (ldJ M v16 a2).bind fun v20 =>
  (chk M a0 4).bind fun _ =>
  bnd2 (f_X4_leastOf N a0 a2 a3 M) fun v26 M26 =>
  some ((((v5.toInt64) * (v14 - v20)) + v26), M26)
set_option maxHeartbeats 4000000 in
set_option maxRecDepth 100000 in
theorem ok_X4_behindSign (N : Nat) {a0 : Nat} {a1 : Int32} {a2 : Int32} {a3 : Int32} {M : A_M} {r : Int64} {M' : A_M} (h : f_X4_behindSign N a0 a1 a2 a3 M = some (r, M')) : Runs yX4_behindSign cX4_behindSign 4 (some .long) 1 22 0 0 [.ref a0, .int a1, .int a2, .int a3] M (some (.long r)) M' := by
  refine Runs.intro (by decide) (Nat.le_of_ble_eq_true rfl) (fun X C hnm hMC hMS => ?_)
  have C : Cx X cX4_behindSign RX4 4 (some .long) 1 22 := C
  show J X 4 0 [(0, .ref a0), (1, .int a1), (2, .int a2), (3, .int a3)] [] M 0 0 (some (.long r)) M'
  unfold f_X4_behindSign at h
  refine J_aload_n (pc' := 1) C 0 dX4_behindSign_0 rfl rfl rfl ?_
  obtain ⟨v1, e1, h⟩ := bd h
  refine jg_463 (pc' := 4) C dX4_behindSign_1 rfl (gR_some e1) ?_
  refine J_iload_n (pc' := 5) C 1 dX4_behindSign_4 rfl rfl rfl ?_
  obtain ⟨v5, e5, h⟩ := bd h
  refine J_iald (pc' := 6) C dX4_behindSign_5 rfl e5 ?_
  refine J_i2l (pc' := 7) C dX4_behindSign_6 rfl ?_
  refine J_aload_n (pc' := 8) C 0 dX4_behindSign_7 rfl rfl rfl ?_
  obtain ⟨v8, e8, h⟩ := bd h
  refine jg_462 (pc' := 11) C dX4_behindSign_8 rfl (gR_some e8) ?_
  refine J_iload_n (pc' := 12) C 3 dX4_behindSign_11 rfl rfl rfl ?_
  refine J_iconst (pc' := 13) (v := (1 : Int32)) C dX4_behindSign_12 rfl (by decide) ?_
  refine J_iadd (pc' := 14) C dX4_behindSign_13 rfl ?_
  obtain ⟨v14, e14, h⟩ := bd h
  refine J_lald (pc' := 15) C dX4_behindSign_14 rfl e14 ?_
  refine J_aload_n (pc' := 16) C 0 dX4_behindSign_15 rfl rfl rfl ?_
  obtain ⟨v16, e16, h⟩ := bd h
  refine jg_462 (pc' := 19) C dX4_behindSign_16 rfl (gR_some e16) ?_
  refine J_iload_n (pc' := 20) C 2 dX4_behindSign_19 rfl rfl rfl ?_
  obtain ⟨v20, e20, h⟩ := bd h
  refine J_lald (pc' := 21) C dX4_behindSign_20 rfl e20 ?_
  refine J_lsub (pc' := 22) C dX4_behindSign_21 rfl ?_
  refine J_lmul (pc' := 23) C dX4_behindSign_22 rfl ?_
  refine J_aload_n (pc' := 24) C 0 dX4_behindSign_23 rfl rfl rfl ?_
  refine J_iload_n (pc' := 25) C 2 dX4_behindSign_24 rfl rfl rfl ?_
  refine J_iload_n (pc' := 26) C 3 dX4_behindSign_25 rfl rfl rfl ?_
  obtain ⟨_, q26, h⟩ := bd h
  obtain ⟨v26, M26, e26, h⟩ := bd2 h
  refine J_cV (pc' := 29) (st := [.long ((v5.toInt64) * (v14 - v20))]) (st2 := [.long v26, .long ((v5.toInt64) * (v14 - v20))]) (cs2 := 0) (sl2 := 0) C 4 rfl rfl q26 (ok_X4_leastOf N e26) mw_X4_leastOf wq_497 rfl dX4_behindSign_26 rfl rfl (Nat.le_of_ble_eq_true rfl) (by decide) (by decide) rfl rfl rfl (Nat.zero_le _) (Nat.zero_le _) ?_
  refine J_ladd (pc' := 30) C dX4_behindSign_29 rfl ?_
  obtain ⟨rfl, rfl⟩ := rt2 h
  exact J_lret C dX4_behindSign_30 (Nat.zero_le _) (Nat.zero_le _)
def f_X4_dealOf (N : Nat) (a0 : Nat) (a1 : Int32) (a2 : Int32) (a3 : Int32) (M : A_M) : Option (Int64 × A_M) :=
  if a2 ≤ a3 then
  ((gR M a0 4 1).bind fun v10 =>
  (ldJ M v10 ((((a1 * (24 : Int32)) + a2) * (24 : Int32)) + a3)).bind fun v24 =>
  some (v24, M))
  else
  (some ((0 : Int64), M))
set_option maxHeartbeats 4000000 in
set_option maxRecDepth 100000 in
theorem ok_X4_dealOf (N : Nat) {a0 : Nat} {a1 : Int32} {a2 : Int32} {a3 : Int32} {M : A_M} {r : Int64} {M' : A_M} (h : f_X4_dealOf N a0 a1 a2 a3 M = some (r, M')) : Runs yX4_dealOf cX4_dealOf 4 (some .long) 0 0 0 0 [.ref a0, .int a1, .int a2, .int a3] M (some (.long r)) M' := by
  refine Runs.intro (by decide) (Nat.le_of_ble_eq_true rfl) (fun X C hnm hMC hMS => ?_)
  have C : Cx X cX4_dealOf RX4 4 (some .long) 0 0 := C
  show J X 4 0 [(0, .ref a0), (1, .int a1), (2, .int a2), (3, .int a3)] [] M 0 0 (some (.long r)) M'
  unfold f_X4_dealOf at h
  refine J_iload_n (pc' := 1) C 2 dX4_dealOf_0 rfl rfl rfl ?_
  refine J_iload_n (pc' := 2) C 3 dX4_dealOf_1 rfl rfl rfl ?_
  refine J_icmp_le (tgt := 9) (pc' := 5) C dX4_dealOf_2 (by decide) rfl (fun c2 => ?_) (fun c2 => ?_)
  · rw [if_pos c2] at h
    refine J_aload_n (pc' := 10) C 0 dX4_dealOf_9 rfl rfl rfl ?_
    obtain ⟨v10, e10, h⟩ := bd h
    refine jg_461 (pc' := 13) C dX4_dealOf_10 rfl (gR_some e10) ?_
    refine J_iload_n (pc' := 14) C 1 dX4_dealOf_13 rfl rfl rfl ?_
    refine J_bipush (pc' := 16) (v := (24 : Int32)) C dX4_dealOf_14 rfl (by decide) ?_
    refine J_imul (pc' := 17) C dX4_dealOf_16 rfl ?_
    refine J_iload_n (pc' := 18) C 2 dX4_dealOf_17 rfl rfl rfl ?_
    refine J_iadd (pc' := 19) C dX4_dealOf_18 rfl ?_
    refine J_bipush (pc' := 21) (v := (24 : Int32)) C dX4_dealOf_19 rfl (by decide) ?_
    refine J_imul (pc' := 22) C dX4_dealOf_21 rfl ?_
    refine J_iload_n (pc' := 23) C 3 dX4_dealOf_22 rfl rfl rfl ?_
    refine J_iadd (pc' := 24) C dX4_dealOf_23 rfl ?_
    obtain ⟨v24, e24, h⟩ := bd h
    refine J_lald (pc' := 25) C dX4_dealOf_24 rfl e24 ?_
    obtain ⟨rfl, rfl⟩ := rt2 h
    exact J_lret C dX4_dealOf_25 (Nat.zero_le _) (Nat.zero_le _)
  · rw [if_neg c2] at h
    refine J_lconst (pc' := 6) (v := (0 : Int64)) C dX4_dealOf_5 rfl (by decide) ?_
    refine J_goto (tgt := 25) C dX4_dealOf_6 (by decide) ?_
    obtain ⟨rfl, rfl⟩ := rt2 h
    exact J_lret C dX4_dealOf_25 (Nat.zero_le _) (Nat.zero_le _)
def f_X4_weighNode_K68 (N : Nat) (k16 : Nat → Int32 → Int32 → Int64 → Int32 → A_M → Option A_M) (x0 : Nat) (x1 : Int32) (x2 : Int32) (x3 : Int64) (x5 : Int32) (M : A_M) : Option A_M :=
  k16 x0 x1 x2 x3 (x5 + 1) M
set_option maxHeartbeats 4000000 in
set_option maxRecDepth 100000 in
theorem ok_X4_weighNode_K68 {X : JX} (C : Cx X cX4_weighNode RX4 7 none 2 45) (N : Nat) {k16 : Nat → Int32 → Int32 → Int64 → Int32 → A_M → Option A_M} (hk16 : ∀ (x0 : Nat) (x1 : Int32) (x2 : Int32) (x3 : Int64) (x5 : Int32) (M : A_M) (M' : A_M), k16 x0 x1 x2 x3 x5 M = some M' → J X 7 16 [(0, .ref x0), (1, .int x1), (2, .int x2), (3, .long x3), (5, .int x5)] [] M 0 0 none M') : ∀ (x0 : Nat) (x1 : Int32) (x2 : Int32) (x3 : Int64) (x5 : Int32) (M : A_M) (M' : A_M), f_X4_weighNode_K68 N k16 x0 x1 x2 x3 x5 M = some M' → J X 7 68 [(0, .ref x0), (1, .int x1), (2, .int x2), (3, .long x3), (5, .int x5)] [] M 0 0 none M' := by
  intro x0 x1 x2 x3 x5 M M' h
  unfold f_X4_weighNode_K68 at h
  refine J_iinc (pc' := 71) (lv' := [(5, .int (x5 + 1)), (0, .ref x0), (1, .int x1), (2, .int x2), (3, .long x3)]) C 4 dX4_weighNode_68 rfl rfl rfl (by decide) rfl ?_
  refine J_goto (tgt := 16) C dX4_weighNode_71 (by decide) ?_
  refine J_sub (lv' := [(0, .ref x0), (1, .int x1), (2, .int x2), (3, .long x3), (5, .int (x5 + 1))]) [1, 2, 3, 4, 0] rfl ?_
  exact hk16 _ _ _ _ _ _ _ h
def f_X4_weighNode_L28 (N : Nat) (k16 : Nat → Int32 → Int32 → Int64 → Int32 → A_M → Option A_M) : Nat → Nat → Int32 → Int32 → Int64 → Int32 → Int32 → A_M → Option A_M
  | 0, _, _, _, _, _, _, _ => none
  | n + 1, x0, x1, x2, x3, x5, x6, M =>
    if x2 ≤ x6 then
    (f_X4_weighNode_K68 N k16 x0 x1 x2 x3 x5 M)
    else
    ((chk M x0 4).bind fun _ =>
    bnd2 (f_X4_behindSign N x0 x5 x1 x6 M) fun v41 M41 =>
    (chk M41 x0 4).bind fun _ =>
    bnd2 (f_X4_dealOf N x0 (x5 + (1 : Int32)) (x6 + (1 : Int32)) x2 M41) fun v54 M54 =>
    f_X4_weighNode_L28 N k16 n x0 x1 x2 (mnJ x3 (v41 + v54)) x5 (x6 + 1) M54)
set_option maxHeartbeats 4000000 in
set_option maxRecDepth 100000 in
theorem ok_X4_weighNode_L28 {X : JX} (C : Cx X cX4_weighNode RX4 7 none 2 45) (N : Nat) {k16 : Nat → Int32 → Int32 → Int64 → Int32 → A_M → Option A_M} (hk16 : ∀ (x0 : Nat) (x1 : Int32) (x2 : Int32) (x3 : Int64) (x5 : Int32) (M : A_M) (M' : A_M), k16 x0 x1 x2 x3 x5 M = some M' → J X 7 16 [(0, .ref x0), (1, .int x1), (2, .int x2), (3, .long x3), (5, .int x5)] [] M 0 0 none M') : ∀ (n : Nat) (x0 : Nat) (x1 : Int32) (x2 : Int32) (x3 : Int64) (x5 : Int32) (x6 : Int32) (M : A_M) (M' : A_M), f_X4_weighNode_L28 N k16 n x0 x1 x2 x3 x5 x6 M = some M' → J X 7 28 [(0, .ref x0), (1, .int x1), (2, .int x2), (3, .long x3), (5, .int x5), (6, .int x6)] [] M 0 0 none M' := by
  intro n
  induction n with
  | zero =>
    intro x0 x1 x2 x3 x5 x6 M M' h
    cases h
  | succ n ih =>
    intro x0 x1 x2 x3 x5 x6 M M' h
    rw [f_X4_weighNode_L28] at h
    refine J_iload (pc' := 30) C 5 dX4_weighNode_28 rfl rfl ?_
    refine J_iload_n (pc' := 31) C 2 dX4_weighNode_30 rfl rfl rfl ?_
    refine J_icmp_ge (tgt := 68) (pc' := 34) C dX4_weighNode_31 (by decide) rfl (fun c31 => ?_) (fun c31 => ?_)
    · rw [if_pos c31] at h
      refine J_sub (lv' := [(0, .ref x0), (1, .int x1), (2, .int x2), (3, .long x3), (5, .int x5)]) [0, 1, 2, 3, 4] rfl ?_
      exact ok_X4_weighNode_K68 C N hk16 _ _ _ _ _ _ _ h
    · rw [if_neg c31] at h
      refine J_lload_n (pc' := 35) C 3 dX4_weighNode_34 rfl rfl rfl ?_
      refine J_aload_n (pc' := 36) C 0 dX4_weighNode_35 rfl rfl rfl ?_
      refine J_iload (pc' := 38) C 4 dX4_weighNode_36 rfl rfl ?_
      refine J_iload_n (pc' := 39) C 1 dX4_weighNode_38 rfl rfl rfl ?_
      refine J_iload (pc' := 41) C 5 dX4_weighNode_39 rfl rfl ?_
      obtain ⟨_, q41, h⟩ := bd h
      obtain ⟨v41, M41, e41, h⟩ := bd2 h
      refine J_cV (pc' := 44) (st := [.long x3]) (st2 := [.long v41, .long x3]) (cs2 := 0) (sl2 := 0) C 4 rfl rfl q41 (ok_X4_behindSign N e41) mw_X4_behindSign wq_493 rfl dX4_weighNode_41 rfl rfl (Nat.le_of_ble_eq_true rfl) (by decide) (by decide) rfl rfl rfl (Nat.zero_le _) (Nat.zero_le _) ?_
      refine J_aload_n (pc' := 45) C 0 dX4_weighNode_44 rfl rfl rfl ?_
      refine J_iload (pc' := 47) C 4 dX4_weighNode_45 rfl rfl ?_
      refine J_iconst (pc' := 48) (v := (1 : Int32)) C dX4_weighNode_47 rfl (by decide) ?_
      refine J_iadd (pc' := 49) C dX4_weighNode_48 rfl ?_
      refine J_iload (pc' := 51) C 5 dX4_weighNode_49 rfl rfl ?_
      refine J_iconst (pc' := 52) (v := (1 : Int32)) C dX4_weighNode_51 rfl (by decide) ?_
      refine J_iadd (pc' := 53) C dX4_weighNode_52 rfl ?_
      refine J_iload_n (pc' := 54) C 2 dX4_weighNode_53 rfl rfl rfl ?_
      obtain ⟨_, q54, h⟩ := bd h
      obtain ⟨v54, M54, e54, h⟩ := bd2 h
      refine J_cV (pc' := 57) (st := [.long v41, .long x3]) (st2 := [.long v54, .long v41, .long x3]) (cs2 := 0) (sl2 := 0) C 4 rfl rfl q54 (ok_X4_dealOf N e54) mw_X4_dealOf wq_501 rfl dX4_weighNode_54 rfl rfl (Nat.le_of_ble_eq_true rfl) (by decide) (by decide) rfl rfl rfl (Nat.zero_le _) (Nat.zero_le _) ?_
      refine J_ladd (pc' := 58) C dX4_weighNode_57 rfl ?_
      refine J_minl (pc' := 61) C wq_505 dX4_weighNode_58 rfl (Nat.le_of_ble_eq_true rfl) (by decide) (by decide) (Nat.zero_le _) (Nat.zero_le _) ?_
      refine J_lstore_n (pc' := 62) (lv' := [(3, .long (mnJ x3 (v41 + v54))), (0, .ref x0), (1, .int x1), (2, .int x2), (5, .int x5), (6, .int x6)]) C dX4_weighNode_61 rfl rfl (by decide) rfl ?_
      refine J_iinc (pc' := 65) (lv' := [(6, .int (x6 + 1)), (3, .long (mnJ x3 (v41 + v54))), (0, .ref x0), (1, .int x1), (2, .int x2), (5, .int x5)]) C 5 dX4_weighNode_62 rfl rfl rfl (by decide) rfl ?_
      refine J_goto (tgt := 28) C dX4_weighNode_65 (by decide) ?_
      refine J_sub (lv' := [(0, .ref x0), (1, .int x1), (2, .int x2), (3, .long (mnJ x3 (v41 + v54))), (5, .int x5), (6, .int (x6 + 1))]) [2, 3, 4, 1, 5, 0] rfl ?_
      exact ih _ _ _ _ _ _ _ _ h
def f_X4_weighNode_L16 (N : Nat) : Nat → Nat → Int32 → Int32 → Int64 → Int32 → A_M → Option A_M
  | 0, _, _, _, _, _, _ => none
  | n + 1, x0, x1, x2, x3, x5, M =>
    (gI M x0 4 4).bind fun v19 =>
    if v19 ≤ x5 then
    ((gR M x0 4 0).bind fun v75 =>
    (stJ M v75 ((x1 * (24 : Int32)) + x2) x3).bind fun M85 =>
    some M85)
    else
    (f_X4_weighNode_L28 N (f_X4_weighNode_L16 N n) N x0 x1 x2 x3 x5 x1 M)
set_option maxHeartbeats 4000000 in
set_option maxRecDepth 100000 in
theorem ok_X4_weighNode_L16 {X : JX} (C : Cx X cX4_weighNode RX4 7 none 2 45) (N : Nat) : ∀ (n : Nat) (x0 : Nat) (x1 : Int32) (x2 : Int32) (x3 : Int64) (x5 : Int32) (M : A_M) (M' : A_M), f_X4_weighNode_L16 N n x0 x1 x2 x3 x5 M = some M' → J X 7 16 [(0, .ref x0), (1, .int x1), (2, .int x2), (3, .long x3), (5, .int x5)] [] M 0 0 none M' := by
  intro n
  induction n with
  | zero =>
    intro x0 x1 x2 x3 x5 M M' h
    cases h
  | succ n ih =>
    intro x0 x1 x2 x3 x5 M M' h
    rw [f_X4_weighNode_L16] at h
    refine J_iload (pc' := 18) C 4 dX4_weighNode_16 rfl rfl ?_
    refine J_aload_n (pc' := 19) C 0 dX4_weighNode_18 rfl rfl rfl ?_
    obtain ⟨v19, e19, h⟩ := bd h
    refine jg_464 (pc' := 22) C dX4_weighNode_19 rfl (gI_some e19) ?_
    refine J_icmp_ge (tgt := 74) (pc' := 25) C dX4_weighNode_22 (by decide) rfl (fun c22 => ?_) (fun c22 => ?_)
    · rw [if_pos c22] at h
      refine J_aload_n (pc' := 75) C 0 dX4_weighNode_74 rfl rfl rfl ?_
      obtain ⟨v75, e75, h⟩ := bd h
      refine jg_460 (pc' := 78) C dX4_weighNode_75 rfl (gR_some e75) ?_
      refine J_iload_n (pc' := 79) C 1 dX4_weighNode_78 rfl rfl rfl ?_
      refine J_bipush (pc' := 81) (v := (24 : Int32)) C dX4_weighNode_79 rfl (by decide) ?_
      refine J_imul (pc' := 82) C dX4_weighNode_81 rfl ?_
      refine J_iload_n (pc' := 83) C 2 dX4_weighNode_82 rfl rfl rfl ?_
      refine J_iadd (pc' := 84) C dX4_weighNode_83 rfl ?_
      refine J_lload_n (pc' := 85) C 3 dX4_weighNode_84 rfl rfl rfl ?_
      obtain ⟨M85, e85, h⟩ := bd h
      refine J_last (pc' := 86) C dX4_weighNode_85 rfl e85 ?_
      obtain rfl := rt1 h
      exact J_vret C dX4_weighNode_86 (Nat.zero_le _) (Nat.zero_le _)
    · rw [if_neg c22] at h
      refine J_iload_n (pc' := 26) C 1 dX4_weighNode_25 rfl rfl rfl ?_
      refine J_istore (pc' := 28) (lv' := [(6, .int x1), (0, .ref x0), (1, .int x1), (2, .int x2), (3, .long x3), (5, .int x5)]) C dX4_weighNode_26 rfl (by decide) rfl ?_
      refine J_sub (lv' := [(0, .ref x0), (1, .int x1), (2, .int x2), (3, .long x3), (5, .int x5), (6, .int x1)]) [1, 2, 3, 4, 5, 0] rfl ?_
      exact ok_X4_weighNode_L28 C N ih N _ _ _ _ _ _ _ _ h
def f_X4_weighNode_K12 (N : Nat) (x0 : Nat) (x1 : Int32) (x2 : Int32) (s0 : Int64) (M : A_M) : Option A_M :=
  f_X4_weighNode_L16 N N x0 x1 x2 s0 (0 : Int32) M
set_option maxHeartbeats 4000000 in
set_option maxRecDepth 100000 in
theorem ok_X4_weighNode_K12 {X : JX} (C : Cx X cX4_weighNode RX4 7 none 2 45) (N : Nat) : ∀ (x0 : Nat) (x1 : Int32) (x2 : Int32) (s0 : Int64) (M : A_M) (M' : A_M), f_X4_weighNode_K12 N x0 x1 x2 s0 M = some M' → J X 7 12 [(0, .ref x0), (1, .int x1), (2, .int x2)] [.long s0] M 0 0 none M' := by
  intro x0 x1 x2 s0 M M' h
  unfold f_X4_weighNode_K12 at h
  refine J_lstore_n (pc' := 13) (lv' := [(3, .long s0), (0, .ref x0), (1, .int x1), (2, .int x2)]) C dX4_weighNode_12 rfl rfl (by decide) rfl ?_
  refine J_iconst (pc' := 14) (v := (0 : Int32)) C dX4_weighNode_13 rfl (by decide) ?_
  refine J_istore (pc' := 16) (lv' := [(5, .int (0 : Int32)), (3, .long s0), (0, .ref x0), (1, .int x1), (2, .int x2)]) C dX4_weighNode_14 rfl (by decide) rfl ?_
  refine J_sub (lv' := [(0, .ref x0), (1, .int x1), (2, .int x2), (3, .long s0), (5, .int (0 : Int32))]) [2, 3, 4, 1, 0] rfl ?_
  exact ok_X4_weighNode_L16 C N N _ _ _ _ _ _ _ h
def f_X4_weighNode (N : Nat) (a0 : Nat) (a1 : Int32) (a2 : Int32) (M : A_M) : Option A_M :=
  if a1 = a2 then
  (f_X4_weighNode_K12 N a0 a1 a2 (0 : Int64) M)
  else
  (f_X4_weighNode_K12 N a0 a1 a2 (1152921504606846976 : Int64) M)
set_option maxHeartbeats 4000000 in
set_option maxRecDepth 100000 in
theorem ok_X4_weighNode (N : Nat) {a0 : Nat} {a1 : Int32} {a2 : Int32} {M : A_M} {M' : A_M} (h : f_X4_weighNode N a0 a1 a2 M = some M') : Runs yX4_weighNode cX4_weighNode 7 none 2 45 0 0 [.ref a0, .int a1, .int a2] M none M' := by
  refine Runs.intro (by decide) (Nat.le_of_ble_eq_true rfl) (fun X C hnm hMC hMS => ?_)
  have C : Cx X cX4_weighNode RX4 7 none 2 45 := C
  show J X 7 0 [(0, .ref a0), (1, .int a1), (2, .int a2)] [] M 0 0 none M'
  unfold f_X4_weighNode at h
  refine J_iload_n (pc' := 1) C 1 dX4_weighNode_0 rfl rfl rfl ?_
  refine J_iload_n (pc' := 2) C 2 dX4_weighNode_1 rfl rfl rfl ?_
  refine J_icmp_ne (tgt := 9) (pc' := 5) C dX4_weighNode_2 (by decide) rfl (fun c2 => ?_) (fun c2 => ?_)
  · rw [if_neg c2] at h
    refine J_ldc2 (pc' := 12) C dX4_weighNode_9 rfl wq_492 ?_
    refine J_sub (lv' := [(0, .ref a0), (1, .int a1), (2, .int a2)]) [0, 1, 2] rfl ?_
    exact ok_X4_weighNode_K12 C N _ _ _ _ _ _ h
  · rw [if_pos c2] at h
    refine J_lconst (pc' := 6) (v := (0 : Int64)) C dX4_weighNode_5 rfl (by decide) ?_
    refine J_goto (tgt := 12) C dX4_weighNode_6 (by decide) ?_
    refine J_sub (lv' := [(0, .ref a0), (1, .int a1), (2, .int a2)]) [0, 1, 2] rfl ?_
    exact ok_X4_weighNode_K12 C N _ _ _ _ _ _ h
def f_X4_weighDeals_K88 (N : Nat) (k29 : Nat → Int32 → Int32 → Int32 → A_M → Option A_M) (x0 : Nat) (x1 : Int32) (x2 : Int32) (x3 : Int32) (x4 : Int64) (M : A_M) : Option A_M :=
  (gR M x0 4 1).bind fun v89 =>
  (stJ M v89 ((((x3 * (24 : Int32)) + x1) * (24 : Int32)) + x2) x4).bind fun M105 =>
  k29 x0 x1 x2 (x3 + (-1)) M105
set_option maxHeartbeats 4000000 in
set_option maxRecDepth 100000 in
theorem ok_X4_weighDeals_K88 {X : JX} (C : Cx X cX4_weighDeals RX4 7 none 2 45) (N : Nat) {k29 : Nat → Int32 → Int32 → Int32 → A_M → Option A_M} (hk29 : ∀ (x0 : Nat) (x1 : Int32) (x2 : Int32) (x3 : Int32) (M : A_M) (M' : A_M), k29 x0 x1 x2 x3 M = some M' → J X 7 29 [(0, .ref x0), (1, .int x1), (2, .int x2), (3, .int x3)] [] M 0 0 none M') : ∀ (x0 : Nat) (x1 : Int32) (x2 : Int32) (x3 : Int32) (x4 : Int64) (M : A_M) (M' : A_M), f_X4_weighDeals_K88 N k29 x0 x1 x2 x3 x4 M = some M' → J X 7 88 [(0, .ref x0), (1, .int x1), (2, .int x2), (3, .int x3), (4, .long x4)] [] M 0 0 none M' := by
  intro x0 x1 x2 x3 x4 M M' h
  unfold f_X4_weighDeals_K88 at h
  refine J_aload_n (pc' := 89) C 0 dX4_weighDeals_88 rfl rfl rfl ?_
  obtain ⟨v89, e89, h⟩ := bd h
  refine jg_461 (pc' := 92) C dX4_weighDeals_89 rfl (gR_some e89) ?_
  refine J_iload_n (pc' := 93) C 3 dX4_weighDeals_92 rfl rfl rfl ?_
  refine J_bipush (pc' := 95) (v := (24 : Int32)) C dX4_weighDeals_93 rfl (by decide) ?_
  refine J_imul (pc' := 96) C dX4_weighDeals_95 rfl ?_
  refine J_iload_n (pc' := 97) C 1 dX4_weighDeals_96 rfl rfl rfl ?_
  refine J_iadd (pc' := 98) C dX4_weighDeals_97 rfl ?_
  refine J_bipush (pc' := 100) (v := (24 : Int32)) C dX4_weighDeals_98 rfl (by decide) ?_
  refine J_imul (pc' := 101) C dX4_weighDeals_100 rfl ?_
  refine J_iload_n (pc' := 102) C 2 dX4_weighDeals_101 rfl rfl rfl ?_
  refine J_iadd (pc' := 103) C dX4_weighDeals_102 rfl ?_
  refine J_lload (pc' := 105) C 4 dX4_weighDeals_103 rfl rfl ?_
  obtain ⟨M105, e105, h⟩ := bd h
  refine J_last (pc' := 106) C dX4_weighDeals_105 rfl e105 ?_
  refine J_iinc (pc' := 109) (lv' := [(3, .int (x3 + (-1))), (0, .ref x0), (1, .int x1), (2, .int x2), (4, .long x4)]) C 3 dX4_weighDeals_106 rfl rfl rfl (by decide) rfl ?_
  refine J_goto (tgt := 29) C dX4_weighDeals_109 (by decide) ?_
  refine J_sub (lv' := [(0, .ref x0), (1, .int x1), (2, .int x2), (3, .int (x3 + (-1)))]) [1, 2, 3, 0] rfl ?_
  exact hk29 _ _ _ _ _ _ h
def f_X4_weighDeals_L48 (N : Nat) (k29 : Nat → Int32 → Int32 → Int32 → A_M → Option A_M) : Nat → Nat → Int32 → Int32 → Int32 → Int64 → Int32 → A_M → Option A_M
  | 0, _, _, _, _, _, _, _ => none
  | n + 1, x0, x1, x2, x3, x4, x6, M =>
    if x2 < x6 then
    (f_X4_weighDeals_K88 N k29 x0 x1 x2 x3 x4 M)
    else
    ((chk M x0 4).bind fun _ =>
    bnd2 (f_X4_behindSign N x0 x3 x1 x6 M) fun v61 M61 =>
    (chk M61 x0 4).bind fun _ =>
    bnd2 (f_X4_dealOf N x0 (x3 + (1 : Int32)) (x6 + (1 : Int32)) x2 M61) fun v73 M73 =>
    f_X4_weighDeals_L48 N k29 n x0 x1 x2 x3 (mnJ x4 (v61 + v73)) (x6 + 1) M73)
set_option maxHeartbeats 4000000 in
set_option maxRecDepth 100000 in
theorem ok_X4_weighDeals_L48 {X : JX} (C : Cx X cX4_weighDeals RX4 7 none 2 45) (N : Nat) {k29 : Nat → Int32 → Int32 → Int32 → A_M → Option A_M} (hk29 : ∀ (x0 : Nat) (x1 : Int32) (x2 : Int32) (x3 : Int32) (M : A_M) (M' : A_M), k29 x0 x1 x2 x3 M = some M' → J X 7 29 [(0, .ref x0), (1, .int x1), (2, .int x2), (3, .int x3)] [] M 0 0 none M') : ∀ (n : Nat) (x0 : Nat) (x1 : Int32) (x2 : Int32) (x3 : Int32) (x4 : Int64) (x6 : Int32) (M : A_M) (M' : A_M), f_X4_weighDeals_L48 N k29 n x0 x1 x2 x3 x4 x6 M = some M' → J X 7 48 [(0, .ref x0), (1, .int x1), (2, .int x2), (3, .int x3), (4, .long x4), (6, .int x6)] [] M 0 0 none M' := by
  intro n
  induction n with
  | zero =>
    intro x0 x1 x2 x3 x4 x6 M M' h
    cases h
  | succ n ih =>
    intro x0 x1 x2 x3 x4 x6 M M' h
    rw [f_X4_weighDeals_L48] at h
    refine J_iload (pc' := 50) C 5 dX4_weighDeals_48 rfl rfl ?_
    refine J_iload_n (pc' := 51) C 2 dX4_weighDeals_50 rfl rfl rfl ?_
    refine J_icmp_gt (tgt := 88) (pc' := 54) C dX4_weighDeals_51 (by decide) rfl (fun c51 => ?_) (fun c51 => ?_)
    · rw [if_pos c51] at h
      refine J_sub (lv' := [(0, .ref x0), (1, .int x1), (2, .int x2), (3, .int x3), (4, .long x4)]) [0, 1, 2, 3, 4] rfl ?_
      exact ok_X4_weighDeals_K88 C N hk29 _ _ _ _ _ _ _ h
    · rw [if_neg c51] at h
      refine J_lload (pc' := 56) C 4 dX4_weighDeals_54 rfl rfl ?_
      refine J_aload_n (pc' := 57) C 0 dX4_weighDeals_56 rfl rfl rfl ?_
      refine J_iload_n (pc' := 58) C 3 dX4_weighDeals_57 rfl rfl rfl ?_
      refine J_iload_n (pc' := 59) C 1 dX4_weighDeals_58 rfl rfl rfl ?_
      refine J_iload (pc' := 61) C 5 dX4_weighDeals_59 rfl rfl ?_
      obtain ⟨_, q61, h⟩ := bd h
      obtain ⟨v61, M61, e61, h⟩ := bd2 h
      refine J_cV (pc' := 64) (st := [.long x4]) (st2 := [.long v61, .long x4]) (cs2 := 0) (sl2 := 0) C 4 rfl rfl q61 (ok_X4_behindSign N e61) mw_X4_behindSign wq_493 rfl dX4_weighDeals_61 rfl rfl (Nat.le_of_ble_eq_true rfl) (by decide) (by decide) rfl rfl rfl (Nat.zero_le _) (Nat.zero_le _) ?_
      refine J_aload_n (pc' := 65) C 0 dX4_weighDeals_64 rfl rfl rfl ?_
      refine J_iload_n (pc' := 66) C 3 dX4_weighDeals_65 rfl rfl rfl ?_
      refine J_iconst (pc' := 67) (v := (1 : Int32)) C dX4_weighDeals_66 rfl (by decide) ?_
      refine J_iadd (pc' := 68) C dX4_weighDeals_67 rfl ?_
      refine J_iload (pc' := 70) C 5 dX4_weighDeals_68 rfl rfl ?_
      refine J_iconst (pc' := 71) (v := (1 : Int32)) C dX4_weighDeals_70 rfl (by decide) ?_
      refine J_iadd (pc' := 72) C dX4_weighDeals_71 rfl ?_
      refine J_iload_n (pc' := 73) C 2 dX4_weighDeals_72 rfl rfl rfl ?_
      obtain ⟨_, q73, h⟩ := bd h
      obtain ⟨v73, M73, e73, h⟩ := bd2 h
      refine J_cV (pc' := 76) (st := [.long v61, .long x4]) (st2 := [.long v73, .long v61, .long x4]) (cs2 := 0) (sl2 := 0) C 4 rfl rfl q73 (ok_X4_dealOf N e73) mw_X4_dealOf wq_501 rfl dX4_weighDeals_73 rfl rfl (Nat.le_of_ble_eq_true rfl) (by decide) (by decide) rfl rfl rfl (Nat.zero_le _) (Nat.zero_le _) ?_
      refine J_ladd (pc' := 77) C dX4_weighDeals_76 rfl ?_
      refine J_minl (pc' := 80) C wq_505 dX4_weighDeals_77 rfl (Nat.le_of_ble_eq_true rfl) (by decide) (by decide) (Nat.zero_le _) (Nat.zero_le _) ?_
      refine J_lstore (pc' := 82) (lv' := [(4, .long (mnJ x4 (v61 + v73))), (0, .ref x0), (1, .int x1), (2, .int x2), (3, .int x3), (6, .int x6)]) C dX4_weighDeals_80 rfl (by decide) rfl ?_
      refine J_iinc (pc' := 85) (lv' := [(6, .int (x6 + 1)), (4, .long (mnJ x4 (v61 + v73))), (0, .ref x0), (1, .int x1), (2, .int x2), (3, .int x3)]) C 5 dX4_weighDeals_82 rfl rfl rfl (by decide) rfl ?_
      refine J_goto (tgt := 48) C dX4_weighDeals_85 (by decide) ?_
      refine J_sub (lv' := [(0, .ref x0), (1, .int x1), (2, .int x2), (3, .int x3), (4, .long (mnJ x4 (v61 + v73))), (6, .int (x6 + 1))]) [2, 3, 4, 5, 1, 0] rfl ?_
      exact ih _ _ _ _ _ _ _ _ h
def f_X4_weighDeals_L29 (N : Nat) : Nat → Nat → Int32 → Int32 → Int32 → A_M → Option A_M
  | 0, _, _, _, _, _ => none
  | n + 1, x0, x1, x2, x3, M =>
    if x3 < (1 : Int32) then
    (some M)
    else
    ((chk M x0 4).bind fun _ =>
    bnd2 (f_X4_dealOf N x0 (x3 + (1 : Int32)) x1 x2 M) fun v40 M40 =>
    f_X4_weighDeals_L48 N (f_X4_weighDeals_L29 N n) N x0 x1 x2 x3 v40 x1 M40)
set_option maxHeartbeats 4000000 in
set_option maxRecDepth 100000 in
theorem ok_X4_weighDeals_L29 {X : JX} (C : Cx X cX4_weighDeals RX4 7 none 2 45) (N : Nat) : ∀ (n : Nat) (x0 : Nat) (x1 : Int32) (x2 : Int32) (x3 : Int32) (M : A_M) (M' : A_M), f_X4_weighDeals_L29 N n x0 x1 x2 x3 M = some M' → J X 7 29 [(0, .ref x0), (1, .int x1), (2, .int x2), (3, .int x3)] [] M 0 0 none M' := by
  intro n
  induction n with
  | zero =>
    intro x0 x1 x2 x3 M M' h
    cases h
  | succ n ih =>
    intro x0 x1 x2 x3 M M' h
    rw [f_X4_weighDeals_L29] at h
    refine J_iload_n (pc' := 30) C 3 dX4_weighDeals_29 rfl rfl rfl ?_
    refine J_iconst (pc' := 31) (v := (1 : Int32)) C dX4_weighDeals_30 rfl (by decide) ?_
    refine J_icmp_lt (tgt := 112) (pc' := 34) C dX4_weighDeals_31 (by decide) rfl (fun c31 => ?_) (fun c31 => ?_)
    · rw [if_pos c31] at h
      obtain rfl := rt1 h
      exact J_vret C dX4_weighDeals_112 (Nat.zero_le _) (Nat.zero_le _)
    · rw [if_neg c31] at h
      refine J_aload_n (pc' := 35) C 0 dX4_weighDeals_34 rfl rfl rfl ?_
      refine J_iload_n (pc' := 36) C 3 dX4_weighDeals_35 rfl rfl rfl ?_
      refine J_iconst (pc' := 37) (v := (1 : Int32)) C dX4_weighDeals_36 rfl (by decide) ?_
      refine J_iadd (pc' := 38) C dX4_weighDeals_37 rfl ?_
      refine J_iload_n (pc' := 39) C 1 dX4_weighDeals_38 rfl rfl rfl ?_
      refine J_iload_n (pc' := 40) C 2 dX4_weighDeals_39 rfl rfl rfl ?_
      obtain ⟨_, q40, h⟩ := bd h
      obtain ⟨v40, M40, e40, h⟩ := bd2 h
      refine J_cV (pc' := 43) (st := []) (st2 := [.long v40]) (cs2 := 0) (sl2 := 0) C 4 rfl rfl q40 (ok_X4_dealOf N e40) mw_X4_dealOf wq_501 rfl dX4_weighDeals_40 rfl rfl (Nat.le_of_ble_eq_true rfl) (by decide) (by decide) rfl rfl rfl (Nat.zero_le _) (Nat.zero_le _) ?_
      refine J_lstore (pc' := 45) (lv' := [(4, .long v40), (0, .ref x0), (1, .int x1), (2, .int x2), (3, .int x3)]) C dX4_weighDeals_43 rfl (by decide) rfl ?_
      refine J_iload_n (pc' := 46) C 2 dX4_weighDeals_45 rfl rfl rfl ?_
      refine J_istore (pc' := 48) (lv' := [(6, .int x1), (4, .long v40), (0, .ref x0), (1, .int x1), (2, .int x2), (3, .int x3)]) C dX4_weighDeals_46 rfl (by decide) rfl ?_
      refine J_sub (lv' := [(0, .ref x0), (1, .int x1), (2, .int x2), (3, .int x3), (4, .long v40), (6, .int x1)]) [2, 3, 4, 5, 1, 0] rfl ?_
      exact ok_X4_weighDeals_L48 C N ih N _ _ _ _ _ _ _ _ h
def f_X4_weighDeals (N : Nat) (a0 : Nat) (a1 : Int32) (a2 : Int32) (M : A_M) : Option A_M :=
  (gR M a0 4 1).bind fun v1 =>
  (gI M a0 4 4).bind fun v5 =>
  (stJ M v1 ((((v5 * (24 : Int32)) + a1) * (24 : Int32)) + a2) (1152921504606846976 : Int64)).bind fun M21 =>
  (gI M21 a0 4 4).bind fun v23 =>
  f_X4_weighDeals_L29 N N a0 a1 a2 (v23 - (1 : Int32)) M21
set_option maxHeartbeats 4000000 in
set_option maxRecDepth 100000 in
theorem ok_X4_weighDeals (N : Nat) {a0 : Nat} {a1 : Int32} {a2 : Int32} {M : A_M} {M' : A_M} (h : f_X4_weighDeals N a0 a1 a2 M = some M') : Runs yX4_weighDeals cX4_weighDeals 7 none 2 45 0 0 [.ref a0, .int a1, .int a2] M none M' := by
  refine Runs.intro (by decide) (Nat.le_of_ble_eq_true rfl) (fun X C hnm hMC hMS => ?_)
  have C : Cx X cX4_weighDeals RX4 7 none 2 45 := C
  show J X 7 0 [(0, .ref a0), (1, .int a1), (2, .int a2)] [] M 0 0 none M'
  unfold f_X4_weighDeals at h
  refine J_aload_n (pc' := 1) C 0 dX4_weighDeals_0 rfl rfl rfl ?_
  obtain ⟨v1, e1, h⟩ := bd h
  refine jg_461 (pc' := 4) C dX4_weighDeals_1 rfl (gR_some e1) ?_
  refine J_aload_n (pc' := 5) C 0 dX4_weighDeals_4 rfl rfl rfl ?_
  obtain ⟨v5, e5, h⟩ := bd h
  refine jg_464 (pc' := 8) C dX4_weighDeals_5 rfl (gI_some e5) ?_
  refine J_bipush (pc' := 10) (v := (24 : Int32)) C dX4_weighDeals_8 rfl (by decide) ?_
  refine J_imul (pc' := 11) C dX4_weighDeals_10 rfl ?_
  refine J_iload_n (pc' := 12) C 1 dX4_weighDeals_11 rfl rfl rfl ?_
  refine J_iadd (pc' := 13) C dX4_weighDeals_12 rfl ?_
  refine J_bipush (pc' := 15) (v := (24 : Int32)) C dX4_weighDeals_13 rfl (by decide) ?_
  refine J_imul (pc' := 16) C dX4_weighDeals_15 rfl ?_
  refine J_iload_n (pc' := 17) C 2 dX4_weighDeals_16 rfl rfl rfl ?_
  refine J_iadd (pc' := 18) C dX4_weighDeals_17 rfl ?_
  refine J_ldc2 (pc' := 21) C dX4_weighDeals_18 rfl wq_492 ?_
  obtain ⟨M21, e21, h⟩ := bd h
  refine J_last (pc' := 22) C dX4_weighDeals_21 rfl e21 ?_
  refine J_aload_n (pc' := 23) C 0 dX4_weighDeals_22 rfl rfl rfl ?_
  obtain ⟨v23, e23, h⟩ := bd h
  refine jg_464 (pc' := 26) C dX4_weighDeals_23 rfl (gI_some e23) ?_
  refine J_iconst (pc' := 27) (v := (1 : Int32)) C dX4_weighDeals_26 rfl (by decide) ?_
  refine J_isub (pc' := 28) C dX4_weighDeals_27 rfl ?_
  refine J_istore_n (pc' := 29) (lv' := [(3, .int (v23 - (1 : Int32))), (0, .ref a0), (1, .int a1), (2, .int a2)]) C dX4_weighDeals_28 rfl rfl (by decide) rfl ?_
  refine J_sub (lv' := [(0, .ref a0), (1, .int a1), (2, .int a2), (3, .int (v23 - (1 : Int32)))]) [1, 2, 3, 0] rfl ?_
  exact ok_X4_weighDeals_L29 C N N _ _ _ _ _ _ h
def f_X4_weigh_K113 (N : Nat) (k65 : Nat → Int32 → Int32 → Int32 → A_M → Option A_M) (x0 : Nat) (x2 : Int32) (x3 : Int32) (x6 : Int32) (M : A_M) : Option A_M :=
  k65 x0 x2 x3 (x6 + 1) M
set_option maxHeartbeats 4000000 in
set_option maxRecDepth 100000 in
theorem ok_X4_weigh_K113 {X : JX} (C : Cx X cX4_weigh RX4 8 none 3 71) (N : Nat) {k65 : Nat → Int32 → Int32 → Int32 → A_M → Option A_M} (hk65 : ∀ (x0 : Nat) (x2 : Int32) (x3 : Int32) (x6 : Int32) (M : A_M) (M' : A_M), k65 x0 x2 x3 x6 M = some M' → J X 8 65 [(0, .ref x0), (2, .int x2), (3, .int x3), (6, .int x6)] [] M 0 0 none M') : ∀ (x0 : Nat) (x2 : Int32) (x3 : Int32) (x6 : Int32) (M : A_M) (M' : A_M), f_X4_weigh_K113 N k65 x0 x2 x3 x6 M = some M' → J X 8 113 [(0, .ref x0), (2, .int x2), (3, .int x3), (6, .int x6)] [] M 0 0 none M' := by
  intro x0 x2 x3 x6 M M' h
  unfold f_X4_weigh_K113 at h
  refine J_iinc (pc' := 116) (lv' := [(6, .int (x6 + 1)), (0, .ref x0), (2, .int x2), (3, .int x3)]) C 3 dX4_weigh_113 rfl rfl rfl (by decide) rfl ?_
  refine J_goto (tgt := 65) C dX4_weigh_116 (by decide) ?_
  refine J_sub (lv' := [(0, .ref x0), (2, .int x2), (3, .int x3), (6, .int (x6 + 1))]) [1, 2, 3, 0] rfl ?_
  exact hk65 _ _ _ _ _ _ h
def f_X4_weigh_L76 (N : Nat) (k65 : Nat → Int32 → Int32 → Int32 → A_M → Option A_M) : Nat → Nat → Int32 → Int32 → Int32 → Int32 → A_M → Option A_M
  | 0, _, _, _, _, _, _ => none
  | n + 1, x0, x2, x3, x6, x7, M =>
    if x3 < (x7 + x6) then
    (f_X4_weigh_K113 N k65 x0 x2 x3 x6 M)
    else
    ((chk M x0 4).bind fun _ =>
    (f_X4_weighNode N x0 x7 (x7 + x6) M).bind fun M93 =>
    (chk M93 x0 4).bind fun _ =>
    (f_X4_weighDeals N x0 x7 (x7 + x6) M93).bind fun M104 =>
    f_X4_weigh_L76 N k65 n x0 x2 x3 x6 (x7 + 1) M104)
set_option maxHeartbeats 4000000 in
set_option maxRecDepth 100000 in
theorem ok_X4_weigh_L76 {X : JX} (C : Cx X cX4_weigh RX4 8 none 3 71) (N : Nat) {k65 : Nat → Int32 → Int32 → Int32 → A_M → Option A_M} (hk65 : ∀ (x0 : Nat) (x2 : Int32) (x3 : Int32) (x6 : Int32) (M : A_M) (M' : A_M), k65 x0 x2 x3 x6 M = some M' → J X 8 65 [(0, .ref x0), (2, .int x2), (3, .int x3), (6, .int x6)] [] M 0 0 none M') : ∀ (n : Nat) (x0 : Nat) (x2 : Int32) (x3 : Int32) (x6 : Int32) (x7 : Int32) (M : A_M) (M' : A_M), f_X4_weigh_L76 N k65 n x0 x2 x3 x6 x7 M = some M' → J X 8 76 [(0, .ref x0), (2, .int x2), (3, .int x3), (6, .int x6), (7, .int x7)] [] M 0 0 none M' := by
  intro n
  induction n with
  | zero =>
    intro x0 x2 x3 x6 x7 M M' h
    cases h
  | succ n ih =>
    intro x0 x2 x3 x6 x7 M M' h
    rw [f_X4_weigh_L76] at h
    refine J_iload (pc' := 78) C 4 dX4_weigh_76 rfl rfl ?_
    refine J_iload (pc' := 80) C 3 dX4_weigh_78 rfl rfl ?_
    refine J_iadd (pc' := 81) C dX4_weigh_80 rfl ?_
    refine J_iload_n (pc' := 82) C 2 dX4_weigh_81 rfl rfl rfl ?_
    refine J_icmp_gt (tgt := 113) (pc' := 85) C dX4_weigh_82 (by decide) rfl (fun c82 => ?_) (fun c82 => ?_)
    · rw [if_pos c82] at h
      refine J_sub (lv' := [(0, .ref x0), (2, .int x2), (3, .int x3), (6, .int x6)]) [0, 1, 2, 3] rfl ?_
      exact ok_X4_weigh_K113 C N hk65 _ _ _ _ _ _ h
    · rw [if_neg c82] at h
      refine J_aload_n (pc' := 86) C 0 dX4_weigh_85 rfl rfl rfl ?_
      refine J_iload (pc' := 88) C 4 dX4_weigh_86 rfl rfl ?_
      refine J_iload (pc' := 90) C 4 dX4_weigh_88 rfl rfl ?_
      refine J_iload (pc' := 92) C 3 dX4_weigh_90 rfl rfl ?_
      refine J_iadd (pc' := 93) C dX4_weigh_92 rfl ?_
      obtain ⟨_, q93, h⟩ := bd h
      obtain ⟨M93, e93, h⟩ := bd h
      refine J_cV (pc' := 96) (st := []) (st2 := []) (cs2 := 0) (sl2 := 0) C 4 rfl rfl q93 (ok_X4_weighNode N e93) mw_X4_weighNode wq_488 rfl dX4_weigh_93 rfl rfl (Nat.le_of_ble_eq_true rfl) (by decide) (by decide) rfl rfl rfl (Nat.zero_le _) (Nat.zero_le _) ?_
      refine J_aload_n (pc' := 97) C 0 dX4_weigh_96 rfl rfl rfl ?_
      refine J_iload (pc' := 99) C 4 dX4_weigh_97 rfl rfl ?_
      refine J_iload (pc' := 101) C 4 dX4_weigh_99 rfl rfl ?_
      refine J_iload (pc' := 103) C 3 dX4_weigh_101 rfl rfl ?_
      refine J_iadd (pc' := 104) C dX4_weigh_103 rfl ?_
      obtain ⟨_, q104, h⟩ := bd h
      obtain ⟨M104, e104, h⟩ := bd h
      refine J_cV (pc' := 107) (st := []) (st2 := []) (cs2 := 0) (sl2 := 0) C 4 rfl rfl q104 (ok_X4_weighDeals N e104) mw_X4_weighDeals wq_506 rfl dX4_weigh_104 rfl rfl (Nat.le_of_ble_eq_true rfl) (by decide) (by decide) rfl rfl rfl (Nat.zero_le _) (Nat.zero_le _) ?_
      refine J_iinc (pc' := 110) (lv' := [(7, .int (x7 + 1)), (0, .ref x0), (2, .int x2), (3, .int x3), (6, .int x6)]) C 4 dX4_weigh_107 rfl rfl rfl (by decide) rfl ?_
      refine J_goto (tgt := 76) C dX4_weigh_110 (by decide) ?_
      refine J_sub (lv' := [(0, .ref x0), (2, .int x2), (3, .int x3), (6, .int x6), (7, .int (x7 + 1))]) [1, 2, 3, 4, 0] rfl ?_
      exact ih _ _ _ _ _ _ _ h
def f_X4_weigh_L65 (N : Nat) : Nat → Nat → Int32 → Int32 → Int32 → A_M → Option A_M
  | 0, _, _, _, _, _ => none
  | n + 1, x0, x2, x3, x6, M =>
    if (x3 - x2) < x6 then
    (some M)
    else
    (f_X4_weigh_L76 N (f_X4_weigh_L65 N n) N x0 x2 x3 x6 x2 M)
set_option maxHeartbeats 4000000 in
set_option maxRecDepth 100000 in
theorem ok_X4_weigh_L65 {X : JX} (C : Cx X cX4_weigh RX4 8 none 3 71) (N : Nat) : ∀ (n : Nat) (x0 : Nat) (x2 : Int32) (x3 : Int32) (x6 : Int32) (M : A_M) (M' : A_M), f_X4_weigh_L65 N n x0 x2 x3 x6 M = some M' → J X 8 65 [(0, .ref x0), (2, .int x2), (3, .int x3), (6, .int x6)] [] M 0 0 none M' := by
  intro n
  induction n with
  | zero =>
    intro x0 x2 x3 x6 M M' h
    cases h
  | succ n ih =>
    intro x0 x2 x3 x6 M M' h
    rw [f_X4_weigh_L65] at h
    refine J_iload (pc' := 67) C 3 dX4_weigh_65 rfl rfl ?_
    refine J_iload_n (pc' := 68) C 2 dX4_weigh_67 rfl rfl rfl ?_
    refine J_iload_n (pc' := 69) C 1 dX4_weigh_68 rfl rfl rfl ?_
    refine J_isub (pc' := 70) C dX4_weigh_69 rfl ?_
    refine J_icmp_gt (tgt := 119) (pc' := 73) C dX4_weigh_70 (by decide) rfl (fun c70 => ?_) (fun c70 => ?_)
    · rw [if_pos c70] at h
      obtain rfl := rt1 h
      exact J_vret C dX4_weigh_119 (Nat.zero_le _) (Nat.zero_le _)
    · rw [if_neg c70] at h
      refine J_iload_n (pc' := 74) C 1 dX4_weigh_73 rfl rfl rfl ?_
      refine J_istore (pc' := 76) (lv' := [(7, .int x2), (0, .ref x0), (2, .int x2), (3, .int x3), (6, .int x6)]) C dX4_weigh_74 rfl (by decide) rfl ?_
      refine J_sub (lv' := [(0, .ref x0), (2, .int x2), (3, .int x3), (6, .int x6), (7, .int x2)]) [1, 2, 3, 4, 0] rfl ?_
      exact ok_X4_weigh_L76 C N ih N _ _ _ _ _ _ _ h
def f_X4_weigh_K62 (N : Nat) (x0 : Nat) (x2 : Int32) (x3 : Int32) (M : A_M) : Option A_M :=
  f_X4_weigh_L65 N N x0 x2 x3 (0 : Int32) M
set_option maxHeartbeats 4000000 in
set_option maxRecDepth 100000 in
theorem ok_X4_weigh_K62 {X : JX} (C : Cx X cX4_weigh RX4 8 none 3 71) (N : Nat) : ∀ (x0 : Nat) (x2 : Int32) (x3 : Int32) (M : A_M) (M' : A_M), f_X4_weigh_K62 N x0 x2 x3 M = some M' → J X 8 62 [(0, .ref x0), (2, .int x2), (3, .int x3)] [] M 0 0 none M' := by
  intro x0 x2 x3 M M' h
  unfold f_X4_weigh_K62 at h
  refine J_iconst (pc' := 63) (v := (0 : Int32)) C dX4_weigh_62 rfl (by decide) ?_
  refine J_istore (pc' := 65) (lv' := [(6, .int (0 : Int32)), (0, .ref x0), (2, .int x2), (3, .int x3)]) C dX4_weigh_63 rfl (by decide) rfl ?_
  refine J_sub (lv' := [(0, .ref x0), (2, .int x2), (3, .int x3), (6, .int (0 : Int32))]) [1, 2, 3, 0] rfl ?_
  exact ok_X4_weigh_L65 C N N _ _ _ _ _ _ h
def f_X4_weigh_L28 (N : Nat) : Nat → Nat → Nat → Int32 → Int32 → Int32 → A_M → Option A_M
  | 0, _, _, _, _, _, _ => none
  | n + 1, x0, x1, x2, x3, x6, M =>
    if x3 < x6 then
    (f_X4_weigh_K62 N x0 x2 x3 M)
    else
    ((gR M x0 4 2).bind fun v35 =>
    (gR M x0 4 2).bind fun v43 =>
    (ldJ M v43 x6).bind fun v48 =>
    (ldI M x1 x6).bind fun v52 =>
    (stJ M v35 (x6 + (1 : Int32)) (v48 + (v52.toInt64))).bind fun M55 =>
    f_X4_weigh_L28 N n x0 x1 x2 x3 (x6 + 1) M55)
set_option maxHeartbeats 4000000 in
set_option maxRecDepth 100000 in
theorem ok_X4_weigh_L28 {X : JX} (C : Cx X cX4_weigh RX4 8 none 3 71) (N : Nat) : ∀ (n : Nat) (x0 : Nat) (x1 : Nat) (x2 : Int32) (x3 : Int32) (x6 : Int32) (M : A_M) (M' : A_M), f_X4_weigh_L28 N n x0 x1 x2 x3 x6 M = some M' → J X 8 28 [(0, .ref x0), (1, .ref x1), (2, .int x2), (3, .int x3), (6, .int x6)] [] M 0 0 none M' := by
  intro n
  induction n with
  | zero =>
    intro x0 x1 x2 x3 x6 M M' h
    cases h
  | succ n ih =>
    intro x0 x1 x2 x3 x6 M M' h
    rw [f_X4_weigh_L28] at h
    refine J_iload (pc' := 30) C 4 dX4_weigh_28 rfl rfl ?_
    refine J_iload_n (pc' := 31) C 3 dX4_weigh_30 rfl rfl rfl ?_
    refine J_icmp_gt (tgt := 62) (pc' := 34) C dX4_weigh_31 (by decide) rfl (fun c31 => ?_) (fun c31 => ?_)
    · rw [if_pos c31] at h
      refine J_sub (lv' := [(0, .ref x0), (2, .int x2), (3, .int x3)]) [0, 2, 3] rfl ?_
      exact ok_X4_weigh_K62 C N _ _ _ _ _ h
    · rw [if_neg c31] at h
      refine J_aload_n (pc' := 35) C 0 dX4_weigh_34 rfl rfl rfl ?_
      obtain ⟨v35, e35, h⟩ := bd h
      refine jg_462 (pc' := 38) C dX4_weigh_35 rfl (gR_some e35) ?_
      refine J_iload (pc' := 40) C 4 dX4_weigh_38 rfl rfl ?_
      refine J_iconst (pc' := 41) (v := (1 : Int32)) C dX4_weigh_40 rfl (by decide) ?_
      refine J_iadd (pc' := 42) C dX4_weigh_41 rfl ?_
      refine J_aload_n (pc' := 43) C 0 dX4_weigh_42 rfl rfl rfl ?_
      obtain ⟨v43, e43, h⟩ := bd h
      refine jg_462 (pc' := 46) C dX4_weigh_43 rfl (gR_some e43) ?_
      refine J_iload (pc' := 48) C 4 dX4_weigh_46 rfl rfl ?_
      obtain ⟨v48, e48, h⟩ := bd h
      refine J_lald (pc' := 49) C dX4_weigh_48 rfl e48 ?_
      refine J_aload_n (pc' := 50) C 1 dX4_weigh_49 rfl rfl rfl ?_
      refine J_iload (pc' := 52) C 4 dX4_weigh_50 rfl rfl ?_
      obtain ⟨v52, e52, h⟩ := bd h
      refine J_iald (pc' := 53) C dX4_weigh_52 rfl e52 ?_
      refine J_i2l (pc' := 54) C dX4_weigh_53 rfl ?_
      refine J_ladd (pc' := 55) C dX4_weigh_54 rfl ?_
      obtain ⟨M55, e55, h⟩ := bd h
      refine J_last (pc' := 56) C dX4_weigh_55 rfl e55 ?_
      refine J_iinc (pc' := 59) (lv' := [(6, .int (x6 + 1)), (0, .ref x0), (1, .ref x1), (2, .int x2), (3, .int x3)]) C 4 dX4_weigh_56 rfl rfl rfl (by decide) rfl ?_
      refine J_goto (tgt := 28) C dX4_weigh_59 (by decide) ?_
      refine J_sub (lv' := [(0, .ref x0), (1, .ref x1), (2, .int x2), (3, .int x3), (6, .int (x6 + 1))]) [1, 2, 3, 4, 0] rfl ?_
      exact ih _ _ _ _ _ _ _ h
def f_X4_weigh (N : Nat) (a0 : Nat) (a1 : Nat) (a2 : Int32) (a3 : Int32) (a4 : Nat) (a5 : Int32) (M : A_M) : Option A_M :=
  (pV M a0 4 4 (.int a5)).bind fun M3 =>
  (gR M3 a0 4 3).bind fun v10 =>
  (cpI M3 a4 (0 : Int32) v10 (0 : Int32) (4 : Int32)).bind fun M15 =>
  (gR M15 a0 4 2).bind fun v19 =>
  (stJ M15 v19 a2 (0 : Int64)).bind fun M24 =>
  f_X4_weigh_L28 N N a0 a1 a2 a3 a2 M24
set_option maxHeartbeats 4000000 in
set_option maxRecDepth 100000 in
theorem ok_X4_weigh (N : Nat) {a0 : Nat} {a1 : Nat} {a2 : Int32} {a3 : Int32} {a4 : Nat} {a5 : Int32} {M : A_M} {M' : A_M} (h : f_X4_weigh N a0 a1 a2 a3 a4 a5 M = some M') : Runs yX4_weigh cX4_weigh 8 none 3 71 0 0 [.ref a0, .ref a1, .int a2, .int a3, .ref a4, .int a5] M none M' := by
  refine Runs.intro (by decide) (Nat.le_of_ble_eq_true rfl) (fun X C hnm hMC hMS => ?_)
  have C : Cx X cX4_weigh RX4 8 none 3 71 := C
  show J X 8 0 [(0, .ref a0), (1, .ref a1), (2, .int a2), (3, .int a3), (4, .ref a4), (5, .int a5)] [] M 0 0 none M'
  unfold f_X4_weigh at h
  refine J_aload_n (pc' := 1) C 0 dX4_weigh_0 rfl rfl rfl ?_
  refine J_iload (pc' := 3) C 5 dX4_weigh_1 rfl rfl ?_
  obtain ⟨M3, e3, h⟩ := bd h
  refine jp_464 (pc' := 6) C (fun _ => ⟨rfl, rfl⟩) dX4_weigh_3 rfl e3 ?_
  refine J_aload (pc' := 8) C 4 dX4_weigh_6 rfl rfl ?_
  refine J_iconst (pc' := 9) (v := (0 : Int32)) C dX4_weigh_8 rfl (by decide) ?_
  refine J_aload_n (pc' := 10) C 0 dX4_weigh_9 rfl rfl rfl ?_
  obtain ⟨v10, e10, h⟩ := bd h
  refine jg_463 (pc' := 13) C dX4_weigh_10 rfl (gR_some e10) ?_
  refine J_iconst (pc' := 14) (v := (0 : Int32)) C dX4_weigh_13 rfl (by decide) ?_
  refine J_iconst (pc' := 15) (v := (4 : Int32)) C dX4_weigh_14 rfl (by decide) ?_
  obtain ⟨M15, e15, h⟩ := bd h
  refine J_copyI (pc' := 18) C wq_485 wq_487 wq_486 wq_100 dX4_weigh_15 rfl (Nat.le_of_ble_eq_true rfl) (by decide) (by decide) e15 ?_
  refine J_aload_n (pc' := 19) C 0 dX4_weigh_18 rfl rfl rfl ?_
  obtain ⟨v19, e19, h⟩ := bd h
  refine jg_462 (pc' := 22) C dX4_weigh_19 rfl (gR_some e19) ?_
  refine J_iload_n (pc' := 23) C 2 dX4_weigh_22 rfl rfl rfl ?_
  refine J_lconst (pc' := 24) (v := (0 : Int64)) C dX4_weigh_23 rfl (by decide) ?_
  obtain ⟨M24, e24, h⟩ := bd h
  refine J_last (pc' := 25) C dX4_weigh_24 rfl e24 ?_
  refine J_iload_n (pc' := 26) C 2 dX4_weigh_25 rfl rfl rfl ?_
  refine J_istore (pc' := 28) (lv' := [(6, .int a2), (0, .ref a0), (1, .ref a1), (2, .int a2), (3, .int a3), (4, .ref a4), (5, .int a5)]) C dX4_weigh_26 rfl (by decide) rfl ?_
  refine J_sub (lv' := [(0, .ref a0), (1, .ref a1), (2, .int a2), (3, .int a3), (6, .int a2)]) [1, 2, 3, 4, 0] rfl ?_
  exact ok_X4_weigh_L28 C N N _ _ _ _ _ _ _ h
def f_X4_cheapestSign_K29 (N : Nat) (k4 : Nat → Int32 → Int32 → A_M → Option (Int32 × A_M)) (x0 : Nat) (x1 : Int32) (x2 : Int32) (M : A_M) : Option (Int32 × A_M) :=
  k4 x0 x1 (x2 + 1) M
set_option maxHeartbeats 4000000 in
set_option maxRecDepth 100000 in
theorem ok_X4_cheapestSign_K29 {X : JX} (C : Cx X cX4_cheapestSign RX4 3 (some .int) 0 0) (N : Nat) {k4 : Nat → Int32 → Int32 → A_M → Option (Int32 × A_M)} (hk4 : ∀ (x0 : Nat) (x1 : Int32) (x2 : Int32) (M : A_M) (r : Int32) (M' : A_M), k4 x0 x1 x2 M = some (r, M') → J X 3 4 [(0, .ref x0), (1, .int x1), (2, .int x2)] [] M 0 0 (some (.int r)) M') : ∀ (x0 : Nat) (x1 : Int32) (x2 : Int32) (M : A_M) (r : Int32) (M' : A_M), f_X4_cheapestSign_K29 N k4 x0 x1 x2 M = some (r, M') → J X 3 29 [(0, .ref x0), (1, .int x1), (2, .int x2)] [] M 0 0 (some (.int r)) M' := by
  intro x0 x1 x2 M r M' h
  unfold f_X4_cheapestSign_K29 at h
  refine J_iinc (pc' := 32) (lv' := [(2, .int (x2 + 1)), (0, .ref x0), (1, .int x1)]) C 2 dX4_cheapestSign_29 rfl rfl rfl (by decide) rfl ?_
  refine J_goto (tgt := 4) C dX4_cheapestSign_32 (by decide) ?_
  refine J_sub (lv' := [(0, .ref x0), (1, .int x1), (2, .int (x2 + 1))]) [1, 2, 0] rfl ?_
  exact hk4 _ _ _ _ _ _ h
def f_X4_cheapestSign_L4 (N : Nat) : Nat → Nat → Int32 → Int32 → A_M → Option (Int32 × A_M)
  | 0, _, _, _, _ => none
  | n + 1, x0, x1, x2, M =>
    (gI M x0 4 4).bind fun v6 =>
    if v6 ≤ x2 then
    (some (x1, M))
    else
    ((gR M x0 4 3).bind fun v13 =>
    (ldI M v13 x2).bind fun v17 =>
    (gR M x0 4 3).bind fun v19 =>
    (ldI M v19 x1).bind fun v23 =>
    if v23 ≤ v17 then
    (f_X4_cheapestSign_K29 N (f_X4_cheapestSign_L4 N n) x0 x1 x2 M)
    else
    (f_X4_cheapestSign_K29 N (f_X4_cheapestSign_L4 N n) x0 x2 x2 M))
set_option maxHeartbeats 4000000 in
set_option maxRecDepth 100000 in
theorem ok_X4_cheapestSign_L4 {X : JX} (C : Cx X cX4_cheapestSign RX4 3 (some .int) 0 0) (N : Nat) : ∀ (n : Nat) (x0 : Nat) (x1 : Int32) (x2 : Int32) (M : A_M) (r : Int32) (M' : A_M), f_X4_cheapestSign_L4 N n x0 x1 x2 M = some (r, M') → J X 3 4 [(0, .ref x0), (1, .int x1), (2, .int x2)] [] M 0 0 (some (.int r)) M' := by
  intro n
  induction n with
  | zero =>
    intro x0 x1 x2 M r M' h
    cases h
  | succ n ih =>
    intro x0 x1 x2 M r M' h
    rw [f_X4_cheapestSign_L4] at h
    refine J_iload_n (pc' := 5) C 2 dX4_cheapestSign_4 rfl rfl rfl ?_
    refine J_aload_n (pc' := 6) C 0 dX4_cheapestSign_5 rfl rfl rfl ?_
    obtain ⟨v6, e6, h⟩ := bd h
    refine jg_464 (pc' := 9) C dX4_cheapestSign_6 rfl (gI_some e6) ?_
    refine J_icmp_ge (tgt := 35) (pc' := 12) C dX4_cheapestSign_9 (by decide) rfl (fun c9 => ?_) (fun c9 => ?_)
    · rw [if_pos c9] at h
      refine J_iload_n (pc' := 36) C 1 dX4_cheapestSign_35 rfl rfl rfl ?_
      obtain ⟨rfl, rfl⟩ := rt2 h
      exact J_iret C dX4_cheapestSign_36 (Nat.zero_le _) (Nat.zero_le _)
    · rw [if_neg c9] at h
      refine J_aload_n (pc' := 13) C 0 dX4_cheapestSign_12 rfl rfl rfl ?_
      obtain ⟨v13, e13, h⟩ := bd h
      refine jg_463 (pc' := 16) C dX4_cheapestSign_13 rfl (gR_some e13) ?_
      refine J_iload_n (pc' := 17) C 2 dX4_cheapestSign_16 rfl rfl rfl ?_
      obtain ⟨v17, e17, h⟩ := bd h
      refine J_iald (pc' := 18) C dX4_cheapestSign_17 rfl e17 ?_
      refine J_aload_n (pc' := 19) C 0 dX4_cheapestSign_18 rfl rfl rfl ?_
      obtain ⟨v19, e19, h⟩ := bd h
      refine jg_463 (pc' := 22) C dX4_cheapestSign_19 rfl (gR_some e19) ?_
      refine J_iload_n (pc' := 23) C 1 dX4_cheapestSign_22 rfl rfl rfl ?_
      obtain ⟨v23, e23, h⟩ := bd h
      refine J_iald (pc' := 24) C dX4_cheapestSign_23 rfl e23 ?_
      refine J_icmp_ge (tgt := 29) (pc' := 27) C dX4_cheapestSign_24 (by decide) rfl (fun c24 => ?_) (fun c24 => ?_)
      · rw [if_pos c24] at h
        refine J_sub (lv' := [(0, .ref x0), (1, .int x1), (2, .int x2)]) [0, 1, 2] rfl ?_
        exact ok_X4_cheapestSign_K29 C N ih _ _ _ _ _ _ h
      · rw [if_neg c24] at h
        refine J_iload_n (pc' := 28) C 2 dX4_cheapestSign_27 rfl rfl rfl ?_
        refine J_istore_n (pc' := 29) (lv' := [(1, .int x2), (0, .ref x0), (2, .int x2)]) C dX4_cheapestSign_28 rfl rfl (by decide) rfl ?_
        refine J_sub (lv' := [(0, .ref x0), (1, .int x2), (2, .int x2)]) [1, 0, 2] rfl ?_
        exact ok_X4_cheapestSign_K29 C N ih _ _ _ _ _ _ h
def f_X4_cheapestSign (N : Nat) (a0 : Nat) (M : A_M) : Option (Int32 × A_M) :=
  f_X4_cheapestSign_L4 N N a0 (0 : Int32) (1 : Int32) M
set_option maxHeartbeats 4000000 in
set_option maxRecDepth 100000 in
theorem ok_X4_cheapestSign (N : Nat) {a0 : Nat} {M : A_M} {r : Int32} {M' : A_M} (h : f_X4_cheapestSign N a0 M = some (r, M')) : Runs yX4_cheapestSign cX4_cheapestSign 3 (some .int) 0 0 0 0 [.ref a0] M (some (.int r)) M' := by
  refine Runs.intro (by decide) (Nat.le_of_ble_eq_true rfl) (fun X C hnm hMC hMS => ?_)
  have C : Cx X cX4_cheapestSign RX4 3 (some .int) 0 0 := C
  show J X 3 0 [(0, .ref a0)] [] M 0 0 (some (.int r)) M'
  unfold f_X4_cheapestSign at h
  refine J_iconst (pc' := 1) (v := (0 : Int32)) C dX4_cheapestSign_0 rfl (by decide) ?_
  refine J_istore_n (pc' := 2) (lv' := [(1, .int (0 : Int32)), (0, .ref a0)]) C dX4_cheapestSign_1 rfl rfl (by decide) rfl ?_
  refine J_iconst (pc' := 3) (v := (1 : Int32)) C dX4_cheapestSign_2 rfl (by decide) ?_
  refine J_istore_n (pc' := 4) (lv' := [(2, .int (1 : Int32)), (1, .int (0 : Int32)), (0, .ref a0)]) C dX4_cheapestSign_3 rfl rfl (by decide) rfl ?_
  refine J_sub (lv' := [(0, .ref a0), (1, .int (0 : Int32)), (2, .int (1 : Int32))]) [2, 1, 0] rfl ?_
  exact ok_X4_cheapestSign_L4 C N N _ _ _ _ _ _ h
def f_X4_lastBehind_K29 (N : Nat) (k5 : Nat → Int32 → Int32 → Int32 → Int64 → Int32 → A_M → Option (Int32 × A_M)) (x0 : Nat) (x1 : Int32) (x2 : Int32) (x3 : Int32) (x4 : Int64) (x6 : Int32) (s0 : Int64) (M : A_M) : Option (Int32 × A_M) :=
  (chk M x0 4).bind fun _ =>
  bnd2 (f_X4_dealOf N x0 (x1 + (1 : Int32)) (x6 + (1 : Int32)) x3 M) fun v42 M42 =>
  if (lg_cmp (s0 + v42) x4) = 0 then
  (some (x6, M42))
  else
  (k5 x0 x1 x2 x3 x4 (x6 + 1) M42)
set_option maxHeartbeats 4000000 in
set_option maxRecDepth 100000 in
theorem ok_X4_lastBehind_K29 {X : JX} (C : Cx X cX4_lastBehind RX4 9 (some .int) 2 45) (N : Nat) {k5 : Nat → Int32 → Int32 → Int32 → Int64 → Int32 → A_M → Option (Int32 × A_M)} (hk5 : ∀ (x0 : Nat) (x1 : Int32) (x2 : Int32) (x3 : Int32) (x4 : Int64) (x6 : Int32) (M : A_M) (r : Int32) (M' : A_M), k5 x0 x1 x2 x3 x4 x6 M = some (r, M') → J X 9 5 [(0, .ref x0), (1, .int x1), (2, .int x2), (3, .int x3), (4, .long x4), (6, .int x6)] [] M 0 0 (some (.int r)) M') : ∀ (x0 : Nat) (x1 : Int32) (x2 : Int32) (x3 : Int32) (x4 : Int64) (x6 : Int32) (s0 : Int64) (M : A_M) (r : Int32) (M' : A_M), f_X4_lastBehind_K29 N k5 x0 x1 x2 x3 x4 x6 s0 M = some (r, M') → J X 9 29 [(0, .ref x0), (1, .int x1), (2, .int x2), (3, .int x3), (4, .long x4), (6, .int x6)] [.long s0] M 0 0 (some (.int r)) M' := by
  intro x0 x1 x2 x3 x4 x6 s0 M r M' h
  unfold f_X4_lastBehind_K29 at h
  refine J_lstore (pc' := 31) (lv' := [(7, .long s0), (0, .ref x0), (1, .int x1), (2, .int x2), (3, .int x3), (4, .long x4), (6, .int x6)]) C dX4_lastBehind_29 rfl (by decide) rfl ?_
  refine J_lload (pc' := 33) C 0 dX4_lastBehind_31 rfl rfl ?_
  refine J_aload_n (pc' := 34) C 1 dX4_lastBehind_33 rfl rfl rfl ?_
  refine J_iload_n (pc' := 35) C 2 dX4_lastBehind_34 rfl rfl rfl ?_
  refine J_iconst (pc' := 36) (v := (1 : Int32)) C dX4_lastBehind_35 rfl (by decide) ?_
  refine J_iadd (pc' := 37) C dX4_lastBehind_36 rfl ?_
  refine J_iload (pc' := 39) C 6 dX4_lastBehind_37 rfl rfl ?_
  refine J_iconst (pc' := 40) (v := (1 : Int32)) C dX4_lastBehind_39 rfl (by decide) ?_
  refine J_iadd (pc' := 41) C dX4_lastBehind_40 rfl ?_
  refine J_iload_n (pc' := 42) C 4 dX4_lastBehind_41 rfl rfl rfl ?_
  obtain ⟨_, q42, h⟩ := bd h
  obtain ⟨v42, M42, e42, h⟩ := bd2 h
  refine J_cV (pc' := 45) (st := [.long s0]) (st2 := [.long v42, .long s0]) (cs2 := 0) (sl2 := 0) C 4 rfl rfl q42 (ok_X4_dealOf N e42) mw_X4_dealOf wq_501 rfl dX4_lastBehind_42 rfl rfl (Nat.le_of_ble_eq_true rfl) (by decide) (by decide) rfl rfl rfl (Nat.zero_le _) (Nat.zero_le _) ?_
  refine J_ladd (pc' := 46) C dX4_lastBehind_45 rfl ?_
  refine J_lload (pc' := 48) C 5 dX4_lastBehind_46 rfl rfl ?_
  refine J_lcmp (pc' := 49) C dX4_lastBehind_48 rfl ?_
  refine J_if_ne (tgt := 55) (pc' := 52) C dX4_lastBehind_49 (by decide) rfl (fun c49 => ?_) (fun c49 => ?_)
  · rw [if_neg c49] at h
    refine J_iinc (pc' := 58) (lv' := [(6, .int (x6 + 1)), (7, .long s0), (0, .ref x0), (1, .int x1), (2, .int x2), (3, .int x3), (4, .long x4)]) C 6 dX4_lastBehind_55 rfl rfl rfl (by decide) rfl ?_
    refine J_goto (tgt := 5) C dX4_lastBehind_58 (by decide) ?_
    refine J_sub (lv' := [(0, .ref x0), (1, .int x1), (2, .int x2), (3, .int x3), (4, .long x4), (6, .int (x6 + 1))]) [2, 3, 4, 5, 6, 0] rfl ?_
    exact hk5 _ _ _ _ _ _ _ _ _ h
  · rw [if_pos c49] at h
    refine J_iload (pc' := 54) C 6 dX4_lastBehind_52 rfl rfl ?_
    obtain ⟨rfl, rfl⟩ := rt2 h
    exact J_iret C dX4_lastBehind_54 (Nat.zero_le _) (Nat.zero_le _)
def f_X4_lastBehind_L5 (N : Nat) : Nat → Nat → Int32 → Int32 → Int32 → Int64 → Int32 → A_M → Option (Int32 × A_M)
  | 0, _, _, _, _, _, _, _ => none
  | n + 1, x0, x1, x2, x3, x4, x6, M =>
    if x3 < x6 then
    (some ((x2 - (1 : Int32)), M))
    else
    (if x2 ≤ x6 then
    ((chk M x0 4).bind fun _ =>
    bnd2 (f_X4_behindSign N x0 x1 x2 x6 M) fun v26 M26 =>
    f_X4_lastBehind_K29 N (f_X4_lastBehind_L5 N n) x0 x1 x2 x3 x4 x6 v26 M26)
    else
    (f_X4_lastBehind_K29 N (f_X4_lastBehind_L5 N n) x0 x1 x2 x3 x4 x6 (0 : Int64) M))
set_option maxHeartbeats 4000000 in
set_option maxRecDepth 100000 in
theorem ok_X4_lastBehind_L5 {X : JX} (C : Cx X cX4_lastBehind RX4 9 (some .int) 2 45) (N : Nat) : ∀ (n : Nat) (x0 : Nat) (x1 : Int32) (x2 : Int32) (x3 : Int32) (x4 : Int64) (x6 : Int32) (M : A_M) (r : Int32) (M' : A_M), f_X4_lastBehind_L5 N n x0 x1 x2 x3 x4 x6 M = some (r, M') → J X 9 5 [(0, .ref x0), (1, .int x1), (2, .int x2), (3, .int x3), (4, .long x4), (6, .int x6)] [] M 0 0 (some (.int r)) M' := by
  intro n
  induction n with
  | zero =>
    intro x0 x1 x2 x3 x4 x6 M r M' h
    cases h
  | succ n ih =>
    intro x0 x1 x2 x3 x4 x6 M r M' h
    rw [f_X4_lastBehind_L5] at h
    refine J_iload (pc' := 7) C 5 dX4_lastBehind_5 rfl rfl ?_
    refine J_iload_n (pc' := 8) C 3 dX4_lastBehind_7 rfl rfl rfl ?_
    refine J_icmp_gt (tgt := 61) (pc' := 11) C dX4_lastBehind_8 (by decide) rfl (fun c8 => ?_) (fun c8 => ?_)
    · rw [if_pos c8] at h
      refine J_iload_n (pc' := 62) C 2 dX4_lastBehind_61 rfl rfl rfl ?_
      refine J_iconst (pc' := 63) (v := (1 : Int32)) C dX4_lastBehind_62 rfl (by decide) ?_
      refine J_isub (pc' := 64) C dX4_lastBehind_63 rfl ?_
      obtain ⟨rfl, rfl⟩ := rt2 h
      exact J_iret C dX4_lastBehind_64 (Nat.zero_le _) (Nat.zero_le _)
    · rw [if_neg c8] at h
      refine J_iload (pc' := 13) C 5 dX4_lastBehind_11 rfl rfl ?_
      refine J_iload_n (pc' := 14) C 2 dX4_lastBehind_13 rfl rfl rfl ?_
      refine J_icmp_ge (tgt := 21) (pc' := 17) C dX4_lastBehind_14 (by decide) rfl (fun c14 => ?_) (fun c14 => ?_)
      · rw [if_pos c14] at h
        refine J_aload_n (pc' := 22) C 0 dX4_lastBehind_21 rfl rfl rfl ?_
        refine J_iload_n (pc' := 23) C 1 dX4_lastBehind_22 rfl rfl rfl ?_
        refine J_iload_n (pc' := 24) C 2 dX4_lastBehind_23 rfl rfl rfl ?_
        refine J_iload (pc' := 26) C 5 dX4_lastBehind_24 rfl rfl ?_
        obtain ⟨_, q26, h⟩ := bd h
        obtain ⟨v26, M26, e26, h⟩ := bd2 h
        refine J_cV (pc' := 29) (st := []) (st2 := [.long v26]) (cs2 := 0) (sl2 := 0) C 4 rfl rfl q26 (ok_X4_behindSign N e26) mw_X4_behindSign wq_493 rfl dX4_lastBehind_26 rfl rfl (Nat.le_of_ble_eq_true rfl) (by decide) (by decide) rfl rfl rfl (Nat.zero_le _) (Nat.zero_le _) ?_
        refine J_sub (lv' := [(0, .ref x0), (1, .int x1), (2, .int x2), (3, .int x3), (4, .long x4), (6, .int x6)]) [0, 1, 2, 3, 4, 5] rfl ?_
        exact ok_X4_lastBehind_K29 C N ih _ _ _ _ _ _ _ _ _ _ h
      · rw [if_neg c14] at h
        refine J_lconst (pc' := 18) (v := (0 : Int64)) C dX4_lastBehind_17 rfl (by decide) ?_
        refine J_goto (tgt := 29) C dX4_lastBehind_18 (by decide) ?_
        refine J_sub (lv' := [(0, .ref x0), (1, .int x1), (2, .int x2), (3, .int x3), (4, .long x4), (6, .int x6)]) [0, 1, 2, 3, 4, 5] rfl ?_
        exact ok_X4_lastBehind_K29 C N ih _ _ _ _ _ _ _ _ _ _ h
def f_X4_lastBehind (N : Nat) (a0 : Nat) (a1 : Int32) (a2 : Int32) (a3 : Int32) (a4 : Int64) (M : A_M) : Option (Int32 × A_M) :=
  f_X4_lastBehind_L5 N N a0 a1 a2 a3 a4 (a2 - (1 : Int32)) M
set_option maxHeartbeats 4000000 in
set_option maxRecDepth 100000 in
theorem ok_X4_lastBehind (N : Nat) {a0 : Nat} {a1 : Int32} {a2 : Int32} {a3 : Int32} {a4 : Int64} {M : A_M} {r : Int32} {M' : A_M} (h : f_X4_lastBehind N a0 a1 a2 a3 a4 M = some (r, M')) : Runs yX4_lastBehind cX4_lastBehind 9 (some .int) 2 45 0 0 [.ref a0, .int a1, .int a2, .int a3, .long a4] M (some (.int r)) M' := by
  refine Runs.intro (by decide) (Nat.le_of_ble_eq_true rfl) (fun X C hnm hMC hMS => ?_)
  have C : Cx X cX4_lastBehind RX4 9 (some .int) 2 45 := C
  show J X 9 0 [(0, .ref a0), (1, .int a1), (2, .int a2), (3, .int a3), (4, .long a4)] [] M 0 0 (some (.int r)) M'
  unfold f_X4_lastBehind at h
  refine J_iload_n (pc' := 1) C 2 dX4_lastBehind_0 rfl rfl rfl ?_
  refine J_iconst (pc' := 2) (v := (1 : Int32)) C dX4_lastBehind_1 rfl (by decide) ?_
  refine J_isub (pc' := 3) C dX4_lastBehind_2 rfl ?_
  refine J_istore (pc' := 5) (lv' := [(6, .int (a2 - (1 : Int32))), (0, .ref a0), (1, .int a1), (2, .int a2), (3, .int a3), (4, .long a4)]) C dX4_lastBehind_3 rfl (by decide) rfl ?_
  refine J_sub (lv' := [(0, .ref a0), (1, .int a1), (2, .int a2), (3, .int a3), (4, .long a4), (6, .int (a2 - (1 : Int32)))]) [1, 2, 3, 4, 5, 0] rfl ?_
  exact ok_X4_lastBehind_L5 C N N _ _ _ _ _ _ _ _ _ h
def f_X4_dealNode_b_K126 (N : Nat) (rec : Nat → Nat → Int32 → Int32 → Int64 → Int32 → A_M → Option A_M) (k22 : Nat → Nat → Int32 → Int64 → Int32 → Int64 → Int32 → Int32 → A_M → Option A_M) (x0 : Nat) (x1 : Nat) (x3 : Int32) (x4 : Int64) (x6 : Int32) (x7 : Int64) (x9 : Int32) (x10 : Int32) (M : A_M) : Option A_M :=
  k22 x0 x1 x3 x4 x6 x7 x9 (x10 + 1) M
set_option maxHeartbeats 4000000 in
set_option maxRecDepth 100000 in
theorem ok_X4_dealNode_b_K126 {X : JX} {Fr Lr : Nat} (C : Cx X cX4_dealNode RX4 14 none (Fr + 3) (Lr + 73)) (N : Nat) {rec : Nat → Nat → Int32 → Int32 → Int64 → Int32 → A_M → Option A_M} (hrec : ∀ (b0 : Nat) (b1 : Nat) (b2 : Int32) (b3 : Int32) (b4 : Int64) (b5 : Int32) (M : A_M) (M' : A_M), rec b0 b1 b2 b3 b4 b5 M = some M' → Runs yX4_dealNode cX4_dealNode 14 none Fr Lr 0 0 [.ref b0, .ref b1, .int b2, .int b3, .long b4, .int b5] M none M') {k22 : Nat → Nat → Int32 → Int64 → Int32 → Int64 → Int32 → Int32 → A_M → Option A_M} (hk22 : ∀ (x0 : Nat) (x1 : Nat) (x3 : Int32) (x4 : Int64) (x6 : Int32) (x7 : Int64) (x9 : Int32) (x10 : Int32) (M : A_M) (M' : A_M), k22 x0 x1 x3 x4 x6 x7 x9 x10 M = some M' → J X 14 22 [(0, .ref x0), (1, .ref x1), (3, .int x3), (4, .long x4), (6, .int x6), (7, .long x7), (9, .int x9), (10, .int x10)] [] M 0 0 none M') : ∀ (x0 : Nat) (x1 : Nat) (x3 : Int32) (x4 : Int64) (x6 : Int32) (x7 : Int64) (x9 : Int32) (x10 : Int32) (M : A_M) (M' : A_M), f_X4_dealNode_b_K126 N rec k22 x0 x1 x3 x4 x6 x7 x9 x10 M = some M' → J X 14 126 [(0, .ref x0), (1, .ref x1), (3, .int x3), (4, .long x4), (6, .int x6), (7, .long x7), (9, .int x9), (10, .int x10)] [] M 0 0 none M' := by
  intro x0 x1 x3 x4 x6 x7 x9 x10 M M' h
  unfold f_X4_dealNode_b_K126 at h
  refine J_iinc (pc' := 129) (lv' := [(10, .int (x10 + 1)), (0, .ref x0), (1, .ref x1), (3, .int x3), (4, .long x4), (6, .int x6), (7, .long x7), (9, .int x9)]) C 7 dX4_dealNode_126 rfl rfl rfl (by decide) rfl ?_
  refine J_goto (tgt := 22) C dX4_dealNode_129 (by decide) ?_
  refine J_sub (lv' := [(0, .ref x0), (1, .ref x1), (3, .int x3), (4, .long x4), (6, .int x6), (7, .long x7), (9, .int x9), (10, .int (x10 + 1))]) [1, 2, 3, 4, 5, 6, 7, 0] rfl ?_
  exact hk22 _ _ _ _ _ _ _ _ _ _ h
def f_X4_dealNode_b_K120 (N : Nat) (rec : Nat → Nat → Int32 → Int32 → Int64 → Int32 → A_M → Option A_M) (k22 : Nat → Nat → Int32 → Int64 → Int32 → Int64 → Int32 → Int32 → A_M → Option A_M) (x0 : Nat) (x1 : Nat) (x3 : Int32) (x4 : Int64) (x6 : Int32) (x7 : Int64) (x10 : Int32) (x11 : Int32) (M : A_M) : Option A_M :=
  f_X4_dealNode_b_K126 N rec k22 x0 x1 x3 x4 x6 x7 (x11 + (1 : Int32)) x10 M
set_option maxHeartbeats 4000000 in
set_option maxRecDepth 100000 in
theorem ok_X4_dealNode_b_K120 {X : JX} {Fr Lr : Nat} (C : Cx X cX4_dealNode RX4 14 none (Fr + 3) (Lr + 73)) (N : Nat) {rec : Nat → Nat → Int32 → Int32 → Int64 → Int32 → A_M → Option A_M} (hrec : ∀ (b0 : Nat) (b1 : Nat) (b2 : Int32) (b3 : Int32) (b4 : Int64) (b5 : Int32) (M : A_M) (M' : A_M), rec b0 b1 b2 b3 b4 b5 M = some M' → Runs yX4_dealNode cX4_dealNode 14 none Fr Lr 0 0 [.ref b0, .ref b1, .int b2, .int b3, .long b4, .int b5] M none M') {k22 : Nat → Nat → Int32 → Int64 → Int32 → Int64 → Int32 → Int32 → A_M → Option A_M} (hk22 : ∀ (x0 : Nat) (x1 : Nat) (x3 : Int32) (x4 : Int64) (x6 : Int32) (x7 : Int64) (x9 : Int32) (x10 : Int32) (M : A_M) (M' : A_M), k22 x0 x1 x3 x4 x6 x7 x9 x10 M = some M' → J X 14 22 [(0, .ref x0), (1, .ref x1), (3, .int x3), (4, .long x4), (6, .int x6), (7, .long x7), (9, .int x9), (10, .int x10)] [] M 0 0 none M') : ∀ (x0 : Nat) (x1 : Nat) (x3 : Int32) (x4 : Int64) (x6 : Int32) (x7 : Int64) (x10 : Int32) (x11 : Int32) (M : A_M) (M' : A_M), f_X4_dealNode_b_K120 N rec k22 x0 x1 x3 x4 x6 x7 x10 x11 M = some M' → J X 14 120 [(0, .ref x0), (1, .ref x1), (3, .int x3), (4, .long x4), (6, .int x6), (7, .long x7), (10, .int x10), (11, .int x11)] [] M 0 0 none M' := by
  intro x0 x1 x3 x4 x6 x7 x10 x11 M M' h
  unfold f_X4_dealNode_b_K120 at h
  refine J_iload (pc' := 122) C 7 dX4_dealNode_120 rfl rfl ?_
  refine J_iconst (pc' := 123) (v := (1 : Int32)) C dX4_dealNode_122 rfl (by decide) ?_
  refine J_iadd (pc' := 124) C dX4_dealNode_123 rfl ?_
  refine J_istore (pc' := 126) (lv' := [(9, .int (x11 + (1 : Int32))), (0, .ref x0), (1, .ref x1), (3, .int x3), (4, .long x4), (6, .int x6), (7, .long x7), (10, .int x10), (11, .int x11)]) C dX4_dealNode_124 rfl (by decide) rfl ?_
  refine J_sub (lv' := [(0, .ref x0), (1, .ref x1), (3, .int x3), (4, .long x4), (6, .int x6), (7, .long x7), (9, .int (x11 + (1 : Int32))), (10, .int x10)]) [1, 2, 3, 4, 5, 6, 0, 7] rfl ?_
  exact ok_X4_dealNode_b_K126 C N hrec hk22 _ _ _ _ _ _ _ _ _ _ h
def f_X4_dealNode_b_L22 (N : Nat) (rec : Nat → Nat → Int32 → Int32 → Int64 → Int32 → A_M → Option A_M) : Nat → Nat → Nat → Int32 → Int64 → Int32 → Int64 → Int32 → Int32 → A_M → Option A_M
  | 0, _, _, _, _, _, _, _, _, _ => none
  | n + 1, x0, x1, x3, x4, x6, x7, x9, x10, M =>
    (gI M x0 4 4).bind fun v25 =>
    if v25 ≤ x10 then
    (some M)
    else
    (if x3 < x9 then
    (some M)
    else
    ((chk M x0 4).bind fun _ =>
    bnd2 (f_X4_lastBehind N x0 x10 x9 x3 x7 M) fun v45 M45 =>
    if v45 < x9 then
    (f_X4_dealNode_b_K126 N rec (f_X4_dealNode_b_L22 N rec n) x0 x1 x3 x4 x6 x7 x9 x10 M45)
    else
    ((chk M45 x0 4).bind fun _ =>
    bnd2 (f_X4_behindSign N x0 x10 x9 v45 M45) fun v66 M66 =>
    bnd2 (f_X6_rowAndSign N x4 x6 x10 M66) fun v78 M78 =>
    if v45 = x9 then
    ((chk M78 x1 0).bind fun _ =>
    (f_X0_giveWord N x1 x9 v78 (x6 + (1 : Int32)) M78).bind fun M99 =>
    f_X4_dealNode_b_K120 N rec (f_X4_dealNode_b_L22 N rec n) x0 x1 x3 x4 x6 (x7 - v66) x10 v45 M99)
    else
    ((chk M78 x0 4).bind fun _ =>
    (rec x0 x1 x9 v45 v78 (x6 + (1 : Int32)) M78).bind fun M117 =>
    f_X4_dealNode_b_K120 N rec (f_X4_dealNode_b_L22 N rec n) x0 x1 x3 x4 x6 (x7 - v66) x10 v45 M117))))
set_option maxHeartbeats 4000000 in
set_option maxRecDepth 100000 in
theorem ok_X4_dealNode_b_L22 {X : JX} {Fr Lr : Nat} (C : Cx X cX4_dealNode RX4 14 none (Fr + 3) (Lr + 73)) (N : Nat) {rec : Nat → Nat → Int32 → Int32 → Int64 → Int32 → A_M → Option A_M} (hrec : ∀ (b0 : Nat) (b1 : Nat) (b2 : Int32) (b3 : Int32) (b4 : Int64) (b5 : Int32) (M : A_M) (M' : A_M), rec b0 b1 b2 b3 b4 b5 M = some M' → Runs yX4_dealNode cX4_dealNode 14 none Fr Lr 0 0 [.ref b0, .ref b1, .int b2, .int b3, .long b4, .int b5] M none M') : ∀ (n : Nat) (x0 : Nat) (x1 : Nat) (x3 : Int32) (x4 : Int64) (x6 : Int32) (x7 : Int64) (x9 : Int32) (x10 : Int32) (M : A_M) (M' : A_M), f_X4_dealNode_b_L22 N rec n x0 x1 x3 x4 x6 x7 x9 x10 M = some M' → J X 14 22 [(0, .ref x0), (1, .ref x1), (3, .int x3), (4, .long x4), (6, .int x6), (7, .long x7), (9, .int x9), (10, .int x10)] [] M 0 0 none M' := by
  intro n
  induction n with
  | zero =>
    intro x0 x1 x3 x4 x6 x7 x9 x10 M M' h
    cases h
  | succ n ih =>
    intro x0 x1 x3 x4 x6 x7 x9 x10 M M' h
    rw [f_X4_dealNode_b_L22] at h
    refine J_iload (pc' := 24) C 7 dX4_dealNode_22 rfl rfl ?_
    refine J_aload_n (pc' := 25) C 0 dX4_dealNode_24 rfl rfl rfl ?_
    obtain ⟨v25, e25, h⟩ := bd h
    refine jg_464 (pc' := 28) C dX4_dealNode_25 rfl (gI_some e25) ?_
    refine J_icmp_ge (tgt := 132) (pc' := 31) C dX4_dealNode_28 (by decide) rfl (fun c28 => ?_) (fun c28 => ?_)
    · rw [if_pos c28] at h
      obtain rfl := rt1 h
      exact J_vret C dX4_dealNode_132 (Nat.zero_le _) (Nat.zero_le _)
    · rw [if_neg c28] at h
      refine J_iload (pc' := 33) C 6 dX4_dealNode_31 rfl rfl ?_
      refine J_iload_n (pc' := 34) C 2 dX4_dealNode_33 rfl rfl rfl ?_
      refine J_icmp_gt (tgt := 132) (pc' := 37) C dX4_dealNode_34 (by decide) rfl (fun c34 => ?_) (fun c34 => ?_)
      · rw [if_pos c34] at h
        obtain rfl := rt1 h
        exact J_vret C dX4_dealNode_132 (Nat.zero_le _) (Nat.zero_le _)
      · rw [if_neg c34] at h
        refine J_aload_n (pc' := 38) C 0 dX4_dealNode_37 rfl rfl rfl ?_
        refine J_iload (pc' := 40) C 7 dX4_dealNode_38 rfl rfl ?_
        refine J_iload (pc' := 42) C 6 dX4_dealNode_40 rfl rfl ?_
        refine J_iload_n (pc' := 43) C 2 dX4_dealNode_42 rfl rfl rfl ?_
        refine J_lload (pc' := 45) C 5 dX4_dealNode_43 rfl rfl ?_
        obtain ⟨_, q45, h⟩ := bd h
        obtain ⟨v45, M45, e45, h⟩ := bd2 h
        refine J_cV (pc' := 48) (st := []) (st2 := [.int v45]) (cs2 := 0) (sl2 := 0) C 4 rfl rfl q45 (ok_X4_lastBehind N e45) mw_X4_lastBehind wq_520 rfl dX4_dealNode_45 rfl rfl (Nat.le_of_ble_eq_true rfl) (by omega) (by omega) rfl rfl rfl (Nat.zero_le _) (Nat.zero_le _) ?_
        refine J_istore (pc' := 50) (lv' := [(11, .int v45), (0, .ref x0), (1, .ref x1), (3, .int x3), (4, .long x4), (6, .int x6), (7, .long x7), (9, .int x9), (10, .int x10)]) C dX4_dealNode_48 rfl (by decide) rfl ?_
        refine J_iload (pc' := 52) C 0 dX4_dealNode_50 rfl rfl ?_
        refine J_iload (pc' := 54) C 7 dX4_dealNode_52 rfl rfl ?_
        refine J_icmp_lt (tgt := 126) (pc' := 57) C dX4_dealNode_54 (by decide) rfl (fun c54 => ?_) (fun c54 => ?_)
        · rw [if_pos c54] at h
          refine J_sub (lv' := [(0, .ref x0), (1, .ref x1), (3, .int x3), (4, .long x4), (6, .int x6), (7, .long x7), (9, .int x9), (10, .int x10)]) [1, 2, 3, 4, 5, 6, 7, 8] rfl ?_
          exact ok_X4_dealNode_b_K126 C N hrec ih _ _ _ _ _ _ _ _ _ _ h
        · rw [if_neg c54] at h
          refine J_lload (pc' := 59) C 6 dX4_dealNode_57 rfl rfl ?_
          refine J_aload_n (pc' := 60) C 1 dX4_dealNode_59 rfl rfl rfl ?_
          refine J_iload (pc' := 62) C 8 dX4_dealNode_60 rfl rfl ?_
          refine J_iload (pc' := 64) C 7 dX4_dealNode_62 rfl rfl ?_
          refine J_iload (pc' := 66) C 0 dX4_dealNode_64 rfl rfl ?_
          obtain ⟨_, q66, h⟩ := bd h
          obtain ⟨v66, M66, e66, h⟩ := bd2 h
          refine J_cV (pc' := 69) (st := [.long x7]) (st2 := [.long v66, .long x7]) (cs2 := 0) (sl2 := 0) C 4 rfl rfl q66 (ok_X4_behindSign N e66) mw_X4_behindSign wq_493 rfl dX4_dealNode_66 rfl rfl (Nat.le_of_ble_eq_true rfl) (by omega) (by omega) rfl rfl rfl (Nat.zero_le _) (Nat.zero_le _) ?_
          refine J_lsub (pc' := 70) C dX4_dealNode_69 rfl ?_
          refine J_lstore (pc' := 72) (lv' := [(7, .long (x7 - v66)), (11, .int v45), (0, .ref x0), (1, .ref x1), (3, .int x3), (4, .long x4), (6, .int x6), (9, .int x9), (10, .int x10)]) C dX4_dealNode_70 rfl (by decide) rfl ?_
          refine J_lload (pc' := 74) C 5 dX4_dealNode_72 rfl rfl ?_
          refine J_iload (pc' := 76) C 6 dX4_dealNode_74 rfl rfl ?_
          refine J_iload (pc' := 78) C 8 dX4_dealNode_76 rfl rfl ?_
          obtain ⟨v78, M78, e78, h⟩ := bd2 h
          refine J_cSN (pc' := 81) (st := []) (st2 := [.long v78]) (cs2 := 0) (sl2 := 0) C (ok_X6_rowAndSign N e78) mw_X6_rowAndSign wn_514 rfl dX4_dealNode_78 rfl rfl (Nat.le_of_ble_eq_true rfl) (by omega) (by omega) rfl rfl rfl (Nat.zero_le _) (Nat.zero_le _) ?_
          refine J_lstore (pc' := 83) (lv' := [(12, .long v78), (7, .long (x7 - v66)), (11, .int v45), (0, .ref x0), (1, .ref x1), (3, .int x3), (4, .long x4), (6, .int x6), (9, .int x9), (10, .int x10)]) C dX4_dealNode_81 rfl (by decide) rfl ?_
          refine J_iload (pc' := 85) C 2 dX4_dealNode_83 rfl rfl ?_
          refine J_iload (pc' := 87) C 8 dX4_dealNode_85 rfl rfl ?_
          refine J_icmp_ne (tgt := 105) (pc' := 90) C dX4_dealNode_87 (by decide) rfl (fun c87 => ?_) (fun c87 => ?_)
          · rw [if_neg c87] at h
            refine J_aload_n (pc' := 106) C 3 dX4_dealNode_105 rfl rfl rfl ?_
            refine J_aload_n (pc' := 107) C 4 dX4_dealNode_106 rfl rfl rfl ?_
            refine J_iload (pc' := 109) C 8 dX4_dealNode_107 rfl rfl ?_
            refine J_iload (pc' := 111) C 2 dX4_dealNode_109 rfl rfl ?_
            refine J_lload (pc' := 113) C 0 dX4_dealNode_111 rfl rfl ?_
            refine J_iload (pc' := 115) C 7 dX4_dealNode_113 rfl rfl ?_
            refine J_iconst (pc' := 116) (v := (1 : Int32)) C dX4_dealNode_115 rfl (by decide) ?_
            refine J_iadd (pc' := 117) C dX4_dealNode_116 rfl ?_
            obtain ⟨_, q117, h⟩ := bd h
            obtain ⟨M117, e117, h⟩ := bd h
            refine J_cV (pc' := 120) (st := []) (st2 := []) (cs2 := 0) (sl2 := 0) C 4 rfl rfl q117 (hrec x0 x1 x9 v45 v78 (x6 + (1 : Int32)) _ _ e117) mw_X4_dealNode wq_516 rfl dX4_dealNode_117 rfl rfl (Nat.le_of_ble_eq_true rfl) (by omega) (by omega) rfl rfl rfl (Nat.zero_le _) (Nat.zero_le _) ?_
            refine J_sub (lv' := [(0, .ref x0), (1, .ref x1), (3, .int x3), (4, .long x4), (6, .int x6), (7, .long (x7 - v66)), (10, .int x10), (11, .int v45)]) [3, 4, 5, 6, 7, 1, 9, 2] rfl ?_
            exact ok_X4_dealNode_b_K120 C N hrec ih _ _ _ _ _ _ _ _ _ _ h
          · rw [if_pos c87] at h
            refine J_aload_n (pc' := 91) C 4 dX4_dealNode_90 rfl rfl rfl ?_
            refine J_iload (pc' := 93) C 8 dX4_dealNode_91 rfl rfl ?_
            refine J_lload (pc' := 95) C 0 dX4_dealNode_93 rfl rfl ?_
            refine J_iload (pc' := 97) C 7 dX4_dealNode_95 rfl rfl ?_
            refine J_iconst (pc' := 98) (v := (1 : Int32)) C dX4_dealNode_97 rfl (by decide) ?_
            refine J_iadd (pc' := 99) C dX4_dealNode_98 rfl ?_
            obtain ⟨_, q99, h⟩ := bd h
            obtain ⟨M99, e99, h⟩ := bd h
            refine J_cV (pc' := 102) (st := []) (st2 := []) (cs2 := 0) (sl2 := 0) C 0 rfl rfl q99 (ok_X0_giveWord N e99) mw_X0_giveWord wq_515 rfl dX4_dealNode_99 rfl rfl (Nat.le_of_ble_eq_true rfl) (by omega) (by omega) rfl rfl rfl (Nat.zero_le _) (Nat.zero_le _) ?_
            refine J_goto (tgt := 120) C dX4_dealNode_102 (by decide) ?_
            refine J_sub (lv' := [(0, .ref x0), (1, .ref x1), (3, .int x3), (4, .long x4), (6, .int x6), (7, .long (x7 - v66)), (10, .int x10), (11, .int v45)]) [3, 4, 5, 6, 7, 1, 9, 2] rfl ?_
            exact ok_X4_dealNode_b_K120 C N hrec ih _ _ _ _ _ _ _ _ _ _ h
def f_X4_dealNode_b (N : Nat) (rec : Nat → Nat → Int32 → Int32 → Int64 → Int32 → A_M → Option A_M) (a0 : Nat) (a1 : Nat) (a2 : Int32) (a3 : Int32) (a4 : Int64) (a6 : Int32) (M : A_M) : Option A_M :=
  if a6 < (24 : Int32) then
  ((chk M a0 4).bind fun _ =>
  bnd2 (f_X4_leastOf N a0 a2 a3 M) fun v11 M11 =>
  f_X4_dealNode_b_L22 N rec N a0 a1 a3 a4 a6 v11 a2 (0 : Int32) M11)
  else
  (some M)
set_option maxHeartbeats 4000000 in
set_option maxRecDepth 100000 in
theorem ok_X4_dealNode_b (N : Nat) {Fr Lr : Nat} {rec : Nat → Nat → Int32 → Int32 → Int64 → Int32 → A_M → Option A_M} (hrec : ∀ (b0 : Nat) (b1 : Nat) (b2 : Int32) (b3 : Int32) (b4 : Int64) (b5 : Int32) (M : A_M) (M' : A_M), rec b0 b1 b2 b3 b4 b5 M = some M' → Runs yX4_dealNode cX4_dealNode 14 none Fr Lr 0 0 [.ref b0, .ref b1, .int b2, .int b3, .long b4, .int b5] M none M') {a0 : Nat} {a1 : Nat} {a2 : Int32} {a3 : Int32} {a4 : Int64} {a6 : Int32} {M : A_M} {M' : A_M} (h : f_X4_dealNode_b N rec a0 a1 a2 a3 a4 a6 M = some M') : Runs yX4_dealNode cX4_dealNode 14 none (Fr + 3) (Lr + 73) 0 0 [.ref a0, .ref a1, .int a2, .int a3, .long a4, .int a6] M none M' := by
  refine Runs.intro (by decide) (Nat.le_of_ble_eq_true rfl) (fun X C hnm hMC hMS => ?_)
  have C : Cx X cX4_dealNode RX4 14 none (Fr + 3) (Lr + 73) := C
  show J X 14 0 [(0, .ref a0), (1, .ref a1), (2, .int a2), (3, .int a3), (4, .long a4), (6, .int a6)] [] M 0 0 none M'
  unfold f_X4_dealNode_b at h
  refine J_iload (pc' := 2) C 5 dX4_dealNode_0 rfl rfl ?_
  refine J_bipush (pc' := 4) (v := (24 : Int32)) C dX4_dealNode_2 rfl (by decide) ?_
  refine J_icmp_lt (tgt := 8) (pc' := 7) C dX4_dealNode_4 (by decide) rfl (fun c4 => ?_) (fun c4 => ?_)
  · rw [if_pos c4] at h
    refine J_aload_n (pc' := 9) C 0 dX4_dealNode_8 rfl rfl rfl ?_
    refine J_iload_n (pc' := 10) C 2 dX4_dealNode_9 rfl rfl rfl ?_
    refine J_iload_n (pc' := 11) C 3 dX4_dealNode_10 rfl rfl rfl ?_
    obtain ⟨_, q11, h⟩ := bd h
    obtain ⟨v11, M11, e11, h⟩ := bd2 h
    refine J_cV (pc' := 14) (st := []) (st2 := [.long v11]) (cs2 := 0) (sl2 := 0) C 4 rfl rfl q11 (ok_X4_leastOf N e11) mw_X4_leastOf wq_497 rfl dX4_dealNode_11 rfl rfl (Nat.le_of_ble_eq_true rfl) (by omega) (by omega) rfl rfl rfl (Nat.zero_le _) (Nat.zero_le _) ?_
    refine J_lstore (pc' := 16) (lv' := [(7, .long v11), (0, .ref a0), (1, .ref a1), (2, .int a2), (3, .int a3), (4, .long a4), (6, .int a6)]) C dX4_dealNode_14 rfl (by decide) rfl ?_
    refine J_iload_n (pc' := 17) C 3 dX4_dealNode_16 rfl rfl rfl ?_
    refine J_istore (pc' := 19) (lv' := [(9, .int a2), (7, .long v11), (0, .ref a0), (1, .ref a1), (2, .int a2), (3, .int a3), (4, .long a4), (6, .int a6)]) C dX4_dealNode_17 rfl (by decide) rfl ?_
    refine J_iconst (pc' := 20) (v := (0 : Int32)) C dX4_dealNode_19 rfl (by decide) ?_
    refine J_istore (pc' := 22) (lv' := [(10, .int (0 : Int32)), (9, .int a2), (7, .long v11), (0, .ref a0), (1, .ref a1), (2, .int a2), (3, .int a3), (4, .long a4), (6, .int a6)]) C dX4_dealNode_20 rfl (by decide) rfl ?_
    refine J_sub (lv' := [(0, .ref a0), (1, .ref a1), (3, .int a3), (4, .long a4), (6, .int a6), (7, .long v11), (9, .int a2), (10, .int (0 : Int32))]) [3, 4, 6, 7, 8, 2, 1, 0] rfl ?_
    exact ok_X4_dealNode_b_L22 C N hrec N _ _ _ _ _ _ _ _ _ _ h
  · rw [if_neg c4] at h
    obtain rfl := rt1 h
    exact J_vret C dX4_dealNode_7 (Nat.zero_le _) (Nat.zero_le _)
def f_X4_dealNode (N : Nat) : Nat → Nat → Nat → Int32 → Int32 → Int64 → Int32 → A_M → Option A_M
  | 0, _, _, _, _, _, _, _ => none
  | d + 1, a0, a1, a2, a3, a4, a6, M => f_X4_dealNode_b N (f_X4_dealNode N d) a0 a1 a2 a3 a4 a6 M
theorem ok_X4_dealNode (N : Nat) : ∀ (d : Nat) (a0 : Nat) (a1 : Nat) (a2 : Int32) (a3 : Int32) (a4 : Int64) (a6 : Int32) (M : A_M) (M' : A_M), f_X4_dealNode N d a0 a1 a2 a3 a4 a6 M = some M' → Runs yX4_dealNode cX4_dealNode 14 none (3 * d) (73 * d) 0 0 [.ref a0, .ref a1, .int a2, .int a3, .long a4, .int a6] M none M' := by
  intro d
  induction d with
  | zero =>
    intro a0 a1 a2 a3 a4 a6 M M' h
    cases h
  | succ d ih =>
    intro a0 a1 a2 a3 a4 a6 M M' h
    rw [f_X4_dealNode] at h
    exact ok_X4_dealNode_b N ih h
