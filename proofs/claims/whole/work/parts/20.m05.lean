def f_X5_find_K146 (N : Nat) (k62 : Nat → Int32 → Int32 → A_M → Option (Int32 × A_M)) (k80 : Nat → Int32 → Int32 → Int32 → A_M → Option (Int32 × A_M)) (x0 : Nat) (x2 : Int32) (x3 : Int32) (x4 : Int32) (M : A_M) : Option (Int32 × A_M) :=
  k80 x0 x2 x3 (x4 + 1) M
set_option maxHeartbeats 4000000 in
set_option maxRecDepth 100000 in
theorem ok_X5_find_K146 {X : JX} (C : Cx X cX5_find RX5 6 (some .int) 3 72) (N : Nat) {k62 : Nat → Int32 → Int32 → A_M → Option (Int32 × A_M)} (hk62 : ∀ (x0 : Nat) (x2 : Int32) (x3 : Int32) (M : A_M) (r : Int32) (M' : A_M), k62 x0 x2 x3 M = some (r, M') → J X 6 62 [(0, .ref x0), (2, .int x2), (3, .int x3)] [] M 0 0 (some (.int r)) M') {k80 : Nat → Int32 → Int32 → Int32 → A_M → Option (Int32 × A_M)} (hk80 : ∀ (x0 : Nat) (x2 : Int32) (x3 : Int32) (x4 : Int32) (M : A_M) (r : Int32) (M' : A_M), k80 x0 x2 x3 x4 M = some (r, M') → J X 6 80 [(0, .ref x0), (2, .int x2), (3, .int x3), (4, .int x4)] [] M 0 0 (some (.int r)) M') : ∀ (x0 : Nat) (x2 : Int32) (x3 : Int32) (x4 : Int32) (M : A_M) (r : Int32) (M' : A_M), f_X5_find_K146 N k62 k80 x0 x2 x3 x4 M = some (r, M') → J X 6 146 [(0, .ref x0), (2, .int x2), (3, .int x3), (4, .int x4)] [] M 0 0 (some (.int r)) M' := by
  intro x0 x2 x3 x4 M r M' h
  unfold f_X5_find_K146 at h
  refine J_iinc (pc' := 149) (lv' := [(4, .int (x4 + 1)), (0, .ref x0), (2, .int x2), (3, .int x3)]) C 3 dX5_find_146 rfl rfl rfl (by decide) rfl ?_
  refine J_goto (tgt := 80) C dX5_find_149 (by decide) ?_
  refine J_sub (lv' := [(0, .ref x0), (2, .int x2), (3, .int x3), (4, .int (x4 + 1))]) [1, 2, 3, 0] rfl ?_
  exact hk80 _ _ _ _ _ _ _ h
def f_X5_find_K152 (N : Nat) (k62 : Nat → Int32 → Int32 → A_M → Option (Int32 × A_M)) (x0 : Nat) (x2 : Int32) (x3 : Int32) (M : A_M) : Option (Int32 × A_M) :=
  k62 x0 x2 (x3 + 1) M
set_option maxHeartbeats 4000000 in
set_option maxRecDepth 100000 in
theorem ok_X5_find_K152 {X : JX} (C : Cx X cX5_find RX5 6 (some .int) 3 72) (N : Nat) {k62 : Nat → Int32 → Int32 → A_M → Option (Int32 × A_M)} (hk62 : ∀ (x0 : Nat) (x2 : Int32) (x3 : Int32) (M : A_M) (r : Int32) (M' : A_M), k62 x0 x2 x3 M = some (r, M') → J X 6 62 [(0, .ref x0), (2, .int x2), (3, .int x3)] [] M 0 0 (some (.int r)) M') : ∀ (x0 : Nat) (x2 : Int32) (x3 : Int32) (M : A_M) (r : Int32) (M' : A_M), f_X5_find_K152 N k62 x0 x2 x3 M = some (r, M') → J X 6 152 [(0, .ref x0), (2, .int x2), (3, .int x3)] [] M 0 0 (some (.int r)) M' := by
  intro x0 x2 x3 M r M' h
  unfold f_X5_find_K152 at h
  refine J_iinc (pc' := 155) (lv' := [(3, .int (x3 + 1)), (0, .ref x0), (2, .int x2)]) C 2 dX5_find_152 rfl rfl rfl (by decide) rfl ?_
  refine J_goto (tgt := 62) C dX5_find_155 (by decide) ?_
  refine J_sub (lv' := [(0, .ref x0), (2, .int x2), (3, .int (x3 + 1))]) [1, 2, 0] rfl ?_
  exact hk62 _ _ _ _ _ _ h
def f_X5_find_L80 (N : Nat) (k62 : Nat → Int32 → Int32 → A_M → Option (Int32 × A_M)) : Nat → Nat → Int32 → Int32 → Int32 → A_M → Option (Int32 × A_M)
  | 0, _, _, _, _, _ => none
  | n + 1, x0, x2, x3, x4, M =>
    if x2 ≤ x4 then
    (f_X5_find_K152 N k62 x0 x2 x3 M)
    else
    ((chk M x0 5).bind fun _ =>
    bnd2 (f_X5_makeImage N x0 x3 x4 M) fun v90 M90 =>
    if v90 = 0 then
    (f_X5_find_K146 N k62 (f_X5_find_L80 N k62 n) x0 x2 x3 x4 M90)
    else
    ((chk M90 x0 5).bind fun _ =>
    bnd2 (f_X5_slotOfImage N x0 M90) fun v100 M100 =>
    (gR M100 x0 5 4).bind fun v106 =>
    (ldI M100 v106 v100).bind fun v111 =>
    if v111 = 0 then
    ((gI M100 x0 5 8).bind fun v119 =>
    if v119 < (2000 : Int32) then
    ((chk M100 x0 5).bind fun _ =>
    bnd2 (f_X5_takeImage N x0 x3 x4 M100) fun v135 M135 =>
    if v135 = 0 then
    (f_X5_find_K146 N k62 (f_X5_find_L80 N k62 n) x0 x2 x3 x4 M135)
    else
    ((gI M135 x0 5 10).bind fun v142 =>
    some (v142, M135)))
    else
    (some ((-7 : Int32), M100)))
    else
    (f_X5_find_K146 N k62 (f_X5_find_L80 N k62 n) x0 x2 x3 x4 M100)))
set_option maxHeartbeats 4000000 in
set_option maxRecDepth 100000 in
theorem ok_X5_find_L80 {X : JX} (C : Cx X cX5_find RX5 6 (some .int) 3 72) (N : Nat) {k62 : Nat → Int32 → Int32 → A_M → Option (Int32 × A_M)} (hk62 : ∀ (x0 : Nat) (x2 : Int32) (x3 : Int32) (M : A_M) (r : Int32) (M' : A_M), k62 x0 x2 x3 M = some (r, M') → J X 6 62 [(0, .ref x0), (2, .int x2), (3, .int x3)] [] M 0 0 (some (.int r)) M') : ∀ (n : Nat) (x0 : Nat) (x2 : Int32) (x3 : Int32) (x4 : Int32) (M : A_M) (r : Int32) (M' : A_M), f_X5_find_L80 N k62 n x0 x2 x3 x4 M = some (r, M') → J X 6 80 [(0, .ref x0), (2, .int x2), (3, .int x3), (4, .int x4)] [] M 0 0 (some (.int r)) M' := by
  intro n
  induction n with
  | zero =>
    intro x0 x2 x3 x4 M r M' h
    cases h
  | succ n ih =>
    intro x0 x2 x3 x4 M r M' h
    rw [f_X5_find_L80] at h
    refine J_iload (pc' := 82) C 3 dX5_find_80 rfl rfl ?_
    refine J_iload_n (pc' := 83) C 1 dX5_find_82 rfl rfl rfl ?_
    refine J_icmp_ge (tgt := 152) (pc' := 86) C dX5_find_83 (by decide) rfl (fun c83 => ?_) (fun c83 => ?_)
    · rw [if_pos c83] at h
      refine J_sub (lv' := [(0, .ref x0), (2, .int x2), (3, .int x3)]) [0, 1, 2] rfl ?_
      exact ok_X5_find_K152 C N hk62 _ _ _ _ _ _ h
    · rw [if_neg c83] at h
      refine J_aload_n (pc' := 87) C 0 dX5_find_86 rfl rfl rfl ?_
      refine J_iload_n (pc' := 88) C 2 dX5_find_87 rfl rfl rfl ?_
      refine J_iload (pc' := 90) C 3 dX5_find_88 rfl rfl ?_
      obtain ⟨_, q90, h⟩ := bd h
      obtain ⟨v90, M90, e90, h⟩ := bd2 h
      refine J_cV (pc' := 93) (st := []) (st2 := [.int v90]) (cs2 := 0) (sl2 := 0) C 5 rfl rfl q90 (ok_X5_makeImage N e90) mw_X5_makeImage wq_809 rfl dX5_find_90 rfl rfl (Nat.le_of_ble_eq_true rfl) (by decide) (by decide) rfl rfl rfl (Nat.zero_le _) (Nat.zero_le _) ?_
      refine J_if_ne (tgt := 99) (pc' := 96) C dX5_find_93 (by decide) rfl (fun c93 => ?_) (fun c93 => ?_)
      · rw [if_neg c93] at h
        refine J_aload_n (pc' := 100) C 0 dX5_find_99 rfl rfl rfl ?_
        obtain ⟨_, q100, h⟩ := bd h
        obtain ⟨v100, M100, e100, h⟩ := bd2 h
        refine J_cV (pc' := 103) (st := []) (st2 := [.int v100]) (cs2 := 0) (sl2 := 0) C 5 rfl rfl q100 (ok_X5_slotOfImage N e100) mw_X5_slotOfImage wq_796 rfl dX5_find_100 rfl rfl (Nat.le_of_ble_eq_true rfl) (by decide) (by decide) rfl rfl rfl (Nat.zero_le _) (Nat.zero_le _) ?_
        refine J_istore (pc' := 105) (lv' := [(5, .int v100), (0, .ref x0), (2, .int x2), (3, .int x3), (4, .int x4)]) C dX5_find_103 rfl (by decide) rfl ?_
        refine J_aload_n (pc' := 106) C 1 dX5_find_105 rfl rfl rfl ?_
        obtain ⟨v106, e106, h⟩ := bd h
        refine jg_743 (pc' := 109) C dX5_find_106 rfl (gR_some e106) ?_
        refine J_iload (pc' := 111) C 0 dX5_find_109 rfl rfl ?_
        obtain ⟨v111, e111, h⟩ := bd h
        refine J_iald (pc' := 112) C dX5_find_111 rfl e111 ?_
        refine J_if_eq (tgt := 118) (pc' := 115) C dX5_find_112 (by decide) rfl (fun c112 => ?_) (fun c112 => ?_)
        · rw [if_pos c112] at h
          refine J_aload_n (pc' := 119) C 1 dX5_find_118 rfl rfl rfl ?_
          obtain ⟨v119, e119, h⟩ := bd h
          refine jg_747 (pc' := 122) C dX5_find_119 rfl (gI_some e119) ?_
          refine J_sipush (pc' := 125) (v := (2000 : Int32)) C dX5_find_122 rfl (by decide) ?_
          refine J_icmp_lt (tgt := 131) (pc' := 128) C dX5_find_125 (by decide) rfl (fun c125 => ?_) (fun c125 => ?_)
          · rw [if_pos c125] at h
            refine J_aload_n (pc' := 132) C 1 dX5_find_131 rfl rfl rfl ?_
            refine J_iload_n (pc' := 133) C 3 dX5_find_132 rfl rfl rfl ?_
            refine J_iload (pc' := 135) C 4 dX5_find_133 rfl rfl ?_
            obtain ⟨_, q135, h⟩ := bd h
            obtain ⟨v135, M135, e135, h⟩ := bd2 h
            refine J_cV (pc' := 138) (st := []) (st2 := [.int v135]) (cs2 := 0) (sl2 := 0) C 5 rfl rfl q135 (ok_X5_takeImage N e135) mw_X5_takeImage wq_792 rfl dX5_find_135 rfl rfl (Nat.le_of_ble_eq_true rfl) (by decide) (by decide) rfl rfl rfl (Nat.zero_le _) (Nat.zero_le _) ?_
            refine J_if_eq (tgt := 146) (pc' := 141) C dX5_find_138 (by decide) rfl (fun c138 => ?_) (fun c138 => ?_)
            · rw [if_pos c138] at h
              refine J_sub (lv' := [(0, .ref x0), (2, .int x2), (3, .int x3), (4, .int x4)]) [1, 2, 3, 4] rfl ?_
              exact ok_X5_find_K146 C N hk62 ih _ _ _ _ _ _ _ h
            · rw [if_neg c138] at h
              refine J_aload_n (pc' := 142) C 1 dX5_find_141 rfl rfl rfl ?_
              obtain ⟨v142, e142, h⟩ := bd h
              refine jg_749 (pc' := 145) C dX5_find_142 rfl (gI_some e142) ?_
              obtain ⟨rfl, rfl⟩ := rt2 h
              exact J_iret C dX5_find_145 (Nat.zero_le _) (Nat.zero_le _)
          · rw [if_neg c125] at h
            refine J_bipush (pc' := 130) (v := (-7 : Int32)) C dX5_find_128 rfl (by decide) ?_
            obtain ⟨rfl, rfl⟩ := rt2 h
            exact J_iret C dX5_find_130 (Nat.zero_le _) (Nat.zero_le _)
        · rw [if_neg c112] at h
          refine J_goto (tgt := 146) C dX5_find_115 (by decide) ?_
          refine J_sub (lv' := [(0, .ref x0), (2, .int x2), (3, .int x3), (4, .int x4)]) [1, 2, 3, 4] rfl ?_
          exact ok_X5_find_K146 C N hk62 ih _ _ _ _ _ _ _ h
      · rw [if_pos c93] at h
        refine J_goto (tgt := 146) C dX5_find_96 (by decide) ?_
        refine J_sub (lv' := [(0, .ref x0), (2, .int x2), (3, .int x3), (4, .int x4)]) [0, 1, 2, 3] rfl ?_
        exact ok_X5_find_K146 C N hk62 ih _ _ _ _ _ _ _ h
def f_X5_find_L62 (N : Nat) : Nat → Nat → Int32 → Int32 → A_M → Option (Int32 × A_M)
  | 0, _, _, _, _ => none
  | n + 1, x0, x2, x3, M =>
    if (2000 : Int32) ≤ x3 then
    (some ((-6 : Int32), M))
    else
    ((gI M x0 5 8).bind fun v71 =>
    if v71 ≤ x3 then
    (some ((-6 : Int32), M))
    else
    (f_X5_find_L80 N (f_X5_find_L62 N n) N x0 x2 x3 (0 : Int32) M))
set_option maxHeartbeats 4000000 in
set_option maxRecDepth 100000 in
theorem ok_X5_find_L62 {X : JX} (C : Cx X cX5_find RX5 6 (some .int) 3 72) (N : Nat) : ∀ (n : Nat) (x0 : Nat) (x2 : Int32) (x3 : Int32) (M : A_M) (r : Int32) (M' : A_M), f_X5_find_L62 N n x0 x2 x3 M = some (r, M') → J X 6 62 [(0, .ref x0), (2, .int x2), (3, .int x3)] [] M 0 0 (some (.int r)) M' := by
  intro n
  induction n with
  | zero =>
    intro x0 x2 x3 M r M' h
    cases h
  | succ n ih =>
    intro x0 x2 x3 M r M' h
    rw [f_X5_find_L62] at h
    refine J_iload_n (pc' := 63) C 2 dX5_find_62 rfl rfl rfl ?_
    refine J_sipush (pc' := 66) (v := (2000 : Int32)) C dX5_find_63 rfl (by decide) ?_
    refine J_icmp_ge (tgt := 158) (pc' := 69) C dX5_find_66 (by decide) rfl (fun c66 => ?_) (fun c66 => ?_)
    · rw [if_pos c66] at h
      refine J_bipush (pc' := 160) (v := (-6 : Int32)) C dX5_find_158 rfl (by decide) ?_
      obtain ⟨rfl, rfl⟩ := rt2 h
      exact J_iret C dX5_find_160 (Nat.zero_le _) (Nat.zero_le _)
    · rw [if_neg c66] at h
      refine J_iload_n (pc' := 70) C 2 dX5_find_69 rfl rfl rfl ?_
      refine J_aload_n (pc' := 71) C 0 dX5_find_70 rfl rfl rfl ?_
      obtain ⟨v71, e71, h⟩ := bd h
      refine jg_747 (pc' := 74) C dX5_find_71 rfl (gI_some e71) ?_
      refine J_icmp_ge (tgt := 158) (pc' := 77) C dX5_find_74 (by decide) rfl (fun c74 => ?_) (fun c74 => ?_)
      · rw [if_pos c74] at h
        refine J_bipush (pc' := 160) (v := (-6 : Int32)) C dX5_find_158 rfl (by decide) ?_
        obtain ⟨rfl, rfl⟩ := rt2 h
        exact J_iret C dX5_find_160 (Nat.zero_le _) (Nat.zero_le _)
      · rw [if_neg c74] at h
        refine J_iconst (pc' := 78) (v := (0 : Int32)) C dX5_find_77 rfl (by decide) ?_
        refine J_istore (pc' := 80) (lv' := [(4, .int (0 : Int32)), (0, .ref x0), (2, .int x2), (3, .int x3)]) C dX5_find_78 rfl (by decide) rfl ?_
        refine J_sub (lv' := [(0, .ref x0), (2, .int x2), (3, .int x3), (4, .int (0 : Int32))]) [1, 2, 3, 0] rfl ?_
        exact ok_X5_find_L80 C N ih N _ _ _ _ _ _ _ h
def f_X5_find (N : Nat) (a0 : Nat) (a1 : Nat) (a2 : Int32) (M : A_M) : Option (Int32 × A_M) :=
  (chk M a0 5).bind fun _ =>
  (f_X5_layPlaces N a0 a1 M).bind fun M2 =>
  (gI M2 a0 5 6).bind fun v7 =>
  (pV M2 a0 5 7 (.int ((v7 + (63 : Int32)) >>> ((6 : Int32) &&& 31)))).bind fun M16 =>
  (pV M16 a0 5 8 (.int (0 : Int32))).bind fun M21 =>
  (pV M21 a0 5 9 (.int (-1 : Int32))).bind fun M26 =>
  (pV M26 a0 5 10 (.int (0 : Int32))).bind fun M31 =>
  (gR M31 a0 5 4).bind fun v35 =>
  (f_J7_fill_53178 N v35 (0 : Int32) M31).bind fun M39 =>
  (chk M39 a0 5).bind fun _ =>
  (f_X5_fillImage N a0 M39).bind fun M43 =>
  (chk M43 a0 5).bind fun _ =>
  bnd2 (f_X5_takeImage N a0 (-1 : Int32) (0 : Int32) M43) fun v49 M49 =>
  if v49 = 0 then
  (f_X5_find_L62 N N a0 a2 (0 : Int32) M49)
  else
  ((gI M49 a0 5 10).bind fun v56 =>
  some (v56, M49))
set_option maxHeartbeats 4000000 in
set_option maxRecDepth 100000 in
theorem ok_X5_find (N : Nat) {a0 : Nat} {a1 : Nat} {a2 : Int32} {M : A_M} {r : Int32} {M' : A_M} (h : f_X5_find N a0 a1 a2 M = some (r, M')) : Runs yX5_find cX5_find 6 (some .int) 3 72 0 0 [.ref a0, .ref a1, .int a2] M (some (.int r)) M' := by
  refine Runs.intro (by decide) (Nat.le_of_ble_eq_true rfl) (fun X C hnm hMC hMS => ?_)
  have C : Cx X cX5_find RX5 6 (some .int) 3 72 := C
  show J X 6 0 [(0, .ref a0), (1, .ref a1), (2, .int a2)] [] M 0 0 (some (.int r)) M'
  unfold f_X5_find at h
  refine J_aload_n (pc' := 1) C 0 dX5_find_0 rfl rfl rfl ?_
  refine J_aload_n (pc' := 2) C 1 dX5_find_1 rfl rfl rfl ?_
  obtain ⟨_, q2, h⟩ := bd h
  obtain ⟨M2, e2, h⟩ := bd h
  refine J_cV (pc' := 5) (st := []) (st2 := []) (cs2 := 0) (sl2 := 0) C 5 rfl rfl q2 (ok_X5_layPlaces N e2) mw_X5_layPlaces wq_777 rfl dX5_find_2 rfl rfl (Nat.le_of_ble_eq_true rfl) (by decide) (by decide) rfl rfl rfl (Nat.zero_le _) (Nat.zero_le _) ?_
  refine J_aload_n (pc' := 6) C 0 dX5_find_5 rfl rfl rfl ?_
  refine J_aload_n (pc' := 7) C 0 dX5_find_6 rfl rfl rfl ?_
  obtain ⟨v7, e7, h⟩ := bd h
  refine jg_745 (pc' := 10) C dX5_find_7 rfl (gI_some e7) ?_
  refine J_bipush (pc' := 12) (v := (63 : Int32)) C dX5_find_10 rfl (by decide) ?_
  refine J_iadd (pc' := 13) C dX5_find_12 rfl ?_
  refine J_bipush (pc' := 15) (v := (6 : Int32)) C dX5_find_13 rfl (by decide) ?_
  refine J_ishr (pc' := 16) C dX5_find_15 rfl ?_
  obtain ⟨M16, e16, h⟩ := bd h
  refine jp_746 (pc' := 19) C (fun _ => ⟨rfl, rfl⟩) dX5_find_16 rfl e16 ?_
  refine J_aload_n (pc' := 20) C 0 dX5_find_19 rfl rfl rfl ?_
  refine J_iconst (pc' := 21) (v := (0 : Int32)) C dX5_find_20 rfl (by decide) ?_
  obtain ⟨M21, e21, h⟩ := bd h
  refine jp_747 (pc' := 24) C (fun _ => ⟨rfl, rfl⟩) dX5_find_21 rfl e21 ?_
  refine J_aload_n (pc' := 25) C 0 dX5_find_24 rfl rfl rfl ?_
  refine J_iconst (pc' := 26) (v := (-1 : Int32)) C dX5_find_25 rfl (by decide) ?_
  obtain ⟨M26, e26, h⟩ := bd h
  refine jp_748 (pc' := 29) C (fun _ => ⟨rfl, rfl⟩) dX5_find_26 rfl e26 ?_
  refine J_aload_n (pc' := 30) C 0 dX5_find_29 rfl rfl rfl ?_
  refine J_iconst (pc' := 31) (v := (0 : Int32)) C dX5_find_30 rfl (by decide) ?_
  obtain ⟨M31, e31, h⟩ := bd h
  refine jp_749 (pc' := 34) C (fun _ => ⟨rfl, rfl⟩) dX5_find_31 rfl e31 ?_
  refine J_aload_n (pc' := 35) C 0 dX5_find_34 rfl rfl rfl ?_
  obtain ⟨v35, e35, h⟩ := bd h
  refine jg_743 (pc' := 38) C dX5_find_35 rfl (gR_some e35) ?_
  refine J_iconst (pc' := 39) (v := (0 : Int32)) C dX5_find_38 rfl (by decide) ?_
  obtain ⟨M39, e39, h⟩ := bd h
  refine J_cS (pc' := 42) (st := []) (st2 := []) (cs2 := 0) (sl2 := 0) C (ok_J7_fill_53178 N e39) mw_J7_fill_53178 wq_786 rfl dX5_find_39 rfl rfl (Nat.le_of_ble_eq_true rfl) (by decide) (by decide) rfl rfl rfl (Nat.zero_le _) (Nat.zero_le _) ?_
  refine J_aload_n (pc' := 43) C 0 dX5_find_42 rfl rfl rfl ?_
  obtain ⟨_, q43, h⟩ := bd h
  obtain ⟨M43, e43, h⟩ := bd h
  refine J_cV (pc' := 46) (st := []) (st2 := []) (cs2 := 0) (sl2 := 0) C 5 rfl rfl q43 (ok_X5_fillImage N e43) mw_X5_fillImage wq_787 rfl dX5_find_43 rfl rfl (Nat.le_of_ble_eq_true rfl) (by decide) (by decide) rfl rfl rfl (Nat.zero_le _) (Nat.zero_le _) ?_
  refine J_aload_n (pc' := 47) C 0 dX5_find_46 rfl rfl rfl ?_
  refine J_iconst (pc' := 48) (v := (-1 : Int32)) C dX5_find_47 rfl (by decide) ?_
  refine J_iconst (pc' := 49) (v := (0 : Int32)) C dX5_find_48 rfl (by decide) ?_
  obtain ⟨_, q49, h⟩ := bd h
  obtain ⟨v49, M49, e49, h⟩ := bd2 h
  refine J_cV (pc' := 52) (st := []) (st2 := [.int v49]) (cs2 := 0) (sl2 := 0) C 5 rfl rfl q49 (ok_X5_takeImage N e49) mw_X5_takeImage wq_792 rfl dX5_find_49 rfl rfl (Nat.le_of_ble_eq_true rfl) (by decide) (by decide) rfl rfl rfl (Nat.zero_le _) (Nat.zero_le _) ?_
  refine J_if_eq (tgt := 60) (pc' := 55) C dX5_find_52 (by decide) rfl (fun c52 => ?_) (fun c52 => ?_)
  · rw [if_pos c52] at h
    refine J_iconst (pc' := 61) (v := (0 : Int32)) C dX5_find_60 rfl (by decide) ?_
    refine J_istore_n (pc' := 62) (lv' := [(3, .int (0 : Int32)), (0, .ref a0), (1, .ref a1), (2, .int a2)]) C dX5_find_61 rfl rfl (by decide) rfl ?_
    refine J_sub (lv' := [(0, .ref a0), (2, .int a2), (3, .int (0 : Int32))]) [1, 3, 0] rfl ?_
    exact ok_X5_find_L62 C N N _ _ _ _ _ _ h
  · rw [if_neg c52] at h
    refine J_aload_n (pc' := 56) C 0 dX5_find_55 rfl rfl rfl ?_
    obtain ⟨v56, e56, h⟩ := bd h
    refine jg_749 (pc' := 59) C dX5_find_56 rfl (gI_some e56) ?_
    obtain ⟨rfl, rfl⟩ := rt2 h
    exact J_iret C dX5_find_59 (Nat.zero_le _) (Nat.zero_le _)
def f_X6_dropCode (N : Nat) (a0 : Nat) (M : A_M) : Option A_M :=
  (gR M a0 6 7).bind fun v1 =>
  (chk M v1 0).bind fun _ =>
  (f_X0_begin N v1 (0 : Int32) M).bind fun M5 =>
  (pV M5 a0 6 12 (.int (0 : Int32))).bind fun M10 =>
  some M10
set_option maxHeartbeats 4000000 in
set_option maxRecDepth 100000 in
theorem ok_X6_dropCode (N : Nat) {a0 : Nat} {M : A_M} {M' : A_M} (h : f_X6_dropCode N a0 M = some M') : Runs yX6_dropCode cX6_dropCode 1 none 2 45 0 0 [.ref a0] M none M' := by
  refine Runs.intro (by decide) (Nat.le_of_ble_eq_true rfl) (fun X C hnm hMC hMS => ?_)
  have C : Cx X cX6_dropCode RX6 1 none 2 45 := C
  show J X 1 0 [(0, .ref a0)] [] M 0 0 none M'
  unfold f_X6_dropCode at h
  refine J_aload_n (pc' := 1) C 0 dX6_dropCode_0 rfl rfl rfl ?_
  obtain ⟨v1, e1, h⟩ := bd h
  refine jg_197 (pc' := 4) C dX6_dropCode_1 rfl (gR_some e1) ?_
  refine J_iconst (pc' := 5) (v := (0 : Int32)) C dX6_dropCode_4 rfl (by decide) ?_
  obtain ⟨_, q5, h⟩ := bd h
  obtain ⟨M5, e5, h⟩ := bd h
  refine J_cV (pc' := 8) (st := []) (st2 := []) (cs2 := 0) (sl2 := 0) C 0 rfl rfl q5 (ok_X0_begin N e5) mw_X0_begin wq_253 rfl dX6_dropCode_5 rfl rfl (Nat.le_of_ble_eq_true rfl) (by decide) (by decide) rfl rfl rfl (Nat.zero_le _) (Nat.zero_le _) ?_
  refine J_aload_n (pc' := 9) C 0 dX6_dropCode_8 rfl rfl rfl ?_
  refine J_iconst (pc' := 10) (v := (0 : Int32)) C dX6_dropCode_9 rfl (by decide) ?_
  obtain ⟨M10, e10, h⟩ := bd h
  refine jp_202 (pc' := 13) C (fun _ => ⟨rfl, rfl⟩) dX6_dropCode_10 rfl e10 ?_
  obtain rfl := rt1 h
  exact J_vret C dX6_dropCode_13 (Nat.zero_le _) (Nat.zero_le _)
def f_X6_sign_L59 (N : Nat) : Nat → Nat → Int32 → A_M → Option (Int32 × A_M)
  | 0, _, _, _ => none
  | n + 1, x0, x2, M =>
    if (8 : Int32) ≤ x2 then
    ((gI M x0 6 10).bind fun v82 =>
    some ((v82 - (1 : Int32)), M))
    else
    ((gR M x0 6 9).bind fun v66 =>
    (ldA M v66 x2).bind fun v70 =>
    (chk M v70 0).bind fun _ =>
    (f_X0_begin N v70 (0 : Int32) M).bind fun M72 =>
    f_X6_sign_L59 N n x0 (x2 + 1) M72)
set_option maxHeartbeats 4000000 in
set_option maxRecDepth 100000 in
theorem ok_X6_sign_L59 {X : JX} (C : Cx X cX6_sign RX6 3 (some .int) 3 65) (N : Nat) : ∀ (n : Nat) (x0 : Nat) (x2 : Int32) (M : A_M) (r : Int32) (M' : A_M), f_X6_sign_L59 N n x0 x2 M = some (r, M') → J X 3 59 [(0, .ref x0), (2, .int x2)] [] M 0 0 (some (.int r)) M' := by
  intro n
  induction n with
  | zero =>
    intro x0 x2 M r M' h
    cases h
  | succ n ih =>
    intro x0 x2 M r M' h
    rw [f_X6_sign_L59] at h
    refine J_iload_n (pc' := 60) C 1 dX6_sign_59 rfl rfl rfl ?_
    refine J_bipush (pc' := 62) (v := (8 : Int32)) C dX6_sign_60 rfl (by decide) ?_
    refine J_icmp_ge (tgt := 81) (pc' := 65) C dX6_sign_62 (by decide) rfl (fun c62 => ?_) (fun c62 => ?_)
    · rw [if_pos c62] at h
      refine J_aload_n (pc' := 82) C 0 dX6_sign_81 rfl rfl rfl ?_
      obtain ⟨v82, e82, h⟩ := bd h
      refine jg_200 (pc' := 85) C dX6_sign_82 rfl (gI_some e82) ?_
      refine J_iconst (pc' := 86) (v := (1 : Int32)) C dX6_sign_85 rfl (by decide) ?_
      refine J_isub (pc' := 87) C dX6_sign_86 rfl ?_
      obtain ⟨rfl, rfl⟩ := rt2 h
      exact J_iret C dX6_sign_87 (Nat.zero_le _) (Nat.zero_le _)
    · rw [if_neg c62] at h
      refine J_aload_n (pc' := 66) C 0 dX6_sign_65 rfl rfl rfl ?_
      obtain ⟨v66, e66, h⟩ := bd h
      refine jg_199 (pc' := 69) C dX6_sign_66 rfl (gR_some e66) ?_
      refine J_iload_n (pc' := 70) C 1 dX6_sign_69 rfl rfl rfl ?_
      obtain ⟨v70, e70, h⟩ := bd h
      refine J_aald (pc' := 71) C dX6_sign_70 rfl e70 ?_
      refine J_iconst (pc' := 72) (v := (0 : Int32)) C dX6_sign_71 rfl (by decide) ?_
      obtain ⟨_, q72, h⟩ := bd h
      obtain ⟨M72, e72, h⟩ := bd h
      refine J_cV (pc' := 75) (st := []) (st2 := []) (cs2 := 0) (sl2 := 0) C 0 rfl rfl q72 (ok_X0_begin N e72) mw_X0_begin wq_253 rfl dX6_sign_72 rfl rfl (Nat.le_of_ble_eq_true rfl) (by decide) (by decide) rfl rfl rfl (Nat.zero_le _) (Nat.zero_le _) ?_
      refine J_iinc (pc' := 78) (lv' := [(2, .int (x2 + 1)), (0, .ref x0)]) C 1 dX6_sign_75 rfl rfl rfl (by decide) rfl ?_
      refine J_goto (tgt := 59) C dX6_sign_78 (by decide) ?_
      refine J_sub (lv' := [(0, .ref x0), (2, .int (x2 + 1))]) [1, 0] rfl ?_
      exact ih _ _ _ _ _ h
def f_X6_sign (N : Nat) (a0 : Nat) (a1 : Int32) (M : A_M) : Option (Int32 × A_M) :=
  if a1 < (1 : Int32) then
  (some ((-2 : Int32), M))
  else
  (if a1 ≤ (9 : Int32) then
  ((gI M a0 6 10).bind fun v15 =>
  if v15 < (4 : Int32) then
  ((gR M a0 6 0).bind fun v26 =>
  (gI M a0 6 10).bind fun v30 =>
  (stI M v26 v30 a1).bind fun M34 =>
  (gI M34 a0 6 10).bind fun v37 =>
  (pV M34 a0 6 10 (.int (v37 + (1 : Int32)))).bind fun M42 =>
  (chk M42 a0 6).bind fun _ =>
  (f_X6_dropCode N a0 M42).bind fun M46 =>
  (gR M46 a0 6 5).bind fun v50 =>
  (pV M46 v50 2 2 (.int (0 : Int32))).bind fun M54 =>
  f_X6_sign_L59 N N a0 (0 : Int32) M54)
  else
  (some ((-4 : Int32), M)))
  else
  (some ((-2 : Int32), M)))
set_option maxHeartbeats 4000000 in
set_option maxRecDepth 100000 in
theorem ok_X6_sign (N : Nat) {a0 : Nat} {a1 : Int32} {M : A_M} {r : Int32} {M' : A_M} (h : f_X6_sign N a0 a1 M = some (r, M')) : Runs yX6_sign cX6_sign 3 (some .int) 3 65 0 0 [.ref a0, .int a1] M (some (.int r)) M' := by
  refine Runs.intro (by decide) (Nat.le_of_ble_eq_true rfl) (fun X C hnm hMC hMS => ?_)
  have C : Cx X cX6_sign RX6 3 (some .int) 3 65 := C
  show J X 3 0 [(0, .ref a0), (1, .int a1)] [] M 0 0 (some (.int r)) M'
  unfold f_X6_sign at h
  refine J_iload_n (pc' := 1) C 1 dX6_sign_0 rfl rfl rfl ?_
  refine J_iconst (pc' := 2) (v := (1 : Int32)) C dX6_sign_1 rfl (by decide) ?_
  refine J_icmp_lt (tgt := 11) (pc' := 5) C dX6_sign_2 (by decide) rfl (fun c2 => ?_) (fun c2 => ?_)
  · rw [if_pos c2] at h
    refine J_bipush (pc' := 13) (v := (-2 : Int32)) C dX6_sign_11 rfl (by decide) ?_
    obtain ⟨rfl, rfl⟩ := rt2 h
    exact J_iret C dX6_sign_13 (Nat.zero_le _) (Nat.zero_le _)
  · rw [if_neg c2] at h
    refine J_iload_n (pc' := 6) C 1 dX6_sign_5 rfl rfl rfl ?_
    refine J_bipush (pc' := 8) (v := (9 : Int32)) C dX6_sign_6 rfl (by decide) ?_
    refine J_icmp_le (tgt := 14) (pc' := 11) C dX6_sign_8 (by decide) rfl (fun c8 => ?_) (fun c8 => ?_)
    · rw [if_pos c8] at h
      refine J_aload_n (pc' := 15) C 0 dX6_sign_14 rfl rfl rfl ?_
      obtain ⟨v15, e15, h⟩ := bd h
      refine jg_200 (pc' := 18) C dX6_sign_15 rfl (gI_some e15) ?_
      refine J_iconst (pc' := 19) (v := (4 : Int32)) C dX6_sign_18 rfl (by decide) ?_
      refine J_icmp_lt (tgt := 25) (pc' := 22) C dX6_sign_19 (by decide) rfl (fun c19 => ?_) (fun c19 => ?_)
      · rw [if_pos c19] at h
        refine J_aload_n (pc' := 26) C 0 dX6_sign_25 rfl rfl rfl ?_
        obtain ⟨v26, e26, h⟩ := bd h
        refine jg_190 (pc' := 29) C dX6_sign_26 rfl (gR_some e26) ?_
        refine J_aload_n (pc' := 30) C 0 dX6_sign_29 rfl rfl rfl ?_
        obtain ⟨v30, e30, h⟩ := bd h
        refine jg_200 (pc' := 33) C dX6_sign_30 rfl (gI_some e30) ?_
        refine J_iload_n (pc' := 34) C 1 dX6_sign_33 rfl rfl rfl ?_
        obtain ⟨M34, e34, h⟩ := bd h
        refine J_iast (pc' := 35) C dX6_sign_34 rfl e34 ?_
        refine J_aload_n (pc' := 36) C 0 dX6_sign_35 rfl rfl rfl ?_
        refine J_dup (pc' := 37) C dX6_sign_36 rfl rfl ?_
        obtain ⟨v37, e37, h⟩ := bd h
        refine jg_200 (pc' := 40) C dX6_sign_37 rfl (gI_some e37) ?_
        refine J_iconst (pc' := 41) (v := (1 : Int32)) C dX6_sign_40 rfl (by decide) ?_
        refine J_iadd (pc' := 42) C dX6_sign_41 rfl ?_
        obtain ⟨M42, e42, h⟩ := bd h
        refine jp_200 (pc' := 45) C (fun _ => ⟨rfl, rfl⟩) dX6_sign_42 rfl e42 ?_
        refine J_aload_n (pc' := 46) C 0 dX6_sign_45 rfl rfl rfl ?_
        obtain ⟨_, q46, h⟩ := bd h
        obtain ⟨M46, e46, h⟩ := bd h
        refine J_cV (pc' := 49) (st := []) (st2 := []) (cs2 := 0) (sl2 := 0) C 6 rfl rfl q46 (ok_X6_dropCode N e46) mw_X6_dropCode wq_249 rfl dX6_sign_46 rfl rfl (Nat.le_of_ble_eq_true rfl) (by decide) (by decide) rfl rfl rfl (Nat.zero_le _) (Nat.zero_le _) ?_
        refine J_aload_n (pc' := 50) C 0 dX6_sign_49 rfl rfl rfl ?_
        obtain ⟨v50, e50, h⟩ := bd h
        refine jg_195 (pc' := 53) C dX6_sign_50 rfl (gR_some e50) ?_
        refine J_iconst (pc' := 54) (v := (0 : Int32)) C dX6_sign_53 rfl (by decide) ?_
        obtain ⟨M54, e54, h⟩ := bd h
        refine jp_125 (pc' := 57) C (fun _ => ⟨rfl, rfl⟩) dX6_sign_54 rfl e54 ?_
        refine J_iconst (pc' := 58) (v := (0 : Int32)) C dX6_sign_57 rfl (by decide) ?_
        refine J_istore_n (pc' := 59) (lv' := [(2, .int (0 : Int32)), (0, .ref a0), (1, .int a1)]) C dX6_sign_58 rfl rfl (by decide) rfl ?_
        refine J_sub (lv' := [(0, .ref a0), (2, .int (0 : Int32))]) [1, 0] rfl ?_
        exact ok_X6_sign_L59 C N N _ _ _ _ _ h
      · rw [if_neg c19] at h
        refine J_bipush (pc' := 24) (v := (-4 : Int32)) C dX6_sign_22 rfl (by decide) ?_
        obtain ⟨rfl, rfl⟩ := rt2 h
        exact J_iret C dX6_sign_24 (Nat.zero_le _) (Nat.zero_le _)
    · rw [if_neg c8] at h
      refine J_bipush (pc' := 13) (v := (-2 : Int32)) C dX6_sign_11 rfl (by decide) ?_
      obtain ⟨rfl, rfl⟩ := rt2 h
      exact J_iret C dX6_sign_13 (Nat.zero_le _) (Nat.zero_le _)
def f_X6_wholeOfFloat (N : Nat) (a0 : Int32) (M : A_M) : Option (Int32 × A_M) :=
  if a0 < (1065353216 : Int32) then
  (some ((0 : Int32), M))
  else
  (if a0 ≤ (1232348160 : Int32) then
  (some (((((a0 &&& (8388607 : Int32)) ||| (8388608 : Int32)).toUInt32 >>> (((23 : Int32) - (((a0.toUInt32 >>> ((23 : Int32).toUInt32 &&& Int32.toUInt32 31)).toInt32) - (127 : Int32))).toUInt32 &&& Int32.toUInt32 31)).toInt32), M))
  else
  (some ((0 : Int32), M)))
set_option maxHeartbeats 4000000 in
set_option maxRecDepth 100000 in
theorem ok_X6_wholeOfFloat (N : Nat) {a0 : Int32} {M : A_M} {r : Int32} {M' : A_M} (h : f_X6_wholeOfFloat N a0 M = some (r, M')) : Runs yX6_wholeOfFloat cX6_wholeOfFloat 3 (some .int) 0 0 0 0 [.int a0] M (some (.int r)) M' := by
  refine Runs.intro (by decide) (Nat.le_of_ble_eq_true rfl) (fun X C hnm hMC hMS => ?_)
  have C : Cx X cX6_wholeOfFloat RX6 3 (some .int) 0 0 := C
  show J X 3 0 [(0, .int a0)] [] M 0 0 (some (.int r)) M'
  unfold f_X6_wholeOfFloat at h
  refine J_iload_n (pc' := 1) C 0 dX6_wholeOfFloat_0 rfl rfl rfl ?_
  refine J_ldcw (pc' := 4) C dX6_wholeOfFloat_1 rfl wq_270 ?_
  refine J_icmp_lt (tgt := 14) (pc' := 7) C dX6_wholeOfFloat_4 (by decide) rfl (fun c4 => ?_) (fun c4 => ?_)
  · rw [if_pos c4] at h
    refine J_iconst (pc' := 15) (v := (0 : Int32)) C dX6_wholeOfFloat_14 rfl (by decide) ?_
    obtain ⟨rfl, rfl⟩ := rt2 h
    exact J_iret C dX6_wholeOfFloat_15 (Nat.zero_le _) (Nat.zero_le _)
  · rw [if_neg c4] at h
    refine J_iload_n (pc' := 8) C 0 dX6_wholeOfFloat_7 rfl rfl rfl ?_
    refine J_ldcw (pc' := 11) C dX6_wholeOfFloat_8 rfl wq_271 ?_
    refine J_icmp_le (tgt := 16) (pc' := 14) C dX6_wholeOfFloat_11 (by decide) rfl (fun c11 => ?_) (fun c11 => ?_)
    · rw [if_pos c11] at h
      refine J_iload_n (pc' := 17) C 0 dX6_wholeOfFloat_16 rfl rfl rfl ?_
      refine J_bipush (pc' := 19) (v := (23 : Int32)) C dX6_wholeOfFloat_17 rfl (by decide) ?_
      refine J_iushr (pc' := 20) C dX6_wholeOfFloat_19 rfl ?_
      refine J_bipush (pc' := 22) (v := (127 : Int32)) C dX6_wholeOfFloat_20 rfl (by decide) ?_
      refine J_isub (pc' := 23) C dX6_wholeOfFloat_22 rfl ?_
      refine J_istore_n (pc' := 24) (lv' := [(1, .int (((a0.toUInt32 >>> ((23 : Int32).toUInt32 &&& Int32.toUInt32 31)).toInt32) - (127 : Int32))), (0, .int a0)]) C dX6_wholeOfFloat_23 rfl rfl (by decide) rfl ?_
      refine J_iload_n (pc' := 25) C 1 dX6_wholeOfFloat_24 rfl rfl rfl ?_
      refine J_ldcw (pc' := 28) C dX6_wholeOfFloat_25 rfl wq_272 ?_
      refine J_iand (pc' := 29) C dX6_wholeOfFloat_28 rfl ?_
      refine J_ldcw (pc' := 32) C dX6_wholeOfFloat_29 rfl wq_273 ?_
      refine J_ior (pc' := 33) C dX6_wholeOfFloat_32 rfl ?_
      refine J_istore_n (pc' := 34) (lv' := [(2, .int ((a0 &&& (8388607 : Int32)) ||| (8388608 : Int32))), (1, .int (((a0.toUInt32 >>> ((23 : Int32).toUInt32 &&& Int32.toUInt32 31)).toInt32) - (127 : Int32))), (0, .int a0)]) C dX6_wholeOfFloat_33 rfl rfl (by decide) rfl ?_
      refine J_iload_n (pc' := 35) C 0 dX6_wholeOfFloat_34 rfl rfl rfl ?_
      refine J_bipush (pc' := 37) (v := (23 : Int32)) C dX6_wholeOfFloat_35 rfl (by decide) ?_
      refine J_iload_n (pc' := 38) C 1 dX6_wholeOfFloat_37 rfl rfl rfl ?_
      refine J_isub (pc' := 39) C dX6_wholeOfFloat_38 rfl ?_
      refine J_iushr (pc' := 40) C dX6_wholeOfFloat_39 rfl ?_
      obtain ⟨rfl, rfl⟩ := rt2 h
      exact J_iret C dX6_wholeOfFloat_40 (Nat.zero_le _) (Nat.zero_le _)
    · rw [if_neg c11] at h
      refine J_iconst (pc' := 15) (v := (0 : Int32)) C dX6_wholeOfFloat_14 rfl (by decide) ?_
      obtain ⟨rfl, rfl⟩ := rt2 h
      exact J_iret C dX6_wholeOfFloat_15 (Nat.zero_le _) (Nat.zero_le _)
def f_X6_thing (N : Nat) (a0 : Nat) (a1 : Int32) (M : A_M) : Option (Int32 × A_M) :=
  bnd2 (f_X6_wholeOfFloat N a1 M) fun v1 M1 =>
  if (1 : Int32) ≤ v1 then
  ((gI M1 a0 6 11).bind fun v14 =>
  if v14 < (24 : Int32) then
  ((gR M1 a0 6 1).bind fun v26 =>
  (gI M1 a0 6 11).bind fun v30 =>
  (stI M1 v26 v30 v1).bind fun M34 =>
  (gI M34 a0 6 11).bind fun v37 =>
  (pV M34 a0 6 11 (.int (v37 + (1 : Int32)))).bind fun M42 =>
  (chk M42 a0 6).bind fun _ =>
  (f_X6_dropCode N a0 M42).bind fun M46 =>
  (gI M46 a0 6 11).bind fun v50 =>
  some ((v50 - (1 : Int32)), M46))
  else
  (some ((-4 : Int32), M1)))
  else
  (some ((-2 : Int32), M1))
set_option maxHeartbeats 4000000 in
set_option maxRecDepth 100000 in
theorem ok_X6_thing (N : Nat) {a0 : Nat} {a1 : Int32} {M : A_M} {r : Int32} {M' : A_M} (h : f_X6_thing N a0 a1 M = some (r, M')) : Runs yX6_thing cX6_thing 3 (some .int) 3 65 0 0 [.ref a0, .int a1] M (some (.int r)) M' := by
  refine Runs.intro (by decide) (Nat.le_of_ble_eq_true rfl) (fun X C hnm hMC hMS => ?_)
  have C : Cx X cX6_thing RX6 3 (some .int) 3 65 := C
  show J X 3 0 [(0, .ref a0), (1, .int a1)] [] M 0 0 (some (.int r)) M'
  unfold f_X6_thing at h
  refine J_iload_n (pc' := 1) C 1 dX6_thing_0 rfl rfl rfl ?_
  obtain ⟨v1, M1, e1, h⟩ := bd2 h
  refine J_cS (pc' := 4) (st := []) (st2 := [.int v1]) (cs2 := 0) (sl2 := 0) C (ok_X6_wholeOfFloat N e1) mw_X6_wholeOfFloat wq_267 rfl dX6_thing_1 rfl rfl (Nat.le_of_ble_eq_true rfl) (by decide) (by decide) rfl rfl rfl (Nat.zero_le _) (Nat.zero_le _) ?_
  refine J_istore_n (pc' := 5) (lv' := [(2, .int v1), (0, .ref a0), (1, .int a1)]) C dX6_thing_4 rfl rfl (by decide) rfl ?_
  refine J_iload_n (pc' := 6) C 0 dX6_thing_5 rfl rfl rfl ?_
  refine J_iconst (pc' := 7) (v := (1 : Int32)) C dX6_thing_6 rfl (by decide) ?_
  refine J_icmp_ge (tgt := 13) (pc' := 10) C dX6_thing_7 (by decide) rfl (fun c7 => ?_) (fun c7 => ?_)
  · rw [if_pos c7] at h
    refine J_aload_n (pc' := 14) C 1 dX6_thing_13 rfl rfl rfl ?_
    obtain ⟨v14, e14, h⟩ := bd h
    refine jg_201 (pc' := 17) C dX6_thing_14 rfl (gI_some e14) ?_
    refine J_bipush (pc' := 19) (v := (24 : Int32)) C dX6_thing_17 rfl (by decide) ?_
    refine J_icmp_lt (tgt := 25) (pc' := 22) C dX6_thing_19 (by decide) rfl (fun c19 => ?_) (fun c19 => ?_)
    · rw [if_pos c19] at h
      refine J_aload_n (pc' := 26) C 1 dX6_thing_25 rfl rfl rfl ?_
      obtain ⟨v26, e26, h⟩ := bd h
      refine jg_191 (pc' := 29) C dX6_thing_26 rfl (gR_some e26) ?_
      refine J_aload_n (pc' := 30) C 1 dX6_thing_29 rfl rfl rfl ?_
      obtain ⟨v30, e30, h⟩ := bd h
      refine jg_201 (pc' := 33) C dX6_thing_30 rfl (gI_some e30) ?_
      refine J_iload_n (pc' := 34) C 0 dX6_thing_33 rfl rfl rfl ?_
      obtain ⟨M34, e34, h⟩ := bd h
      refine J_iast (pc' := 35) C dX6_thing_34 rfl e34 ?_
      refine J_aload_n (pc' := 36) C 1 dX6_thing_35 rfl rfl rfl ?_
      refine J_dup (pc' := 37) C dX6_thing_36 rfl rfl ?_
      obtain ⟨v37, e37, h⟩ := bd h
      refine jg_201 (pc' := 40) C dX6_thing_37 rfl (gI_some e37) ?_
      refine J_iconst (pc' := 41) (v := (1 : Int32)) C dX6_thing_40 rfl (by decide) ?_
      refine J_iadd (pc' := 42) C dX6_thing_41 rfl ?_
      obtain ⟨M42, e42, h⟩ := bd h
      refine jp_201 (pc' := 45) C (fun _ => ⟨rfl, rfl⟩) dX6_thing_42 rfl e42 ?_
      refine J_aload_n (pc' := 46) C 1 dX6_thing_45 rfl rfl rfl ?_
      obtain ⟨_, q46, h⟩ := bd h
      obtain ⟨M46, e46, h⟩ := bd h
      refine J_cV (pc' := 49) (st := []) (st2 := []) (cs2 := 0) (sl2 := 0) C 6 rfl rfl q46 (ok_X6_dropCode N e46) mw_X6_dropCode wq_249 rfl dX6_thing_46 rfl rfl (Nat.le_of_ble_eq_true rfl) (by decide) (by decide) rfl rfl rfl (Nat.zero_le _) (Nat.zero_le _) ?_
      refine J_aload_n (pc' := 50) C 1 dX6_thing_49 rfl rfl rfl ?_
      obtain ⟨v50, e50, h⟩ := bd h
      refine jg_201 (pc' := 53) C dX6_thing_50 rfl (gI_some e50) ?_
      refine J_iconst (pc' := 54) (v := (1 : Int32)) C dX6_thing_53 rfl (by decide) ?_
      refine J_isub (pc' := 55) C dX6_thing_54 rfl ?_
      obtain ⟨rfl, rfl⟩ := rt2 h
      exact J_iret C dX6_thing_55 (Nat.zero_le _) (Nat.zero_le _)
    · rw [if_neg c19] at h
      refine J_bipush (pc' := 24) (v := (-4 : Int32)) C dX6_thing_22 rfl (by decide) ?_
      obtain ⟨rfl, rfl⟩ := rt2 h
      exact J_iret C dX6_thing_24 (Nat.zero_le _) (Nat.zero_le _)
  · rw [if_neg c7] at h
    refine J_bipush (pc' := 12) (v := (-2 : Int32)) C dX6_thing_10 rfl (by decide) ?_
    obtain ⟨rfl, rfl⟩ := rt2 h
    exact J_iret C dX6_thing_12 (Nat.zero_le _) (Nat.zero_le _)
def f_X6_isThing (N : Nat) (a0 : Nat) (a1 : Int32) (M : A_M) : Option (Int32 × A_M) :=
  if a1 < 0 then
  (some ((0 : Int32), M))
  else
  ((gI M a0 6 11).bind fun v6 =>
  if v6 ≤ a1 then
  (some ((0 : Int32), M))
  else
  (some ((1 : Int32), M)))
set_option maxHeartbeats 4000000 in
set_option maxRecDepth 100000 in
theorem ok_X6_isThing (N : Nat) {a0 : Nat} {a1 : Int32} {M : A_M} {r : Int32} {M' : A_M} (h : f_X6_isThing N a0 a1 M = some (r, M')) : Runs yX6_isThing cX6_isThing 2 (some .boolean) 0 0 0 0 [.ref a0, .int a1] M (some (.int r)) M' := by
  refine Runs.intro (by decide) (Nat.le_of_ble_eq_true rfl) (fun X C hnm hMC hMS => ?_)
  have C : Cx X cX6_isThing RX6 2 (some .boolean) 0 0 := C
  show J X 2 0 [(0, .ref a0), (1, .int a1)] [] M 0 0 (some (.int r)) M'
  unfold f_X6_isThing at h
  refine J_iload_n (pc' := 1) C 1 dX6_isThing_0 rfl rfl rfl ?_
  refine J_if_lt (tgt := 16) (pc' := 4) C dX6_isThing_1 (by decide) rfl (fun c1 => ?_) (fun c1 => ?_)
  · rw [if_pos c1] at h
    refine J_iconst (pc' := 17) (v := (0 : Int32)) C dX6_isThing_16 rfl (by decide) ?_
    obtain ⟨rfl, rfl⟩ := rt2 h
    exact J_zret C rfl dX6_isThing_17 (Nat.zero_le _) (Nat.zero_le _)
  · rw [if_neg c1] at h
    refine J_iload_n (pc' := 5) C 1 dX6_isThing_4 rfl rfl rfl ?_
    refine J_aload_n (pc' := 6) C 0 dX6_isThing_5 rfl rfl rfl ?_
    obtain ⟨v6, e6, h⟩ := bd h
    refine jg_201 (pc' := 9) C dX6_isThing_6 rfl (gI_some e6) ?_
    refine J_icmp_ge (tgt := 16) (pc' := 12) C dX6_isThing_9 (by decide) rfl (fun c9 => ?_) (fun c9 => ?_)
    · rw [if_pos c9] at h
      refine J_iconst (pc' := 17) (v := (0 : Int32)) C dX6_isThing_16 rfl (by decide) ?_
      obtain ⟨rfl, rfl⟩ := rt2 h
      exact J_zret C rfl dX6_isThing_17 (Nat.zero_le _) (Nat.zero_le _)
    · rw [if_neg c9] at h
      refine J_iconst (pc' := 13) (v := (1 : Int32)) C dX6_isThing_12 rfl (by decide) ?_
      refine J_goto (tgt := 17) C dX6_isThing_13 (by decide) ?_
      obtain ⟨rfl, rfl⟩ := rt2 h
      exact J_zret C rfl dX6_isThing_17 (Nat.zero_le _) (Nat.zero_le _)
def f_X6_count (N : Nat) (a0 : Nat) (a1 : Int32) (a2 : Int32) (M : A_M) : Option (Int32 × A_M) :=
  (chk M a0 6).bind fun _ =>
  bnd2 (f_X6_isThing N a0 a1 M) fun v2 M2 =>
  if v2 = 0 then
  (some ((-1 : Int32), M2))
  else
  (bnd2 (f_X6_wholeOfFloat N a2 M2) fun v11 M11 =>
  if (1 : Int32) ≤ v11 then
  ((gR M11 a0 6 1).bind fun v24 =>
  (ldI M11 v24 a1).bind fun v28 =>
  (gR M11 a0 6 1).bind fun v32 =>
  (stI M11 v32 a1 v11).bind fun M37 =>
  some (v28, M37))
  else
  (some ((-2 : Int32), M11)))
set_option maxHeartbeats 4000000 in
set_option maxRecDepth 100000 in
theorem ok_X6_count (N : Nat) {a0 : Nat} {a1 : Int32} {a2 : Int32} {M : A_M} {r : Int32} {M' : A_M} (h : f_X6_count N a0 a1 a2 M = some (r, M')) : Runs yX6_count cX6_count 5 (some .int) 1 22 0 0 [.ref a0, .int a1, .int a2] M (some (.int r)) M' := by
  refine Runs.intro (by decide) (Nat.le_of_ble_eq_true rfl) (fun X C hnm hMC hMS => ?_)
  have C : Cx X cX6_count RX6 5 (some .int) 1 22 := C
  show J X 5 0 [(0, .ref a0), (1, .int a1), (2, .int a2)] [] M 0 0 (some (.int r)) M'
  unfold f_X6_count at h
  refine J_aload_n (pc' := 1) C 0 dX6_count_0 rfl rfl rfl ?_
  refine J_iload_n (pc' := 2) C 1 dX6_count_1 rfl rfl rfl ?_
  obtain ⟨_, q2, h⟩ := bd h
  obtain ⟨v2, M2, e2, h⟩ := bd2 h
  refine J_cV (pc' := 5) (st := []) (st2 := [.int v2]) (cs2 := 0) (sl2 := 0) C 6 rfl rfl q2 (ok_X6_isThing N e2) mw_X6_isThing wq_278 rfl dX6_count_2 rfl rfl (Nat.le_of_ble_eq_true rfl) (by decide) (by decide) rfl rfl rfl (Nat.zero_le _) (Nat.zero_le _) ?_
  refine J_if_ne (tgt := 10) (pc' := 8) C dX6_count_5 (by decide) rfl (fun c5 => ?_) (fun c5 => ?_)
  · rw [if_neg c5] at h
    refine J_iload_n (pc' := 11) C 2 dX6_count_10 rfl rfl rfl ?_
    obtain ⟨v11, M11, e11, h⟩ := bd2 h
    refine J_cS (pc' := 14) (st := []) (st2 := [.int v11]) (cs2 := 0) (sl2 := 0) C (ok_X6_wholeOfFloat N e11) mw_X6_wholeOfFloat wq_267 rfl dX6_count_11 rfl rfl (Nat.le_of_ble_eq_true rfl) (by decide) (by decide) rfl rfl rfl (Nat.zero_le _) (Nat.zero_le _) ?_
    refine J_istore_n (pc' := 15) (lv' := [(3, .int v11), (0, .ref a0), (1, .int a1), (2, .int a2)]) C dX6_count_14 rfl rfl (by decide) rfl ?_
    refine J_iload_n (pc' := 16) C 0 dX6_count_15 rfl rfl rfl ?_
    refine J_iconst (pc' := 17) (v := (1 : Int32)) C dX6_count_16 rfl (by decide) ?_
    refine J_icmp_ge (tgt := 23) (pc' := 20) C dX6_count_17 (by decide) rfl (fun c17 => ?_) (fun c17 => ?_)
    · rw [if_pos c17] at h
      refine J_aload_n (pc' := 24) C 1 dX6_count_23 rfl rfl rfl ?_
      obtain ⟨v24, e24, h⟩ := bd h
      refine jg_191 (pc' := 27) C dX6_count_24 rfl (gR_some e24) ?_
      refine J_iload_n (pc' := 28) C 2 dX6_count_27 rfl rfl rfl ?_
      obtain ⟨v28, e28, h⟩ := bd h
      refine J_iald (pc' := 29) C dX6_count_28 rfl e28 ?_
      refine J_istore (pc' := 31) (lv' := [(4, .int v28), (3, .int v11), (0, .ref a0), (1, .int a1), (2, .int a2)]) C dX6_count_29 rfl (by decide) rfl ?_
      refine J_aload_n (pc' := 32) C 2 dX6_count_31 rfl rfl rfl ?_
      obtain ⟨v32, e32, h⟩ := bd h
      refine jg_191 (pc' := 35) C dX6_count_32 rfl (gR_some e32) ?_
      refine J_iload_n (pc' := 36) C 3 dX6_count_35 rfl rfl rfl ?_
      refine J_iload_n (pc' := 37) C 1 dX6_count_36 rfl rfl rfl ?_
      obtain ⟨M37, e37, h⟩ := bd h
      refine J_iast (pc' := 38) C dX6_count_37 rfl e37 ?_
      refine J_iload (pc' := 40) C 0 dX6_count_38 rfl rfl ?_
      obtain ⟨rfl, rfl⟩ := rt2 h
      exact J_iret C dX6_count_40 (Nat.zero_le _) (Nat.zero_le _)
    · rw [if_neg c17] at h
      refine J_bipush (pc' := 22) (v := (-2 : Int32)) C dX6_count_20 rfl (by decide) ?_
      obtain ⟨rfl, rfl⟩ := rt2 h
      exact J_iret C dX6_count_22 (Nat.zero_le _) (Nat.zero_le _)
  · rw [if_pos c5] at h
    refine J_iconst (pc' := 9) (v := (-1 : Int32)) C dX6_count_8 rfl (by decide) ?_
    obtain ⟨rfl, rfl⟩ := rt2 h
    exact J_iret C dX6_count_9 (Nat.zero_le _) (Nat.zero_le _)
def f_X6_isSign (N : Nat) (a0 : Nat) (a1 : Int32) (M : A_M) : Option (Int32 × A_M) :=
  if a1 < 0 then
  (some ((0 : Int32), M))
  else
  ((gI M a0 6 10).bind fun v6 =>
  if v6 ≤ a1 then
  (some ((0 : Int32), M))
  else
  (some ((1 : Int32), M)))
set_option maxHeartbeats 4000000 in
set_option maxRecDepth 100000 in
theorem ok_X6_isSign (N : Nat) {a0 : Nat} {a1 : Int32} {M : A_M} {r : Int32} {M' : A_M} (h : f_X6_isSign N a0 a1 M = some (r, M')) : Runs yX6_isSign cX6_isSign 2 (some .boolean) 0 0 0 0 [.ref a0, .int a1] M (some (.int r)) M' := by
  refine Runs.intro (by decide) (Nat.le_of_ble_eq_true rfl) (fun X C hnm hMC hMS => ?_)
  have C : Cx X cX6_isSign RX6 2 (some .boolean) 0 0 := C
  show J X 2 0 [(0, .ref a0), (1, .int a1)] [] M 0 0 (some (.int r)) M'
  unfold f_X6_isSign at h
  refine J_iload_n (pc' := 1) C 1 dX6_isSign_0 rfl rfl rfl ?_
  refine J_if_lt (tgt := 16) (pc' := 4) C dX6_isSign_1 (by decide) rfl (fun c1 => ?_) (fun c1 => ?_)
  · rw [if_pos c1] at h
    refine J_iconst (pc' := 17) (v := (0 : Int32)) C dX6_isSign_16 rfl (by decide) ?_
    obtain ⟨rfl, rfl⟩ := rt2 h
    exact J_zret C rfl dX6_isSign_17 (Nat.zero_le _) (Nat.zero_le _)
  · rw [if_neg c1] at h
    refine J_iload_n (pc' := 5) C 1 dX6_isSign_4 rfl rfl rfl ?_
    refine J_aload_n (pc' := 6) C 0 dX6_isSign_5 rfl rfl rfl ?_
    obtain ⟨v6, e6, h⟩ := bd h
    refine jg_200 (pc' := 9) C dX6_isSign_6 rfl (gI_some e6) ?_
    refine J_icmp_ge (tgt := 16) (pc' := 12) C dX6_isSign_9 (by decide) rfl (fun c9 => ?_) (fun c9 => ?_)
    · rw [if_pos c9] at h
      refine J_iconst (pc' := 17) (v := (0 : Int32)) C dX6_isSign_16 rfl (by decide) ?_
      obtain ⟨rfl, rfl⟩ := rt2 h
      exact J_zret C rfl dX6_isSign_17 (Nat.zero_le _) (Nat.zero_le _)
    · rw [if_neg c9] at h
      refine J_iconst (pc' := 13) (v := (1 : Int32)) C dX6_isSign_12 rfl (by decide) ?_
      refine J_goto (tgt := 17) C dX6_isSign_13 (by decide) ?_
      obtain ⟨rfl, rfl⟩ := rt2 h
      exact J_zret C rfl dX6_isSign_17 (Nat.zero_le _) (Nat.zero_le _)
def f_X6_isKind (N : Nat) (a0 : Nat) (a1 : Int32) (a2 : Int32) (M : A_M) : Option (Int32 × A_M) :=
  if a1 = (1 : Int32) then
  (if a2 < (1 : Int32) then
  (some ((0 : Int32), M))
  else
  (if (24 : Int32) < a2 then
  (some ((0 : Int32), M))
  else
  (some ((1 : Int32), M))))
  else
  (if a1 = (3 : Int32) then
  ((chk M a0 6).bind fun _ =>
  bnd2 (f_X6_isSign N a0 a2 M) fun v29 M29 =>
  (zb v29).bind fun _ =>
  some (v29, M29))
  else
  (if a1 = 0 then
  (some ((1 : Int32), M))
  else
  (if a1 = (2 : Int32) then
  (some ((1 : Int32), M))
  else
  (some ((0 : Int32), M)))))
set_option maxHeartbeats 4000000 in
set_option maxRecDepth 100000 in
theorem ok_X6_isKind (N : Nat) {a0 : Nat} {a1 : Int32} {a2 : Int32} {M : A_M} {r : Int32} {M' : A_M} (h : f_X6_isKind N a0 a1 a2 M = some (r, M')) : Runs yX6_isKind cX6_isKind 3 (some .boolean) 1 21 0 0 [.ref a0, .int a1, .int a2] M (some (.int r)) M' := by
  refine Runs.intro (by decide) (Nat.le_of_ble_eq_true rfl) (fun X C hnm hMC hMS => ?_)
  have C : Cx X cX6_isKind RX6 3 (some .boolean) 1 21 := C
  show J X 3 0 [(0, .ref a0), (1, .int a1), (2, .int a2)] [] M 0 0 (some (.int r)) M'
  unfold f_X6_isKind at h
  refine J_iload_n (pc' := 1) C 1 dX6_isKind_0 rfl rfl rfl ?_
  refine J_iconst (pc' := 2) (v := (1 : Int32)) C dX6_isKind_1 rfl (by decide) ?_
  refine J_icmp_ne (tgt := 22) (pc' := 5) C dX6_isKind_2 (by decide) rfl (fun c2 => ?_) (fun c2 => ?_)
  · rw [if_neg c2] at h
    refine J_iload_n (pc' := 23) C 1 dX6_isKind_22 rfl rfl rfl ?_
    refine J_iconst (pc' := 24) (v := (3 : Int32)) C dX6_isKind_23 rfl (by decide) ?_
    refine J_icmp_ne (tgt := 33) (pc' := 27) C dX6_isKind_24 (by decide) rfl (fun c24 => ?_) (fun c24 => ?_)
    · rw [if_neg c24] at h
      refine J_iload_n (pc' := 34) C 1 dX6_isKind_33 rfl rfl rfl ?_
      refine J_if_eq (tgt := 42) (pc' := 37) C dX6_isKind_34 (by decide) rfl (fun c34 => ?_) (fun c34 => ?_)
      · rw [if_pos c34] at h
        refine J_iconst (pc' := 43) (v := (1 : Int32)) C dX6_isKind_42 rfl (by decide) ?_
        refine J_goto (tgt := 47) C dX6_isKind_43 (by decide) ?_
        obtain ⟨rfl, rfl⟩ := rt2 h
        exact J_zret C rfl dX6_isKind_47 (Nat.zero_le _) (Nat.zero_le _)
      · rw [if_neg c34] at h
        refine J_iload_n (pc' := 38) C 1 dX6_isKind_37 rfl rfl rfl ?_
        refine J_iconst (pc' := 39) (v := (2 : Int32)) C dX6_isKind_38 rfl (by decide) ?_
        refine J_icmp_ne (tgt := 46) (pc' := 42) C dX6_isKind_39 (by decide) rfl (fun c39 => ?_) (fun c39 => ?_)
        · rw [if_neg c39] at h
          refine J_iconst (pc' := 47) (v := (0 : Int32)) C dX6_isKind_46 rfl (by decide) ?_
          obtain ⟨rfl, rfl⟩ := rt2 h
          exact J_zret C rfl dX6_isKind_47 (Nat.zero_le _) (Nat.zero_le _)
        · rw [if_pos c39] at h
          refine J_iconst (pc' := 43) (v := (1 : Int32)) C dX6_isKind_42 rfl (by decide) ?_
          refine J_goto (tgt := 47) C dX6_isKind_43 (by decide) ?_
          obtain ⟨rfl, rfl⟩ := rt2 h
          exact J_zret C rfl dX6_isKind_47 (Nat.zero_le _) (Nat.zero_le _)
    · rw [if_pos c24] at h
      refine J_aload_n (pc' := 28) C 0 dX6_isKind_27 rfl rfl rfl ?_
      refine J_iload_n (pc' := 29) C 2 dX6_isKind_28 rfl rfl rfl ?_
      obtain ⟨_, q29, h⟩ := bd h
      obtain ⟨v29, M29, e29, h⟩ := bd2 h
      refine J_cV (pc' := 32) (st := []) (st2 := [.int v29]) (cs2 := 0) (sl2 := 0) C 6 rfl rfl q29 (ok_X6_isSign N e29) mw_X6_isSign wq_290 rfl dX6_isKind_29 rfl rfl (Nat.le_of_ble_eq_true rfl) (by decide) (by decide) rfl rfl rfl (Nat.zero_le _) (Nat.zero_le _) ?_
      obtain ⟨_, z32, h⟩ := bd h
      obtain ⟨rfl, rfl⟩ := rt2 h
      exact J_zret C (zb_n (zb_some z32)) dX6_isKind_32 (Nat.zero_le _) (Nat.zero_le _)
  · rw [if_pos c2] at h
    refine J_iload_n (pc' := 6) C 2 dX6_isKind_5 rfl rfl rfl ?_
    refine J_iconst (pc' := 7) (v := (1 : Int32)) C dX6_isKind_6 rfl (by decide) ?_
    refine J_icmp_lt (tgt := 20) (pc' := 10) C dX6_isKind_7 (by decide) rfl (fun c7 => ?_) (fun c7 => ?_)
    · rw [if_pos c7] at h
      refine J_iconst (pc' := 21) (v := (0 : Int32)) C dX6_isKind_20 rfl (by decide) ?_
      obtain ⟨rfl, rfl⟩ := rt2 h
      exact J_zret C rfl dX6_isKind_21 (Nat.zero_le _) (Nat.zero_le _)
    · rw [if_neg c7] at h
      refine J_iload_n (pc' := 11) C 2 dX6_isKind_10 rfl rfl rfl ?_
      refine J_bipush (pc' := 13) (v := (24 : Int32)) C dX6_isKind_11 rfl (by decide) ?_
      refine J_icmp_gt (tgt := 20) (pc' := 16) C dX6_isKind_13 (by decide) rfl (fun c13 => ?_) (fun c13 => ?_)
      · rw [if_pos c13] at h
        refine J_iconst (pc' := 21) (v := (0 : Int32)) C dX6_isKind_20 rfl (by decide) ?_
        obtain ⟨rfl, rfl⟩ := rt2 h
        exact J_zret C rfl dX6_isKind_21 (Nat.zero_le _) (Nat.zero_le _)
      · rw [if_neg c13] at h
        refine J_iconst (pc' := 17) (v := (1 : Int32)) C dX6_isKind_16 rfl (by decide) ?_
        refine J_goto (tgt := 21) C dX6_isKind_17 (by decide) ?_
        obtain ⟨rfl, rfl⟩ := rt2 h
        exact J_zret C rfl dX6_isKind_21 (Nat.zero_le _) (Nat.zero_le _)
def f_X6_hasSignsAndThings (N : Nat) (a0 : Nat) (M : A_M) : Option (Int32 × A_M) :=
  (gI M a0 6 10).bind fun v1 =>
  if v1 < (2 : Int32) then
  (some ((0 : Int32), M))
  else
  ((gI M a0 6 11).bind fun v9 =>
  if v9 < (1 : Int32) then
  (some ((0 : Int32), M))
  else
  (some ((1 : Int32), M)))
set_option maxHeartbeats 4000000 in
set_option maxRecDepth 100000 in
theorem ok_X6_hasSignsAndThings (N : Nat) {a0 : Nat} {M : A_M} {r : Int32} {M' : A_M} (h : f_X6_hasSignsAndThings N a0 M = some (r, M')) : Runs yX6_hasSignsAndThings cX6_hasSignsAndThings 1 (some .boolean) 0 0 0 0 [.ref a0] M (some (.int r)) M' := by
  refine Runs.intro (by decide) (Nat.le_of_ble_eq_true rfl) (fun X C hnm hMC hMS => ?_)
  have C : Cx X cX6_hasSignsAndThings RX6 1 (some .boolean) 0 0 := C
  show J X 1 0 [(0, .ref a0)] [] M 0 0 (some (.int r)) M'
  unfold f_X6_hasSignsAndThings at h
  refine J_aload_n (pc' := 1) C 0 dX6_hasSignsAndThings_0 rfl rfl rfl ?_
  obtain ⟨v1, e1, h⟩ := bd h
  refine jg_200 (pc' := 4) C dX6_hasSignsAndThings_1 rfl (gI_some e1) ?_
  refine J_iconst (pc' := 5) (v := (2 : Int32)) C dX6_hasSignsAndThings_4 rfl (by decide) ?_
  refine J_icmp_lt (tgt := 20) (pc' := 8) C dX6_hasSignsAndThings_5 (by decide) rfl (fun c5 => ?_) (fun c5 => ?_)
  · rw [if_pos c5] at h
    refine J_iconst (pc' := 21) (v := (0 : Int32)) C dX6_hasSignsAndThings_20 rfl (by decide) ?_
    obtain ⟨rfl, rfl⟩ := rt2 h
    exact J_zret C rfl dX6_hasSignsAndThings_21 (Nat.zero_le _) (Nat.zero_le _)
  · rw [if_neg c5] at h
    refine J_aload_n (pc' := 9) C 0 dX6_hasSignsAndThings_8 rfl rfl rfl ?_
    obtain ⟨v9, e9, h⟩ := bd h
    refine jg_201 (pc' := 12) C dX6_hasSignsAndThings_9 rfl (gI_some e9) ?_
    refine J_iconst (pc' := 13) (v := (1 : Int32)) C dX6_hasSignsAndThings_12 rfl (by decide) ?_
    refine J_icmp_lt (tgt := 20) (pc' := 16) C dX6_hasSignsAndThings_13 (by decide) rfl (fun c13 => ?_) (fun c13 => ?_)
    · rw [if_pos c13] at h
      refine J_iconst (pc' := 21) (v := (0 : Int32)) C dX6_hasSignsAndThings_20 rfl (by decide) ?_
      obtain ⟨rfl, rfl⟩ := rt2 h
      exact J_zret C rfl dX6_hasSignsAndThings_21 (Nat.zero_le _) (Nat.zero_le _)
    · rw [if_neg c13] at h
      refine J_iconst (pc' := 17) (v := (1 : Int32)) C dX6_hasSignsAndThings_16 rfl (by decide) ?_
      refine J_goto (tgt := 21) C dX6_hasSignsAndThings_17 (by decide) ?_
      obtain ⟨rfl, rfl⟩ := rt2 h
      exact J_zret C rfl dX6_hasSignsAndThings_21 (Nat.zero_le _) (Nat.zero_le _)
def f_X6_pricesUnlike_L2 (N : Nat) : Nat → Nat → Int32 → A_M → Option (Int32 × A_M)
  | 0, _, _, _ => none
  | n + 1, x0, x1, M =>
    (gI M x0 6 10).bind fun v4 =>
    if v4 ≤ x1 then
    (some ((0 : Int32), M))
    else
    ((gR M x0 6 0).bind fun v11 =>
    (ldI M v11 x1).bind fun v15 =>
    (gR M x0 6 0).bind fun v17 =>
    (ldI M v17 (0 : Int32)).bind fun v21 =>
    if v15 = v21 then
    (f_X6_pricesUnlike_L2 N n x0 (x1 + 1) M)
    else
    (some ((1 : Int32), M)))
set_option maxHeartbeats 4000000 in
set_option maxRecDepth 100000 in
theorem ok_X6_pricesUnlike_L2 {X : JX} (C : Cx X cX6_pricesUnlike RX6 2 (some .boolean) 0 0) (N : Nat) : ∀ (n : Nat) (x0 : Nat) (x1 : Int32) (M : A_M) (r : Int32) (M' : A_M), f_X6_pricesUnlike_L2 N n x0 x1 M = some (r, M') → J X 2 2 [(0, .ref x0), (1, .int x1)] [] M 0 0 (some (.int r)) M' := by
  intro n
  induction n with
  | zero =>
    intro x0 x1 M r M' h
    cases h
  | succ n ih =>
    intro x0 x1 M r M' h
    rw [f_X6_pricesUnlike_L2] at h
    refine J_iload_n (pc' := 3) C 1 dX6_pricesUnlike_2 rfl rfl rfl ?_
    refine J_aload_n (pc' := 4) C 0 dX6_pricesUnlike_3 rfl rfl rfl ?_
    obtain ⟨v4, e4, h⟩ := bd h
    refine jg_200 (pc' := 7) C dX6_pricesUnlike_4 rfl (gI_some e4) ?_
    refine J_icmp_ge (tgt := 33) (pc' := 10) C dX6_pricesUnlike_7 (by decide) rfl (fun c7 => ?_) (fun c7 => ?_)
    · rw [if_pos c7] at h
      refine J_iconst (pc' := 34) (v := (0 : Int32)) C dX6_pricesUnlike_33 rfl (by decide) ?_
      obtain ⟨rfl, rfl⟩ := rt2 h
      exact J_zret C rfl dX6_pricesUnlike_34 (Nat.zero_le _) (Nat.zero_le _)
    · rw [if_neg c7] at h
      refine J_aload_n (pc' := 11) C 0 dX6_pricesUnlike_10 rfl rfl rfl ?_
      obtain ⟨v11, e11, h⟩ := bd h
      refine jg_190 (pc' := 14) C dX6_pricesUnlike_11 rfl (gR_some e11) ?_
      refine J_iload_n (pc' := 15) C 1 dX6_pricesUnlike_14 rfl rfl rfl ?_
      obtain ⟨v15, e15, h⟩ := bd h
      refine J_iald (pc' := 16) C dX6_pricesUnlike_15 rfl e15 ?_
      refine J_aload_n (pc' := 17) C 0 dX6_pricesUnlike_16 rfl rfl rfl ?_
      obtain ⟨v17, e17, h⟩ := bd h
      refine jg_190 (pc' := 20) C dX6_pricesUnlike_17 rfl (gR_some e17) ?_
      refine J_iconst (pc' := 21) (v := (0 : Int32)) C dX6_pricesUnlike_20 rfl (by decide) ?_
      obtain ⟨v21, e21, h⟩ := bd h
      refine J_iald (pc' := 22) C dX6_pricesUnlike_21 rfl e21 ?_
      refine J_icmp_eq (tgt := 27) (pc' := 25) C dX6_pricesUnlike_22 (by decide) rfl (fun c22 => ?_) (fun c22 => ?_)
      · rw [if_pos c22] at h
        refine J_iinc (pc' := 30) (lv' := [(1, .int (x1 + 1)), (0, .ref x0)]) C 1 dX6_pricesUnlike_27 rfl rfl rfl (by decide) rfl ?_
        refine J_goto (tgt := 2) C dX6_pricesUnlike_30 (by decide) ?_
        refine J_sub (lv' := [(0, .ref x0), (1, .int (x1 + 1))]) [1, 0] rfl ?_
        exact ih _ _ _ _ _ h
      · rw [if_neg c22] at h
        refine J_iconst (pc' := 26) (v := (1 : Int32)) C dX6_pricesUnlike_25 rfl (by decide) ?_
        obtain ⟨rfl, rfl⟩ := rt2 h
        exact J_zret C rfl dX6_pricesUnlike_26 (Nat.zero_le _) (Nat.zero_le _)
def f_X6_pricesUnlike (N : Nat) (a0 : Nat) (M : A_M) : Option (Int32 × A_M) :=
  f_X6_pricesUnlike_L2 N N a0 (1 : Int32) M
set_option maxHeartbeats 4000000 in
set_option maxRecDepth 100000 in
theorem ok_X6_pricesUnlike (N : Nat) {a0 : Nat} {M : A_M} {r : Int32} {M' : A_M} (h : f_X6_pricesUnlike N a0 M = some (r, M')) : Runs yX6_pricesUnlike cX6_pricesUnlike 2 (some .boolean) 0 0 0 0 [.ref a0] M (some (.int r)) M' := by
  refine Runs.intro (by decide) (Nat.le_of_ble_eq_true rfl) (fun X C hnm hMC hMS => ?_)
  have C : Cx X cX6_pricesUnlike RX6 2 (some .boolean) 0 0 := C
  show J X 2 0 [(0, .ref a0)] [] M 0 0 (some (.int r)) M'
  unfold f_X6_pricesUnlike at h
  refine J_iconst (pc' := 1) (v := (1 : Int32)) C dX6_pricesUnlike_0 rfl (by decide) ?_
  refine J_istore_n (pc' := 2) (lv' := [(1, .int (1 : Int32)), (0, .ref a0)]) C dX6_pricesUnlike_1 rfl rfl (by decide) rfl ?_
  refine J_sub (lv' := [(0, .ref a0), (1, .int (1 : Int32))]) [1, 0] rfl ?_
  exact ok_X6_pricesUnlike_L2 C N N _ _ _ _ _ h
def f_X6_dearestPrice_L4 (N : Nat) : Nat → Nat → Int32 → Int32 → A_M → Option (Int32 × A_M)
  | 0, _, _, _, _ => none
  | n + 1, x0, x1, x2, M =>
    (gI M x0 6 10).bind fun v6 =>
    if v6 ≤ x2 then
    (some (x1, M))
    else
    ((gR M x0 6 0).bind fun v14 =>
    (ldI M v14 x2).bind fun v18 =>
    f_X6_dearestPrice_L4 N n x0 (mxI x1 v18) (x2 + 1) M)
set_option maxHeartbeats 4000000 in
set_option maxRecDepth 100000 in
theorem ok_X6_dearestPrice_L4 {X : JX} (C : Cx X cX6_dearestPrice RX6 3 (some .int) 1 23) (N : Nat) : ∀ (n : Nat) (x0 : Nat) (x1 : Int32) (x2 : Int32) (M : A_M) (r : Int32) (M' : A_M), f_X6_dearestPrice_L4 N n x0 x1 x2 M = some (r, M') → J X 3 4 [(0, .ref x0), (1, .int x1), (2, .int x2)] [] M 0 0 (some (.int r)) M' := by
  intro n
  induction n with
  | zero =>
    intro x0 x1 x2 M r M' h
    cases h
  | succ n ih =>
    intro x0 x1 x2 M r M' h
    rw [f_X6_dearestPrice_L4] at h
    refine J_iload_n (pc' := 5) C 2 dX6_dearestPrice_4 rfl rfl rfl ?_
    refine J_aload_n (pc' := 6) C 0 dX6_dearestPrice_5 rfl rfl rfl ?_
    obtain ⟨v6, e6, h⟩ := bd h
    refine jg_200 (pc' := 9) C dX6_dearestPrice_6 rfl (gI_some e6) ?_
    refine J_icmp_ge (tgt := 29) (pc' := 12) C dX6_dearestPrice_9 (by decide) rfl (fun c9 => ?_) (fun c9 => ?_)
    · rw [if_pos c9] at h
      refine J_iload_n (pc' := 30) C 1 dX6_dearestPrice_29 rfl rfl rfl ?_
      obtain ⟨rfl, rfl⟩ := rt2 h
      exact J_iret C dX6_dearestPrice_30 (Nat.zero_le _) (Nat.zero_le _)
    · rw [if_neg c9] at h
      refine J_iload_n (pc' := 13) C 1 dX6_dearestPrice_12 rfl rfl rfl ?_
      refine J_aload_n (pc' := 14) C 0 dX6_dearestPrice_13 rfl rfl rfl ?_
      obtain ⟨v14, e14, h⟩ := bd h
      refine jg_190 (pc' := 17) C dX6_dearestPrice_14 rfl (gR_some e14) ?_
      refine J_iload_n (pc' := 18) C 2 dX6_dearestPrice_17 rfl rfl rfl ?_
      obtain ⟨v18, e18, h⟩ := bd h
      refine J_iald (pc' := 19) C dX6_dearestPrice_18 rfl e18 ?_
      refine J_mmax (pc' := 22) C wq_311 dX6_dearestPrice_19 rfl (Nat.le_of_ble_eq_true rfl) (by decide) (by decide) (Nat.zero_le _) (Nat.zero_le _) ?_
      refine J_istore_n (pc' := 23) (lv' := [(1, .int (mxI x1 v18)), (0, .ref x0), (2, .int x2)]) C dX6_dearestPrice_22 rfl rfl (by decide) rfl ?_
      refine J_iinc (pc' := 26) (lv' := [(2, .int (x2 + 1)), (1, .int (mxI x1 v18)), (0, .ref x0)]) C 2 dX6_dearestPrice_23 rfl rfl rfl (by decide) rfl ?_
      refine J_goto (tgt := 4) C dX6_dearestPrice_26 (by decide) ?_
      refine J_sub (lv' := [(0, .ref x0), (1, .int (mxI x1 v18)), (2, .int (x2 + 1))]) [2, 1, 0] rfl ?_
      exact ih _ _ _ _ _ _ h
def f_X6_dearestPrice (N : Nat) (a0 : Nat) (M : A_M) : Option (Int32 × A_M) :=
  f_X6_dearestPrice_L4 N N a0 (0 : Int32) (0 : Int32) M
set_option maxHeartbeats 4000000 in
set_option maxRecDepth 100000 in
theorem ok_X6_dearestPrice (N : Nat) {a0 : Nat} {M : A_M} {r : Int32} {M' : A_M} (h : f_X6_dearestPrice N a0 M = some (r, M')) : Runs yX6_dearestPrice cX6_dearestPrice 3 (some .int) 1 23 0 0 [.ref a0] M (some (.int r)) M' := by
  refine Runs.intro (by decide) (Nat.le_of_ble_eq_true rfl) (fun X C hnm hMC hMS => ?_)
  have C : Cx X cX6_dearestPrice RX6 3 (some .int) 1 23 := C
  show J X 3 0 [(0, .ref a0)] [] M 0 0 (some (.int r)) M'
  unfold f_X6_dearestPrice at h
  refine J_iconst (pc' := 1) (v := (0 : Int32)) C dX6_dearestPrice_0 rfl (by decide) ?_
  refine J_istore_n (pc' := 2) (lv' := [(1, .int (0 : Int32)), (0, .ref a0)]) C dX6_dearestPrice_1 rfl rfl (by decide) rfl ?_
  refine J_iconst (pc' := 3) (v := (0 : Int32)) C dX6_dearestPrice_2 rfl (by decide) ?_
  refine J_istore_n (pc' := 4) (lv' := [(2, .int (0 : Int32)), (1, .int (0 : Int32)), (0, .ref a0)]) C dX6_dearestPrice_3 rfl rfl (by decide) rfl ?_
  refine J_sub (lv' := [(0, .ref a0), (1, .int (0 : Int32)), (2, .int (0 : Int32))]) [2, 1, 0] rfl ?_
  exact ok_X6_dearestPrice_L4 C N N _ _ _ _ _ _ h
def f_X6_canBuild (N : Nat) (a0 : Nat) (a1 : Int32) (M : A_M) : Option (Int32 × A_M) :=
  (chk M a0 6).bind fun _ =>
  bnd2 (f_X6_hasSignsAndThings N a0 M) fun v1 M1 =>
  if v1 = 0 then
  (some ((0 : Int32), M1))
  else
  (if a1 = 0 then
  ((chk M1 a0 6).bind fun _ =>
  bnd2 (f_X6_pricesUnlike N a0 M1) fun v14 M14 =>
  if v14 = 0 then
  (some ((1 : Int32), M14))
  else
  ((gI M14 a0 6 11).bind fun v21 =>
  if (8 : Int32) < v21 then
  (some ((0 : Int32), M14))
  else
  ((chk M14 a0 6).bind fun _ =>
  bnd2 (f_X6_dearestPrice N a0 M14) fun v30 M30 =>
  if (3 : Int32) < v30 then
  (some ((0 : Int32), M30))
  else
  (some ((1 : Int32), M30)))))
  else
  (if a1 = (1 : Int32) then
  ((chk M1 a0 6).bind fun _ =>
  bnd2 (f_X6_dearestPrice N a0 M1) fun v49 M49 =>
  if v49 = (1 : Int32) then
  (some ((1 : Int32), M49))
  else
  (some ((0 : Int32), M49)))
  else
  (some ((1 : Int32), M1))))
set_option maxHeartbeats 4000000 in
set_option maxRecDepth 100000 in
theorem ok_X6_canBuild (N : Nat) {a0 : Nat} {a1 : Int32} {M : A_M} {r : Int32} {M' : A_M} (h : f_X6_canBuild N a0 a1 M = some (r, M')) : Runs yX6_canBuild cX6_canBuild 2 (some .boolean) 2 45 0 0 [.ref a0, .int a1] M (some (.int r)) M' := by
  refine Runs.intro (by decide) (Nat.le_of_ble_eq_true rfl) (fun X C hnm hMC hMS => ?_)
  have C : Cx X cX6_canBuild RX6 2 (some .boolean) 2 45 := C
  show J X 2 0 [(0, .ref a0), (1, .int a1)] [] M 0 0 (some (.int r)) M'
  unfold f_X6_canBuild at h
  refine J_aload_n (pc' := 1) C 0 dX6_canBuild_0 rfl rfl rfl ?_
  obtain ⟨_, q1, h⟩ := bd h
  obtain ⟨v1, M1, e1, h⟩ := bd2 h
  refine J_cV (pc' := 4) (st := []) (st2 := [.int v1]) (cs2 := 0) (sl2 := 0) C 6 rfl rfl q1 (ok_X6_hasSignsAndThings N e1) mw_X6_hasSignsAndThings wq_299 rfl dX6_canBuild_1 rfl rfl (Nat.le_of_ble_eq_true rfl) (by decide) (by decide) rfl rfl rfl (Nat.zero_le _) (Nat.zero_le _) ?_
  refine J_if_ne (tgt := 9) (pc' := 7) C dX6_canBuild_4 (by decide) rfl (fun c4 => ?_) (fun c4 => ?_)
  · rw [if_neg c4] at h
    refine J_iload_n (pc' := 10) C 1 dX6_canBuild_9 rfl rfl rfl ?_
    refine J_if_ne (tgt := 43) (pc' := 13) C dX6_canBuild_10 (by decide) rfl (fun c10 => ?_) (fun c10 => ?_)
    · rw [if_neg c10] at h
      refine J_iload_n (pc' := 44) C 1 dX6_canBuild_43 rfl rfl rfl ?_
      refine J_iconst (pc' := 45) (v := (1 : Int32)) C dX6_canBuild_44 rfl (by decide) ?_
      refine J_icmp_ne (tgt := 56) (pc' := 48) C dX6_canBuild_45 (by decide) rfl (fun c45 => ?_) (fun c45 => ?_)
      · rw [if_neg c45] at h
        refine J_iconst (pc' := 57) (v := (1 : Int32)) C dX6_canBuild_56 rfl (by decide) ?_
        refine J_goto (tgt := 61) C dX6_canBuild_57 (by decide) ?_
        obtain ⟨rfl, rfl⟩ := rt2 h
        exact J_zret C rfl dX6_canBuild_61 (Nat.zero_le _) (Nat.zero_le _)
      · rw [if_pos c45] at h
        refine J_aload_n (pc' := 49) C 0 dX6_canBuild_48 rfl rfl rfl ?_
        obtain ⟨_, q49, h⟩ := bd h
        obtain ⟨v49, M49, e49, h⟩ := bd2 h
        refine J_cV (pc' := 52) (st := []) (st2 := [.int v49]) (cs2 := 0) (sl2 := 0) C 6 rfl rfl q49 (ok_X6_dearestPrice N e49) mw_X6_dearestPrice wq_307 rfl dX6_canBuild_49 rfl rfl (Nat.le_of_ble_eq_true rfl) (by decide) (by decide) rfl rfl rfl (Nat.zero_le _) (Nat.zero_le _) ?_
        refine J_iconst (pc' := 53) (v := (1 : Int32)) C dX6_canBuild_52 rfl (by decide) ?_
        refine J_icmp_ne (tgt := 60) (pc' := 56) C dX6_canBuild_53 (by decide) rfl (fun c53 => ?_) (fun c53 => ?_)
        · rw [if_neg c53] at h
          refine J_iconst (pc' := 61) (v := (0 : Int32)) C dX6_canBuild_60 rfl (by decide) ?_
          obtain ⟨rfl, rfl⟩ := rt2 h
          exact J_zret C rfl dX6_canBuild_61 (Nat.zero_le _) (Nat.zero_le _)
        · rw [if_pos c53] at h
          refine J_iconst (pc' := 57) (v := (1 : Int32)) C dX6_canBuild_56 rfl (by decide) ?_
          refine J_goto (tgt := 61) C dX6_canBuild_57 (by decide) ?_
          obtain ⟨rfl, rfl⟩ := rt2 h
          exact J_zret C rfl dX6_canBuild_61 (Nat.zero_le _) (Nat.zero_le _)
    · rw [if_pos c10] at h
      refine J_aload_n (pc' := 14) C 0 dX6_canBuild_13 rfl rfl rfl ?_
      obtain ⟨_, q14, h⟩ := bd h
      obtain ⟨v14, M14, e14, h⟩ := bd2 h
      refine J_cV (pc' := 17) (st := []) (st2 := [.int v14]) (cs2 := 0) (sl2 := 0) C 6 rfl rfl q14 (ok_X6_pricesUnlike N e14) mw_X6_pricesUnlike wq_303 rfl dX6_canBuild_14 rfl rfl (Nat.le_of_ble_eq_true rfl) (by decide) (by decide) rfl rfl rfl (Nat.zero_le _) (Nat.zero_le _) ?_
      refine J_if_eq (tgt := 37) (pc' := 20) C dX6_canBuild_17 (by decide) rfl (fun c17 => ?_) (fun c17 => ?_)
      · rw [if_pos c17] at h
        refine J_iconst (pc' := 38) (v := (1 : Int32)) C dX6_canBuild_37 rfl (by decide) ?_
        refine J_goto (tgt := 42) C dX6_canBuild_38 (by decide) ?_
        obtain ⟨rfl, rfl⟩ := rt2 h
        exact J_zret C rfl dX6_canBuild_42 (Nat.zero_le _) (Nat.zero_le _)
      · rw [if_neg c17] at h
        refine J_aload_n (pc' := 21) C 0 dX6_canBuild_20 rfl rfl rfl ?_
        obtain ⟨v21, e21, h⟩ := bd h
        refine jg_201 (pc' := 24) C dX6_canBuild_21 rfl (gI_some e21) ?_
        refine J_bipush (pc' := 26) (v := (8 : Int32)) C dX6_canBuild_24 rfl (by decide) ?_
        refine J_icmp_gt (tgt := 41) (pc' := 29) C dX6_canBuild_26 (by decide) rfl (fun c26 => ?_) (fun c26 => ?_)
        · rw [if_pos c26] at h
          refine J_iconst (pc' := 42) (v := (0 : Int32)) C dX6_canBuild_41 rfl (by decide) ?_
          obtain ⟨rfl, rfl⟩ := rt2 h
          exact J_zret C rfl dX6_canBuild_42 (Nat.zero_le _) (Nat.zero_le _)
        · rw [if_neg c26] at h
          refine J_aload_n (pc' := 30) C 0 dX6_canBuild_29 rfl rfl rfl ?_
          obtain ⟨_, q30, h⟩ := bd h
          obtain ⟨v30, M30, e30, h⟩ := bd2 h
          refine J_cV (pc' := 33) (st := []) (st2 := [.int v30]) (cs2 := 0) (sl2 := 0) C 6 rfl rfl q30 (ok_X6_dearestPrice N e30) mw_X6_dearestPrice wq_307 rfl dX6_canBuild_30 rfl rfl (Nat.le_of_ble_eq_true rfl) (by decide) (by decide) rfl rfl rfl (Nat.zero_le _) (Nat.zero_le _) ?_
          refine J_iconst (pc' := 34) (v := (3 : Int32)) C dX6_canBuild_33 rfl (by decide) ?_
          refine J_icmp_gt (tgt := 41) (pc' := 37) C dX6_canBuild_34 (by decide) rfl (fun c34 => ?_) (fun c34 => ?_)
          · rw [if_pos c34] at h
            refine J_iconst (pc' := 42) (v := (0 : Int32)) C dX6_canBuild_41 rfl (by decide) ?_
            obtain ⟨rfl, rfl⟩ := rt2 h
            exact J_zret C rfl dX6_canBuild_42 (Nat.zero_le _) (Nat.zero_le _)
          · rw [if_neg c34] at h
            refine J_iconst (pc' := 38) (v := (1 : Int32)) C dX6_canBuild_37 rfl (by decide) ?_
            refine J_goto (tgt := 42) C dX6_canBuild_38 (by decide) ?_
            obtain ⟨rfl, rfl⟩ := rt2 h
            exact J_zret C rfl dX6_canBuild_42 (Nat.zero_le _) (Nat.zero_le _)
  · rw [if_pos c4] at h
    refine J_iconst (pc' := 8) (v := (0 : Int32)) C dX6_canBuild_7 rfl (by decide) ?_
    obtain ⟨rfl, rfl⟩ := rt2 h
    exact J_zret C rfl dX6_canBuild_8 (Nat.zero_le _) (Nat.zero_le _)
def f_X6_makeEnded_K154 (N : Nat) (k32 : Nat → Nat → Int32 → Int32 → A_M → Option A_M) (k109 : Nat → Nat → Int32 → Int32 → Int64 → Int32 → Int32 → Int32 → A_M → Option A_M) (x0 : Nat) (x1 : Nat) (x2 : Int32) (x3 : Int32) (x4 : Int64) (x6 : Int32) (x7 : Int32) (x8 : Int32) (M : A_M) : Option A_M :=
  k109 x0 x1 x2 x3 x4 x6 x7 (x8 + 1) M
set_option maxHeartbeats 4000000 in
set_option maxRecDepth 100000 in
theorem ok_X6_makeEnded_K154 {X : JX} (C : Cx X cX6_makeEnded RX6 9 none 3 69) (N : Nat) {k32 : Nat → Nat → Int32 → Int32 → A_M → Option A_M} (hk32 : ∀ (x0 : Nat) (x1 : Nat) (x2 : Int32) (x3 : Int32) (M : A_M) (M' : A_M), k32 x0 x1 x2 x3 M = some M' → J X 9 32 [(0, .ref x0), (1, .ref x1), (2, .int x2), (3, .int x3)] [] M 0 0 none M') {k109 : Nat → Nat → Int32 → Int32 → Int64 → Int32 → Int32 → Int32 → A_M → Option A_M} (hk109 : ∀ (x0 : Nat) (x1 : Nat) (x2 : Int32) (x3 : Int32) (x4 : Int64) (x6 : Int32) (x7 : Int32) (x8 : Int32) (M : A_M) (M' : A_M), k109 x0 x1 x2 x3 x4 x6 x7 x8 M = some M' → J X 9 109 [(0, .ref x0), (1, .ref x1), (2, .int x2), (3, .int x3), (4, .long x4), (6, .int x6), (7, .int x7), (8, .int x8)] [] M 0 0 none M') : ∀ (x0 : Nat) (x1 : Nat) (x2 : Int32) (x3 : Int32) (x4 : Int64) (x6 : Int32) (x7 : Int32) (x8 : Int32) (M : A_M) (M' : A_M), f_X6_makeEnded_K154 N k32 k109 x0 x1 x2 x3 x4 x6 x7 x8 M = some M' → J X 9 154 [(0, .ref x0), (1, .ref x1), (2, .int x2), (3, .int x3), (4, .long x4), (6, .int x6), (7, .int x7), (8, .int x8)] [] M 0 0 none M' := by
  intro x0 x1 x2 x3 x4 x6 x7 x8 M M' h
  unfold f_X6_makeEnded_K154 at h
  refine J_iinc (pc' := 157) (lv' := [(8, .int (x8 + 1)), (0, .ref x0), (1, .ref x1), (2, .int x2), (3, .int x3), (4, .long x4), (6, .int x6), (7, .int x7)]) C 7 dX6_makeEnded_154 rfl rfl rfl (by decide) rfl ?_
  refine J_goto (tgt := 109) C dX6_makeEnded_157 (by decide) ?_
  refine J_sub (lv' := [(0, .ref x0), (1, .ref x1), (2, .int x2), (3, .int x3), (4, .long x4), (6, .int x6), (7, .int x7), (8, .int (x8 + 1))]) [1, 2, 3, 4, 5, 6, 7, 0] rfl ?_
  exact hk109 _ _ _ _ _ _ _ _ _ _ h
def f_X6_makeEnded_K160 (N : Nat) (k32 : Nat → Nat → Int32 → Int32 → A_M → Option A_M) (x0 : Nat) (x1 : Nat) (x2 : Int32) (x3 : Int32) (M : A_M) : Option A_M :=
  k32 x0 x1 x2 (x3 + 1) M
set_option maxHeartbeats 4000000 in
set_option maxRecDepth 100000 in
theorem ok_X6_makeEnded_K160 {X : JX} (C : Cx X cX6_makeEnded RX6 9 none 3 69) (N : Nat) {k32 : Nat → Nat → Int32 → Int32 → A_M → Option A_M} (hk32 : ∀ (x0 : Nat) (x1 : Nat) (x2 : Int32) (x3 : Int32) (M : A_M) (M' : A_M), k32 x0 x1 x2 x3 M = some M' → J X 9 32 [(0, .ref x0), (1, .ref x1), (2, .int x2), (3, .int x3)] [] M 0 0 none M') : ∀ (x0 : Nat) (x1 : Nat) (x2 : Int32) (x3 : Int32) (M : A_M) (M' : A_M), f_X6_makeEnded_K160 N k32 x0 x1 x2 x3 M = some M' → J X 9 160 [(0, .ref x0), (1, .ref x1), (2, .int x2), (3, .int x3)] [] M 0 0 none M' := by
  intro x0 x1 x2 x3 M M' h
  unfold f_X6_makeEnded_K160 at h
  refine J_iinc (pc' := 163) (lv' := [(3, .int (x3 + 1)), (0, .ref x0), (1, .ref x1), (2, .int x2)]) C 3 dX6_makeEnded_160 rfl rfl rfl (by decide) rfl ?_
  refine J_goto (tgt := 32) C dX6_makeEnded_163 (by decide) ?_
  refine J_sub (lv' := [(0, .ref x0), (1, .ref x1), (2, .int x2), (3, .int (x3 + 1))]) [1, 2, 3, 0] rfl ?_
  exact hk32 _ _ _ _ _ _ h
def f_X6_makeEnded_L109 (N : Nat) (k32 : Nat → Nat → Int32 → Int32 → A_M → Option A_M) : Nat → Nat → Nat → Int32 → Int32 → Int64 → Int32 → Int32 → Int32 → A_M → Option A_M
  | 0, _, _, _, _, _, _, _, _, _ => none
  | n + 1, x0, x1, x2, x3, x4, x6, x7, x8, M =>
    (gI M x0 6 10).bind fun v112 =>
    if v112 ≤ x8 then
    (f_X6_makeEnded_K160 N k32 x0 x1 x2 x3 M)
    else
    (if x8 = x2 then
    (f_X6_makeEnded_K154 N k32 (f_X6_makeEnded_L109 N k32 n) x0 x1 x2 x3 x4 x6 x7 x8 M)
    else
    ((gR M x0 6 6).bind fun v125 =>
    bnd2 (f_X6_rowAndSign N x4 x6 x8 M) fun v134 M134 =>
    (gR M134 x0 6 0).bind fun v144 =>
    (ldI M134 v144 x8).bind fun v149 =>
    (chk M134 v125 3).bind fun _ =>
    (f_X3_insert N v125 v134 (x6 + (1 : Int32)) (x7 + v149) M134).bind fun M151 =>
    f_X6_makeEnded_K154 N k32 (f_X6_makeEnded_L109 N k32 n) x0 x1 x2 x3 x4 x6 x7 x8 M151))
set_option maxHeartbeats 4000000 in
set_option maxRecDepth 100000 in
theorem ok_X6_makeEnded_L109 {X : JX} (C : Cx X cX6_makeEnded RX6 9 none 3 69) (N : Nat) {k32 : Nat → Nat → Int32 → Int32 → A_M → Option A_M} (hk32 : ∀ (x0 : Nat) (x1 : Nat) (x2 : Int32) (x3 : Int32) (M : A_M) (M' : A_M), k32 x0 x1 x2 x3 M = some M' → J X 9 32 [(0, .ref x0), (1, .ref x1), (2, .int x2), (3, .int x3)] [] M 0 0 none M') : ∀ (n : Nat) (x0 : Nat) (x1 : Nat) (x2 : Int32) (x3 : Int32) (x4 : Int64) (x6 : Int32) (x7 : Int32) (x8 : Int32) (M : A_M) (M' : A_M), f_X6_makeEnded_L109 N k32 n x0 x1 x2 x3 x4 x6 x7 x8 M = some M' → J X 9 109 [(0, .ref x0), (1, .ref x1), (2, .int x2), (3, .int x3), (4, .long x4), (6, .int x6), (7, .int x7), (8, .int x8)] [] M 0 0 none M' := by
  intro n
  induction n with
  | zero =>
    intro x0 x1 x2 x3 x4 x6 x7 x8 M M' h
    cases h
  | succ n ih =>
    intro x0 x1 x2 x3 x4 x6 x7 x8 M M' h
    rw [f_X6_makeEnded_L109] at h
    refine J_iload (pc' := 111) C 7 dX6_makeEnded_109 rfl rfl ?_
    refine J_aload_n (pc' := 112) C 0 dX6_makeEnded_111 rfl rfl rfl ?_
    obtain ⟨v112, e112, h⟩ := bd h
    refine jg_200 (pc' := 115) C dX6_makeEnded_112 rfl (gI_some e112) ?_
    refine J_icmp_ge (tgt := 160) (pc' := 118) C dX6_makeEnded_115 (by decide) rfl (fun c115 => ?_) (fun c115 => ?_)
    · rw [if_pos c115] at h
      refine J_sub (lv' := [(0, .ref x0), (1, .ref x1), (2, .int x2), (3, .int x3)]) [0, 1, 2, 3] rfl ?_
      exact ok_X6_makeEnded_K160 C N hk32 _ _ _ _ _ _ h
    · rw [if_neg c115] at h
      refine J_iload (pc' := 120) C 7 dX6_makeEnded_118 rfl rfl ?_
      refine J_iload_n (pc' := 121) C 2 dX6_makeEnded_120 rfl rfl rfl ?_
      refine J_icmp_eq (tgt := 154) (pc' := 124) C dX6_makeEnded_121 (by decide) rfl (fun c121 => ?_) (fun c121 => ?_)
      · rw [if_pos c121] at h
        refine J_sub (lv' := [(0, .ref x0), (1, .ref x1), (2, .int x2), (3, .int x3), (4, .long x4), (6, .int x6), (7, .int x7), (8, .int x8)]) [0, 1, 2, 3, 4, 5, 6, 7] rfl ?_
        exact ok_X6_makeEnded_K154 C N hk32 ih _ _ _ _ _ _ _ _ _ _ h
      · rw [if_neg c121] at h
        refine J_aload_n (pc' := 125) C 0 dX6_makeEnded_124 rfl rfl rfl ?_
        obtain ⟨v125, e125, h⟩ := bd h
        refine jg_196 (pc' := 128) C dX6_makeEnded_125 rfl (gR_some e125) ?_
        refine J_lload (pc' := 130) C 4 dX6_makeEnded_128 rfl rfl ?_
        refine J_iload (pc' := 132) C 5 dX6_makeEnded_130 rfl rfl ?_
        refine J_iload (pc' := 134) C 7 dX6_makeEnded_132 rfl rfl ?_
        obtain ⟨v134, M134, e134, h⟩ := bd2 h
        refine J_cS (pc' := 137) (st := [.ref v125]) (st2 := [.long v134, .ref v125]) (cs2 := 0) (sl2 := 0) C (ok_X6_rowAndSign N e134) mw_X6_rowAndSign wq_535 rfl dX6_makeEnded_134 rfl rfl (Nat.le_of_ble_eq_true rfl) (by decide) (by decide) rfl rfl rfl (Nat.zero_le _) (Nat.zero_le _) ?_
        refine J_iload (pc' := 139) C 5 dX6_makeEnded_137 rfl rfl ?_
        refine J_iconst (pc' := 140) (v := (1 : Int32)) C dX6_makeEnded_139 rfl (by decide) ?_
        refine J_iadd (pc' := 141) C dX6_makeEnded_140 rfl ?_
        refine J_iload (pc' := 143) C 6 dX6_makeEnded_141 rfl rfl ?_
        refine J_aload_n (pc' := 144) C 0 dX6_makeEnded_143 rfl rfl rfl ?_
        obtain ⟨v144, e144, h⟩ := bd h
        refine jg_190 (pc' := 147) C dX6_makeEnded_144 rfl (gR_some e144) ?_
        refine J_iload (pc' := 149) C 7 dX6_makeEnded_147 rfl rfl ?_
        obtain ⟨v149, e149, h⟩ := bd h
        refine J_iald (pc' := 150) C dX6_makeEnded_149 rfl e149 ?_
        refine J_iadd (pc' := 151) C dX6_makeEnded_150 rfl ?_
        obtain ⟨_, q151, h⟩ := bd h
        obtain ⟨M151, e151, h⟩ := bd h
        refine J_cV (pc' := 154) (st := []) (st2 := []) (cs2 := 0) (sl2 := 0) C 3 rfl rfl q151 (ok_X3_insert N e151) mw_X3_insert wq_537 rfl dX6_makeEnded_151 rfl rfl (Nat.le_of_ble_eq_true rfl) (by decide) (by decide) rfl rfl rfl (Nat.zero_le _) (Nat.zero_le _) ?_
        refine J_sub (lv' := [(0, .ref x0), (1, .ref x1), (2, .int x2), (3, .int x3), (4, .long x4), (6, .int x6), (7, .int x7), (8, .int x8)]) [0, 1, 2, 3, 4, 5, 6, 7] rfl ?_
        exact ok_X6_makeEnded_K154 C N hk32 ih _ _ _ _ _ _ _ _ _ _ h
def f_X6_makeEnded_L32 (N : Nat) : Nat → Nat → Nat → Int32 → Int32 → A_M → Option A_M
  | 0, _, _, _, _, _ => none
  | n + 1, x0, x1, x2, x3, M =>
    (gI M x0 6 11).bind fun v34 =>
    if v34 ≤ x3 then
    (some M)
    else
    ((gR M x0 6 6).bind fun v41 =>
    (chk M v41 3).bind fun _ =>
    bnd2 (f_X3_isAny N v41 M) fun v44 M44 =>
    if v44 = 0 then
    (some M44)
    else
    ((gR M44 x0 6 6).bind fun v51 =>
    (chk M44 v51 3).bind fun _ =>
    bnd2 (f_X3_firstRow N v51 M44) fun v54 M54 =>
    (gR M54 x0 6 6).bind fun v60 =>
    (chk M54 v60 3).bind fun _ =>
    bnd2 (f_X3_firstSize N v60 M54) fun v63 M63 =>
    (gR M63 x0 6 6).bind fun v69 =>
    (chk M63 v69 3).bind fun _ =>
    bnd2 (f_X3_firstLevel N v69 M63) fun v72 M72 =>
    (gR M72 x0 6 6).bind fun v78 =>
    (chk M72 v78 3).bind fun _ =>
    (f_X3_dropFirst N v78 M72).bind fun M81 =>
    (gR M81 x0 6 2).bind fun v86 =>
    (ldI M81 v86 x3).bind fun v90 =>
    bnd2 (f_X6_rowAndSign N v54 v63 x2 M81) fun v96 M96 =>
    (chk M96 x1 0).bind fun _ =>
    (f_X0_giveWord N x1 v90 v96 (v63 + (1 : Int32)) M96).bind fun M103 =>
    f_X6_makeEnded_L109 N (f_X6_makeEnded_L32 N n) N x0 x1 x2 x3 v54 v63 v72 (0 : Int32) M103))
set_option maxHeartbeats 4000000 in
set_option maxRecDepth 100000 in
theorem ok_X6_makeEnded_L32 {X : JX} (C : Cx X cX6_makeEnded RX6 9 none 3 69) (N : Nat) : ∀ (n : Nat) (x0 : Nat) (x1 : Nat) (x2 : Int32) (x3 : Int32) (M : A_M) (M' : A_M), f_X6_makeEnded_L32 N n x0 x1 x2 x3 M = some M' → J X 9 32 [(0, .ref x0), (1, .ref x1), (2, .int x2), (3, .int x3)] [] M 0 0 none M' := by
  intro n
  induction n with
  | zero =>
    intro x0 x1 x2 x3 M M' h
    cases h
  | succ n ih =>
    intro x0 x1 x2 x3 M M' h
    rw [f_X6_makeEnded_L32] at h
    refine J_iload_n (pc' := 33) C 3 dX6_makeEnded_32 rfl rfl rfl ?_
    refine J_aload_n (pc' := 34) C 0 dX6_makeEnded_33 rfl rfl rfl ?_
    obtain ⟨v34, e34, h⟩ := bd h
    refine jg_201 (pc' := 37) C dX6_makeEnded_34 rfl (gI_some e34) ?_
    refine J_icmp_ge (tgt := 166) (pc' := 40) C dX6_makeEnded_37 (by decide) rfl (fun c37 => ?_) (fun c37 => ?_)
    · rw [if_pos c37] at h
      obtain rfl := rt1 h
      exact J_vret C dX6_makeEnded_166 (Nat.zero_le _) (Nat.zero_le _)
    · rw [if_neg c37] at h
      refine J_aload_n (pc' := 41) C 0 dX6_makeEnded_40 rfl rfl rfl ?_
      obtain ⟨v41, e41, h⟩ := bd h
      refine jg_196 (pc' := 44) C dX6_makeEnded_41 rfl (gR_some e41) ?_
      obtain ⟨_, q44, h⟩ := bd h
      obtain ⟨v44, M44, e44, h⟩ := bd2 h
      refine J_cV (pc' := 47) (st := []) (st2 := [.int v44]) (cs2 := 0) (sl2 := 0) C 3 rfl rfl q44 (ok_X3_isAny N e44) mw_X3_isAny wq_530 rfl dX6_makeEnded_44 rfl rfl (Nat.le_of_ble_eq_true rfl) (by decide) (by decide) rfl rfl rfl (Nat.zero_le _) (Nat.zero_le _) ?_
      refine J_if_eq (tgt := 166) (pc' := 50) C dX6_makeEnded_47 (by decide) rfl (fun c47 => ?_) (fun c47 => ?_)
      · rw [if_pos c47] at h
        obtain rfl := rt1 h
        exact J_vret C dX6_makeEnded_166 (Nat.zero_le _) (Nat.zero_le _)
      · rw [if_neg c47] at h
        refine J_aload_n (pc' := 51) C 0 dX6_makeEnded_50 rfl rfl rfl ?_
        obtain ⟨v51, e51, h⟩ := bd h
        refine jg_196 (pc' := 54) C dX6_makeEnded_51 rfl (gR_some e51) ?_
        obtain ⟨_, q54, h⟩ := bd h
        obtain ⟨v54, M54, e54, h⟩ := bd2 h
        refine J_cV (pc' := 57) (st := []) (st2 := [.long v54]) (cs2 := 0) (sl2 := 0) C 3 rfl rfl q54 (ok_X3_firstRow N e54) mw_X3_firstRow wq_531 rfl dX6_makeEnded_54 rfl rfl (Nat.le_of_ble_eq_true rfl) (by decide) (by decide) rfl rfl rfl (Nat.zero_le _) (Nat.zero_le _) ?_
        refine J_lstore (pc' := 59) (lv' := [(4, .long v54), (0, .ref x0), (1, .ref x1), (2, .int x2), (3, .int x3)]) C dX6_makeEnded_57 rfl (by decide) rfl ?_
        refine J_aload_n (pc' := 60) C 1 dX6_makeEnded_59 rfl rfl rfl ?_
        obtain ⟨v60, e60, h⟩ := bd h
        refine jg_196 (pc' := 63) C dX6_makeEnded_60 rfl (gR_some e60) ?_
        obtain ⟨_, q63, h⟩ := bd h
        obtain ⟨v63, M63, e63, h⟩ := bd2 h
        refine J_cV (pc' := 66) (st := []) (st2 := [.int v63]) (cs2 := 0) (sl2 := 0) C 3 rfl rfl q63 (ok_X3_firstSize N e63) mw_X3_firstSize wq_532 rfl dX6_makeEnded_63 rfl rfl (Nat.le_of_ble_eq_true rfl) (by decide) (by decide) rfl rfl rfl (Nat.zero_le _) (Nat.zero_le _) ?_
        refine J_istore (pc' := 68) (lv' := [(6, .int v63), (4, .long v54), (0, .ref x0), (1, .ref x1), (2, .int x2), (3, .int x3)]) C dX6_makeEnded_66 rfl (by decide) rfl ?_
        refine J_aload_n (pc' := 69) C 2 dX6_makeEnded_68 rfl rfl rfl ?_
        obtain ⟨v69, e69, h⟩ := bd h
        refine jg_196 (pc' := 72) C dX6_makeEnded_69 rfl (gR_some e69) ?_
        obtain ⟨_, q72, h⟩ := bd h
        obtain ⟨v72, M72, e72, h⟩ := bd2 h
        refine J_cV (pc' := 75) (st := []) (st2 := [.int v72]) (cs2 := 0) (sl2 := 0) C 3 rfl rfl q72 (ok_X3_firstLevel N e72) mw_X3_firstLevel wq_533 rfl dX6_makeEnded_72 rfl rfl (Nat.le_of_ble_eq_true rfl) (by decide) (by decide) rfl rfl rfl (Nat.zero_le _) (Nat.zero_le _) ?_
        refine J_istore (pc' := 77) (lv' := [(7, .int v72), (6, .int v63), (4, .long v54), (0, .ref x0), (1, .ref x1), (2, .int x2), (3, .int x3)]) C dX6_makeEnded_75 rfl (by decide) rfl ?_
        refine J_aload_n (pc' := 78) C 3 dX6_makeEnded_77 rfl rfl rfl ?_
        obtain ⟨v78, e78, h⟩ := bd h
        refine jg_196 (pc' := 81) C dX6_makeEnded_78 rfl (gR_some e78) ?_
        obtain ⟨_, q81, h⟩ := bd h
        obtain ⟨M81, e81, h⟩ := bd h
        refine J_cV (pc' := 84) (st := []) (st2 := []) (cs2 := 0) (sl2 := 0) C 3 rfl rfl q81 (ok_X3_dropFirst N e81) mw_X3_dropFirst wq_534 rfl dX6_makeEnded_81 rfl rfl (Nat.le_of_ble_eq_true rfl) (by decide) (by decide) rfl rfl rfl (Nat.zero_le _) (Nat.zero_le _) ?_
        refine J_aload_n (pc' := 85) C 4 dX6_makeEnded_84 rfl rfl rfl ?_
        refine J_aload_n (pc' := 86) C 3 dX6_makeEnded_85 rfl rfl rfl ?_
        obtain ⟨v86, e86, h⟩ := bd h
        refine jg_192 (pc' := 89) C dX6_makeEnded_86 rfl (gR_some e86) ?_
        refine J_iload_n (pc' := 90) C 6 dX6_makeEnded_89 rfl rfl rfl ?_
        obtain ⟨v90, e90, h⟩ := bd h
        refine J_iald (pc' := 91) C dX6_makeEnded_90 rfl e90 ?_
        refine J_lload (pc' := 93) C 2 dX6_makeEnded_91 rfl rfl ?_
        refine J_iload (pc' := 95) C 1 dX6_makeEnded_93 rfl rfl ?_
        refine J_iload_n (pc' := 96) C 5 dX6_makeEnded_95 rfl rfl rfl ?_
        obtain ⟨v96, M96, e96, h⟩ := bd2 h
        refine J_cS (pc' := 99) (st := [.int v90, .ref x1]) (st2 := [.long v96, .int v90, .ref x1]) (cs2 := 0) (sl2 := 0) C (ok_X6_rowAndSign N e96) mw_X6_rowAndSign wq_535 rfl dX6_makeEnded_96 rfl rfl (Nat.le_of_ble_eq_true rfl) (by decide) (by decide) rfl rfl rfl (Nat.zero_le _) (Nat.zero_le _) ?_
        refine J_iload (pc' := 101) C 1 dX6_makeEnded_99 rfl rfl ?_
        refine J_iconst (pc' := 102) (v := (1 : Int32)) C dX6_makeEnded_101 rfl (by decide) ?_
        refine J_iadd (pc' := 103) C dX6_makeEnded_102 rfl ?_
        obtain ⟨_, q103, h⟩ := bd h
        obtain ⟨M103, e103, h⟩ := bd h
        refine J_cV (pc' := 106) (st := []) (st2 := []) (cs2 := 0) (sl2 := 0) C 0 rfl rfl q103 (ok_X0_giveWord N e103) mw_X0_giveWord wq_536 rfl dX6_makeEnded_103 rfl rfl (Nat.le_of_ble_eq_true rfl) (by decide) (by decide) rfl rfl rfl (Nat.zero_le _) (Nat.zero_le _) ?_
        refine J_iconst (pc' := 107) (v := (0 : Int32)) C dX6_makeEnded_106 rfl (by decide) ?_
        refine J_istore (pc' := 109) (lv' := [(8, .int (0 : Int32)), (7, .int v72), (6, .int v63), (4, .long v54), (0, .ref x0), (1, .ref x1), (2, .int x2), (3, .int x3)]) C dX6_makeEnded_107 rfl (by decide) rfl ?_
        refine J_sub (lv' := [(0, .ref x0), (1, .ref x1), (2, .int x2), (3, .int x3), (4, .long v54), (6, .int v63), (7, .int v72), (8, .int (0 : Int32))]) [4, 5, 6, 7, 3, 2, 1, 0] rfl ?_
        exact ok_X6_makeEnded_L109 C N ih N _ _ _ _ _ _ _ _ _ _ h
def f_X6_makeEnded (N : Nat) (a0 : Nat) (a1 : Nat) (a2 : Int32) (M : A_M) : Option A_M :=
  (gI M a0 6 11).bind fun v2 =>
  (chk M a1 0).bind fun _ =>
  (f_X0_begin N a1 v2 M).bind fun M5 =>
  (gR M5 a0 6 2).bind fun v9 =>
  (gR M5 a0 6 1).bind fun v13 =>
  (gI M5 a0 6 11).bind fun v17 =>
  (f_X6_rankThings N v9 v13 v17 M5).bind fun M20 =>
  (gR M20 a0 6 6).bind fun v24 =>
  (chk M20 v24 3).bind fun _ =>
  (f_X3_start N v24 M20).bind fun M27 =>
  f_X6_makeEnded_L32 N N a0 a1 a2 (0 : Int32) M27
set_option maxHeartbeats 4000000 in
set_option maxRecDepth 100000 in
theorem ok_X6_makeEnded (N : Nat) {a0 : Nat} {a1 : Nat} {a2 : Int32} {M : A_M} {M' : A_M} (h : f_X6_makeEnded N a0 a1 a2 M = some M') : Runs yX6_makeEnded cX6_makeEnded 9 none 3 69 0 0 [.ref a0, .ref a1, .int a2] M none M' := by
  refine Runs.intro (by decide) (Nat.le_of_ble_eq_true rfl) (fun X C hnm hMC hMS => ?_)
  have C : Cx X cX6_makeEnded RX6 9 none 3 69 := C
  show J X 9 0 [(0, .ref a0), (1, .ref a1), (2, .int a2)] [] M 0 0 none M'
  unfold f_X6_makeEnded at h
  refine J_aload_n (pc' := 1) C 1 dX6_makeEnded_0 rfl rfl rfl ?_
  refine J_aload_n (pc' := 2) C 0 dX6_makeEnded_1 rfl rfl rfl ?_
  obtain ⟨v2, e2, h⟩ := bd h
  refine jg_201 (pc' := 5) C dX6_makeEnded_2 rfl (gI_some e2) ?_
  obtain ⟨_, q5, h⟩ := bd h
  obtain ⟨M5, e5, h⟩ := bd h
  refine J_cV (pc' := 8) (st := []) (st2 := []) (cs2 := 0) (sl2 := 0) C 0 rfl rfl q5 (ok_X0_begin N e5) mw_X0_begin wq_253 rfl dX6_makeEnded_5 rfl rfl (Nat.le_of_ble_eq_true rfl) (by decide) (by decide) rfl rfl rfl (Nat.zero_le _) (Nat.zero_le _) ?_
  refine J_aload_n (pc' := 9) C 0 dX6_makeEnded_8 rfl rfl rfl ?_
  obtain ⟨v9, e9, h⟩ := bd h
  refine jg_192 (pc' := 12) C dX6_makeEnded_9 rfl (gR_some e9) ?_
  refine J_aload_n (pc' := 13) C 0 dX6_makeEnded_12 rfl rfl rfl ?_
  obtain ⟨v13, e13, h⟩ := bd h
  refine jg_191 (pc' := 16) C dX6_makeEnded_13 rfl (gR_some e13) ?_
  refine J_aload_n (pc' := 17) C 0 dX6_makeEnded_16 rfl rfl rfl ?_
  obtain ⟨v17, e17, h⟩ := bd h
  refine jg_201 (pc' := 20) C dX6_makeEnded_17 rfl (gI_some e17) ?_
  obtain ⟨M20, e20, h⟩ := bd h
  refine J_cS (pc' := 23) (st := []) (st2 := []) (cs2 := 0) (sl2 := 0) C (ok_X6_rankThings N e20) mw_X6_rankThings wq_528 rfl dX6_makeEnded_20 rfl rfl (Nat.le_of_ble_eq_true rfl) (by decide) (by decide) rfl rfl rfl (Nat.zero_le _) (Nat.zero_le _) ?_
  refine J_aload_n (pc' := 24) C 0 dX6_makeEnded_23 rfl rfl rfl ?_
  obtain ⟨v24, e24, h⟩ := bd h
  refine jg_196 (pc' := 27) C dX6_makeEnded_24 rfl (gR_some e24) ?_
  obtain ⟨_, q27, h⟩ := bd h
  obtain ⟨M27, e27, h⟩ := bd h
  refine J_cV (pc' := 30) (st := []) (st2 := []) (cs2 := 0) (sl2 := 0) C 3 rfl rfl q27 (ok_X3_start N e27) mw_X3_start wq_529 rfl dX6_makeEnded_27 rfl rfl (Nat.le_of_ble_eq_true rfl) (by decide) (by decide) rfl rfl rfl (Nat.zero_le _) (Nat.zero_le _) ?_
  refine J_iconst (pc' := 31) (v := (0 : Int32)) C dX6_makeEnded_30 rfl (by decide) ?_
  refine J_istore_n (pc' := 32) (lv' := [(3, .int (0 : Int32)), (0, .ref a0), (1, .ref a1), (2, .int a2)]) C dX6_makeEnded_31 rfl rfl (by decide) rfl ?_
  refine J_sub (lv' := [(0, .ref a0), (1, .ref a1), (2, .int a2), (3, .int (0 : Int32))]) [1, 2, 3, 0] rfl ?_
  exact ok_X6_makeEnded_L32 C N N _ _ _ _ _ _ h
def f_X6_handOver (N : Nat) (a0 : Nat) (a1 : Nat) (M : A_M) : Option A_M :=
  (gR M a0 6 7).bind fun v1 =>
  (chk M v1 0).bind fun _ =>
  (f_X0_take N v1 a1 M).bind fun M5 =>
  (pV M5 a0 6 12 (.int (0 : Int32))).bind fun M10 =>
  some M10
set_option maxHeartbeats 4000000 in
set_option maxRecDepth 100000 in
theorem ok_X6_handOver (N : Nat) {a0 : Nat} {a1 : Nat} {M : A_M} {M' : A_M} (h : f_X6_handOver N a0 a1 M = some M') : Runs yX6_handOver cX6_handOver 2 none 2 51 0 0 [.ref a0, .ref a1] M none M' := by
  refine Runs.intro (by decide) (Nat.le_of_ble_eq_true rfl) (fun X C hnm hMC hMS => ?_)
  have C : Cx X cX6_handOver RX6 2 none 2 51 := C
  show J X 2 0 [(0, .ref a0), (1, .ref a1)] [] M 0 0 none M'
  unfold f_X6_handOver at h
  refine J_aload_n (pc' := 1) C 0 dX6_handOver_0 rfl rfl rfl ?_
  obtain ⟨v1, e1, h⟩ := bd h
  refine jg_197 (pc' := 4) C dX6_handOver_1 rfl (gR_some e1) ?_
  refine J_aload_n (pc' := 5) C 1 dX6_handOver_4 rfl rfl rfl ?_
  obtain ⟨_, q5, h⟩ := bd h
  obtain ⟨M5, e5, h⟩ := bd h
  refine J_cV (pc' := 8) (st := []) (st2 := []) (cs2 := 0) (sl2 := 0) C 0 rfl rfl q5 (ok_X0_take N e5) mw_X0_take wq_542 rfl dX6_handOver_5 rfl rfl (Nat.le_of_ble_eq_true rfl) (by decide) (by decide) rfl rfl rfl (Nat.zero_le _) (Nat.zero_le _) ?_
  refine J_aload_n (pc' := 9) C 0 dX6_handOver_8 rfl rfl rfl ?_
  refine J_iconst (pc' := 10) (v := (0 : Int32)) C dX6_handOver_9 rfl (by decide) ?_
  obtain ⟨M10, e10, h⟩ := bd h
  refine jp_202 (pc' := 13) C (fun _ => ⟨rfl, rfl⟩) dX6_handOver_10 rfl e10 ?_
  obtain rfl := rt1 h
  exact J_vret C dX6_handOver_13 (Nat.zero_le _) (Nat.zero_le _)
def f_X6_costAtHand_K66 (N : Nat) (k4 : Nat → Int64 → Int32 → A_M → Option (Int64 × A_M)) (x0 : Nat) (x1 : Int64) (x3 : Int32) (x4 : Int64) (M : A_M) : Option (Int64 × A_M) :=
  (gR M x0 6 1).bind fun v68 =>
  (ldI M v68 x3).bind fun v72 =>
  k4 x0 (x1 + ((v72.toInt64) * x4)) (x3 + 1) M
set_option maxHeartbeats 4000000 in
set_option maxRecDepth 100000 in
theorem ok_X6_costAtHand_K66 {X : JX} (C : Cx X cX6_costAtHand RX6 7 (some .long) 1 22) (N : Nat) {k4 : Nat → Int64 → Int32 → A_M → Option (Int64 × A_M)} (hk4 : ∀ (x0 : Nat) (x1 : Int64) (x3 : Int32) (M : A_M) (r : Int64) (M' : A_M), k4 x0 x1 x3 M = some (r, M') → J X 7 4 [(0, .ref x0), (1, .long x1), (3, .int x3)] [] M 0 0 (some (.long r)) M') : ∀ (x0 : Nat) (x1 : Int64) (x3 : Int32) (x4 : Int64) (M : A_M) (r : Int64) (M' : A_M), f_X6_costAtHand_K66 N k4 x0 x1 x3 x4 M = some (r, M') → J X 7 66 [(0, .ref x0), (1, .long x1), (3, .int x3), (4, .long x4)] [] M 0 0 (some (.long r)) M' := by
  intro x0 x1 x3 x4 M r M' h
  unfold f_X6_costAtHand_K66 at h
  refine J_lload_n (pc' := 67) C 1 dX6_costAtHand_66 rfl rfl rfl ?_
  refine J_aload_n (pc' := 68) C 0 dX6_costAtHand_67 rfl rfl rfl ?_
  obtain ⟨v68, e68, h⟩ := bd h
  refine jg_191 (pc' := 71) C dX6_costAtHand_68 rfl (gR_some e68) ?_
  refine J_iload_n (pc' := 72) C 2 dX6_costAtHand_71 rfl rfl rfl ?_
  obtain ⟨v72, e72, h⟩ := bd h
  refine J_iald (pc' := 73) C dX6_costAtHand_72 rfl e72 ?_
  refine J_i2l (pc' := 74) C dX6_costAtHand_73 rfl ?_
  refine J_lload (pc' := 76) C 3 dX6_costAtHand_74 rfl rfl ?_
  refine J_lmul (pc' := 77) C dX6_costAtHand_76 rfl ?_
  refine J_ladd (pc' := 78) C dX6_costAtHand_77 rfl ?_
  refine J_lstore_n (pc' := 79) (lv' := [(1, .long (x1 + ((v72.toInt64) * x4))), (0, .ref x0), (3, .int x3), (4, .long x4)]) C dX6_costAtHand_78 rfl rfl (by decide) rfl ?_
  refine J_iinc (pc' := 82) (lv' := [(3, .int (x3 + 1)), (1, .long (x1 + ((v72.toInt64) * x4))), (0, .ref x0), (4, .long x4)]) C 2 dX6_costAtHand_79 rfl rfl rfl (by decide) rfl ?_
  refine J_goto (tgt := 4) C dX6_costAtHand_82 (by decide) ?_
  refine J_sub (lv' := [(0, .ref x0), (1, .long (x1 + ((v72.toInt64) * x4))), (3, .int (x3 + 1))]) [2, 1, 0] rfl ?_
  exact hk4 _ _ _ _ _ _ h
def f_X6_costAtHand_L21 (N : Nat) (k4 : Nat → Int64 → Int32 → A_M → Option (Int64 × A_M)) : Nat → Nat → Int64 → Int32 → Int64 → Int32 → A_M → Option (Int64 × A_M)
  | 0, _, _, _, _, _, _ => none
  | n + 1, x0, x1, x3, x4, x6, M =>
    (gR M x0 6 7).bind fun v24 =>
    (gR M v24 0 1).bind fun v27 =>
    (ldI M v27 x3).bind fun v31 =>
    if v31 ≤ x6 then
    (f_X6_costAtHand_K66 N k4 x0 x1 x3 x4 M)
    else
    ((gR M x0 6 0).bind fun v38 =>
    (gR M x0 6 7).bind fun v42 =>
    (gR M v42 0 0).bind fun v45 =>
    (ldJ M v45 x3).bind fun v49 =>
    bnd2 (f_X6_signOfRow N v49 x6 M) fun v52 M52 =>
    (ldI M52 v38 v52).bind fun v55 =>
    f_X6_costAtHand_L21 N k4 n x0 x1 x3 (x4 + (v55.toInt64)) (x6 + 1) M52)
set_option maxHeartbeats 4000000 in
set_option maxRecDepth 100000 in
theorem ok_X6_costAtHand_L21 {X : JX} (C : Cx X cX6_costAtHand RX6 7 (some .long) 1 22) (N : Nat) {k4 : Nat → Int64 → Int32 → A_M → Option (Int64 × A_M)} (hk4 : ∀ (x0 : Nat) (x1 : Int64) (x3 : Int32) (M : A_M) (r : Int64) (M' : A_M), k4 x0 x1 x3 M = some (r, M') → J X 7 4 [(0, .ref x0), (1, .long x1), (3, .int x3)] [] M 0 0 (some (.long r)) M') : ∀ (n : Nat) (x0 : Nat) (x1 : Int64) (x3 : Int32) (x4 : Int64) (x6 : Int32) (M : A_M) (r : Int64) (M' : A_M), f_X6_costAtHand_L21 N k4 n x0 x1 x3 x4 x6 M = some (r, M') → J X 7 21 [(0, .ref x0), (1, .long x1), (3, .int x3), (4, .long x4), (6, .int x6)] [] M 0 0 (some (.long r)) M' := by
  intro n
  induction n with
  | zero =>
    intro x0 x1 x3 x4 x6 M r M' h
    cases h
  | succ n ih =>
    intro x0 x1 x3 x4 x6 M r M' h
    rw [f_X6_costAtHand_L21] at h
    refine J_iload (pc' := 23) C 4 dX6_costAtHand_21 rfl rfl ?_
    refine J_aload_n (pc' := 24) C 0 dX6_costAtHand_23 rfl rfl rfl ?_
    obtain ⟨v24, e24, h⟩ := bd h
    refine jg_197 (pc' := 27) C dX6_costAtHand_24 rfl (gR_some e24) ?_
    obtain ⟨v27, e27, h⟩ := bd h
    refine jg_177 (pc' := 30) C dX6_costAtHand_27 rfl (gR_some e27) ?_
    refine J_iload_n (pc' := 31) C 2 dX6_costAtHand_30 rfl rfl rfl ?_
    obtain ⟨v31, e31, h⟩ := bd h
    refine J_iald (pc' := 32) C dX6_costAtHand_31 rfl e31 ?_
    refine J_icmp_ge (tgt := 66) (pc' := 35) C dX6_costAtHand_32 (by decide) rfl (fun c32 => ?_) (fun c32 => ?_)
    · rw [if_pos c32] at h
      refine J_sub (lv' := [(0, .ref x0), (1, .long x1), (3, .int x3), (4, .long x4)]) [0, 1, 2, 3] rfl ?_
      exact ok_X6_costAtHand_K66 C N hk4 _ _ _ _ _ _ _ h
    · rw [if_neg c32] at h
      refine J_lload (pc' := 37) C 3 dX6_costAtHand_35 rfl rfl ?_
      refine J_aload_n (pc' := 38) C 0 dX6_costAtHand_37 rfl rfl rfl ?_
      obtain ⟨v38, e38, h⟩ := bd h
      refine jg_190 (pc' := 41) C dX6_costAtHand_38 rfl (gR_some e38) ?_
      refine J_aload_n (pc' := 42) C 0 dX6_costAtHand_41 rfl rfl rfl ?_
      obtain ⟨v42, e42, h⟩ := bd h
      refine jg_197 (pc' := 45) C dX6_costAtHand_42 rfl (gR_some e42) ?_
      obtain ⟨v45, e45, h⟩ := bd h
      refine jg_173 (pc' := 48) C dX6_costAtHand_45 rfl (gR_some e45) ?_
      refine J_iload_n (pc' := 49) C 2 dX6_costAtHand_48 rfl rfl rfl ?_
      obtain ⟨v49, e49, h⟩ := bd h
      refine J_lald (pc' := 50) C dX6_costAtHand_49 rfl e49 ?_
      refine J_iload (pc' := 52) C 4 dX6_costAtHand_50 rfl rfl ?_
      obtain ⟨v52, M52, e52, h⟩ := bd2 h
      refine J_cS (pc' := 55) (st := [.ref v38, .long x4]) (st2 := [.int v52, .ref v38, .long x4]) (cs2 := 0) (sl2 := 0) C (ok_X6_signOfRow N e52) mw_X6_signOfRow wq_551 rfl dX6_costAtHand_52 rfl rfl (Nat.le_of_ble_eq_true rfl) (by decide) (by decide) rfl rfl rfl (Nat.zero_le _) (Nat.zero_le _) ?_
      obtain ⟨v55, e55, h⟩ := bd h
      refine J_iald (pc' := 56) C dX6_costAtHand_55 rfl e55 ?_
      refine J_i2l (pc' := 57) C dX6_costAtHand_56 rfl ?_
      refine J_ladd (pc' := 58) C dX6_costAtHand_57 rfl ?_
      refine J_lstore (pc' := 60) (lv' := [(4, .long (x4 + (v55.toInt64))), (0, .ref x0), (1, .long x1), (3, .int x3), (6, .int x6)]) C dX6_costAtHand_58 rfl (by decide) rfl ?_
      refine J_iinc (pc' := 63) (lv' := [(6, .int (x6 + 1)), (4, .long (x4 + (v55.toInt64))), (0, .ref x0), (1, .long x1), (3, .int x3)]) C 4 dX6_costAtHand_60 rfl rfl rfl (by decide) rfl ?_
      refine J_goto (tgt := 21) C dX6_costAtHand_63 (by decide) ?_
      refine J_sub (lv' := [(0, .ref x0), (1, .long x1), (3, .int x3), (4, .long (x4 + (v55.toInt64))), (6, .int (x6 + 1))]) [2, 3, 4, 1, 0] rfl ?_
      exact ih _ _ _ _ _ _ _ _ h
def f_X6_costAtHand_L4 (N : Nat) : Nat → Nat → Int64 → Int32 → A_M → Option (Int64 × A_M)
  | 0, _, _, _, _ => none
  | n + 1, x0, x1, x3, M =>
    (gR M x0 6 7).bind fun v6 =>
    (gI M v6 0 2).bind fun v9 =>
    if v9 ≤ x3 then
    (some (x1, M))
    else
    (f_X6_costAtHand_L21 N (f_X6_costAtHand_L4 N n) N x0 x1 x3 (0 : Int64) (0 : Int32) M)
set_option maxHeartbeats 4000000 in
set_option maxRecDepth 100000 in
theorem ok_X6_costAtHand_L4 {X : JX} (C : Cx X cX6_costAtHand RX6 7 (some .long) 1 22) (N : Nat) : ∀ (n : Nat) (x0 : Nat) (x1 : Int64) (x3 : Int32) (M : A_M) (r : Int64) (M' : A_M), f_X6_costAtHand_L4 N n x0 x1 x3 M = some (r, M') → J X 7 4 [(0, .ref x0), (1, .long x1), (3, .int x3)] [] M 0 0 (some (.long r)) M' := by
  intro n
  induction n with
  | zero =>
    intro x0 x1 x3 M r M' h
    cases h
  | succ n ih =>
    intro x0 x1 x3 M r M' h
    rw [f_X6_costAtHand_L4] at h
    refine J_iload_n (pc' := 5) C 2 dX6_costAtHand_4 rfl rfl rfl ?_
    refine J_aload_n (pc' := 6) C 0 dX6_costAtHand_5 rfl rfl rfl ?_
    obtain ⟨v6, e6, h⟩ := bd h
    refine jg_197 (pc' := 9) C dX6_costAtHand_6 rfl (gR_some e6) ?_
    obtain ⟨v9, e9, h⟩ := bd h
    refine jg_181 (pc' := 12) C dX6_costAtHand_9 rfl (gI_some e9) ?_
    refine J_icmp_ge (tgt := 85) (pc' := 15) C dX6_costAtHand_12 (by decide) rfl (fun c12 => ?_) (fun c12 => ?_)
    · rw [if_pos c12] at h
      refine J_lload_n (pc' := 86) C 1 dX6_costAtHand_85 rfl rfl rfl ?_
      obtain ⟨rfl, rfl⟩ := rt2 h
      exact J_lret C dX6_costAtHand_86 (Nat.zero_le _) (Nat.zero_le _)
    · rw [if_neg c12] at h
      refine J_lconst (pc' := 16) (v := (0 : Int64)) C dX6_costAtHand_15 rfl (by decide) ?_
      refine J_lstore (pc' := 18) (lv' := [(4, .long (0 : Int64)), (0, .ref x0), (1, .long x1), (3, .int x3)]) C dX6_costAtHand_16 rfl (by decide) rfl ?_
      refine J_iconst (pc' := 19) (v := (0 : Int32)) C dX6_costAtHand_18 rfl (by decide) ?_
      refine J_istore (pc' := 21) (lv' := [(6, .int (0 : Int32)), (4, .long (0 : Int64)), (0, .ref x0), (1, .long x1), (3, .int x3)]) C dX6_costAtHand_19 rfl (by decide) rfl ?_
      refine J_sub (lv' := [(0, .ref x0), (1, .long x1), (3, .int x3), (4, .long (0 : Int64)), (6, .int (0 : Int32))]) [2, 3, 4, 1, 0] rfl ?_
      exact ok_X6_costAtHand_L21 C N ih N _ _ _ _ _ _ _ _ h
def f_X6_costAtHand (N : Nat) (a0 : Nat) (M : A_M) : Option (Int64 × A_M) :=
  f_X6_costAtHand_L4 N N a0 (0 : Int64) (0 : Int32) M
set_option maxHeartbeats 4000000 in
set_option maxRecDepth 100000 in
theorem ok_X6_costAtHand (N : Nat) {a0 : Nat} {M : A_M} {r : Int64} {M' : A_M} (h : f_X6_costAtHand N a0 M = some (r, M')) : Runs yX6_costAtHand cX6_costAtHand 7 (some .long) 1 22 0 0 [.ref a0] M (some (.long r)) M' := by
  refine Runs.intro (by decide) (Nat.le_of_ble_eq_true rfl) (fun X C hnm hMC hMS => ?_)
  have C : Cx X cX6_costAtHand RX6 7 (some .long) 1 22 := C
  show J X 7 0 [(0, .ref a0)] [] M 0 0 (some (.long r)) M'
  unfold f_X6_costAtHand at h
  refine J_lconst (pc' := 1) (v := (0 : Int64)) C dX6_costAtHand_0 rfl (by decide) ?_
  refine J_lstore_n (pc' := 2) (lv' := [(1, .long (0 : Int64)), (0, .ref a0)]) C dX6_costAtHand_1 rfl rfl (by decide) rfl ?_
  refine J_iconst (pc' := 3) (v := (0 : Int32)) C dX6_costAtHand_2 rfl (by decide) ?_
  refine J_istore_n (pc' := 4) (lv' := [(3, .int (0 : Int32)), (1, .long (0 : Int64)), (0, .ref a0)]) C dX6_costAtHand_3 rfl rfl (by decide) rfl ?_
  refine J_sub (lv' := [(0, .ref a0), (1, .long (0 : Int64)), (3, .int (0 : Int32))]) [2, 1, 0] rfl ?_
  exact ok_X6_costAtHand_L4 C N N _ _ _ _ _ _ h
