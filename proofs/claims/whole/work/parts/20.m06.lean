def f_X6_own (N : Nat) (a0 : Nat) (M : A_M) : Option (Int32 × A_M) :=
  (chk M a0 6).bind fun _ =>
  bnd2 (f_X6_hasSignsAndThings N a0 M) fun v1 M1 =>
  if v1 = 0 then
  (some ((-3 : Int32), M1))
  else
  ((gR M1 a0 6 7).bind fun v11 =>
  (gI M1 a0 6 11).bind fun v15 =>
  (chk M1 v11 0).bind fun _ =>
  (f_X0_begin N v11 v15 M1).bind fun M18 =>
  (pV M18 a0 6 12 (.int (1 : Int32))).bind fun M23 =>
  (gI M23 a0 6 11).bind fun v27 =>
  some (v27, M23))
set_option maxHeartbeats 4000000 in
set_option maxRecDepth 100000 in
theorem ok_X6_own (N : Nat) {a0 : Nat} {M : A_M} {r : Int32} {M' : A_M} (h : f_X6_own N a0 M = some (r, M')) : Runs yX6_own cX6_own 1 (some .int) 2 45 0 0 [.ref a0] M (some (.int r)) M' := by
  refine Runs.intro (by decide) (Nat.le_of_ble_eq_true rfl) (fun X C hnm hMC hMS => ?_)
  have C : Cx X cX6_own RX6 1 (some .int) 2 45 := C
  show J X 1 0 [(0, .ref a0)] [] M 0 0 (some (.int r)) M'
  unfold f_X6_own at h
  refine J_aload_n (pc' := 1) C 0 dX6_own_0 rfl rfl rfl ?_
  obtain ⟨_, q1, h⟩ := bd h
  obtain ⟨v1, M1, e1, h⟩ := bd2 h
  refine J_cV (pc' := 4) (st := []) (st2 := [.int v1]) (cs2 := 0) (sl2 := 0) C 6 rfl rfl q1 (ok_X6_hasSignsAndThings N e1) mw_X6_hasSignsAndThings wq_299 rfl dX6_own_1 rfl rfl (Nat.le_of_ble_eq_true rfl) (by decide) (by decide) rfl rfl rfl (Nat.zero_le _) (Nat.zero_le _) ?_
  refine J_if_ne (tgt := 10) (pc' := 7) C dX6_own_4 (by decide) rfl (fun c4 => ?_) (fun c4 => ?_)
  · rw [if_neg c4] at h
    refine J_aload_n (pc' := 11) C 0 dX6_own_10 rfl rfl rfl ?_
    obtain ⟨v11, e11, h⟩ := bd h
    refine jg_197 (pc' := 14) C dX6_own_11 rfl (gR_some e11) ?_
    refine J_aload_n (pc' := 15) C 0 dX6_own_14 rfl rfl rfl ?_
    obtain ⟨v15, e15, h⟩ := bd h
    refine jg_201 (pc' := 18) C dX6_own_15 rfl (gI_some e15) ?_
    obtain ⟨_, q18, h⟩ := bd h
    obtain ⟨M18, e18, h⟩ := bd h
    refine J_cV (pc' := 21) (st := []) (st2 := []) (cs2 := 0) (sl2 := 0) C 0 rfl rfl q18 (ok_X0_begin N e18) mw_X0_begin wq_253 rfl dX6_own_18 rfl rfl (Nat.le_of_ble_eq_true rfl) (by decide) (by decide) rfl rfl rfl (Nat.zero_le _) (Nat.zero_le _) ?_
    refine J_aload_n (pc' := 22) C 0 dX6_own_21 rfl rfl rfl ?_
    refine J_iconst (pc' := 23) (v := (1 : Int32)) C dX6_own_22 rfl (by decide) ?_
    obtain ⟨M23, e23, h⟩ := bd h
    refine jp_202 (pc' := 26) C (fun _ => ⟨rfl, rfl⟩) dX6_own_23 rfl e23 ?_
    refine J_aload_n (pc' := 27) C 0 dX6_own_26 rfl rfl rfl ?_
    obtain ⟨v27, e27, h⟩ := bd h
    refine jg_201 (pc' := 30) C dX6_own_27 rfl (gI_some e27) ?_
    obtain ⟨rfl, rfl⟩ := rt2 h
    exact J_iret C dX6_own_30 (Nat.zero_le _) (Nat.zero_le _)
  · rw [if_pos c4] at h
    refine J_bipush (pc' := 9) (v := (-3 : Int32)) C dX6_own_7 rfl (by decide) ?_
    obtain ⟨rfl, rfl⟩ := rt2 h
    exact J_iret C dX6_own_9 (Nat.zero_le _) (Nat.zero_le _)
def f_X6_hasCode (N : Nat) (a0 : Nat) (M : A_M) : Option (Int32 × A_M) :=
  (gR M a0 6 7).bind fun v1 =>
  (gI M v1 0 2).bind fun v4 =>
  if v4 ≤ 0 then
  (some ((0 : Int32), M))
  else
  (some ((1 : Int32), M))
set_option maxHeartbeats 4000000 in
set_option maxRecDepth 100000 in
theorem ok_X6_hasCode (N : Nat) {a0 : Nat} {M : A_M} {r : Int32} {M' : A_M} (h : f_X6_hasCode N a0 M = some (r, M')) : Runs yX6_hasCode cX6_hasCode 1 (some .boolean) 0 0 0 0 [.ref a0] M (some (.int r)) M' := by
  refine Runs.intro (by decide) (Nat.le_of_ble_eq_true rfl) (fun X C hnm hMC hMS => ?_)
  have C : Cx X cX6_hasCode RX6 1 (some .boolean) 0 0 := C
  show J X 1 0 [(0, .ref a0)] [] M 0 0 (some (.int r)) M'
  unfold f_X6_hasCode at h
  refine J_aload_n (pc' := 1) C 0 dX6_hasCode_0 rfl rfl rfl ?_
  obtain ⟨v1, e1, h⟩ := bd h
  refine jg_197 (pc' := 4) C dX6_hasCode_1 rfl (gR_some e1) ?_
  obtain ⟨v4, e4, h⟩ := bd h
  refine jg_181 (pc' := 7) C dX6_hasCode_4 rfl (gI_some e4) ?_
  refine J_if_le (tgt := 14) (pc' := 10) C dX6_hasCode_7 (by decide) rfl (fun c7 => ?_) (fun c7 => ?_)
  · rw [if_pos c7] at h
    refine J_iconst (pc' := 15) (v := (0 : Int32)) C dX6_hasCode_14 rfl (by decide) ?_
    obtain ⟨rfl, rfl⟩ := rt2 h
    exact J_zret C rfl dX6_hasCode_15 (Nat.zero_le _) (Nat.zero_le _)
  · rw [if_neg c7] at h
    refine J_iconst (pc' := 11) (v := (1 : Int32)) C dX6_hasCode_10 rfl (by decide) ?_
    refine J_goto (tgt := 15) C dX6_hasCode_11 (by decide) ?_
    obtain ⟨rfl, rfl⟩ := rt2 h
    exact J_zret C rfl dX6_hasCode_15 (Nat.zero_le _) (Nat.zero_le _)
def f_X6_add (N : Nat) (a0 : Nat) (a1 : Int32) (a2 : Int32) (M : A_M) : Option (Int32 × A_M) :=
  (chk M a0 6).bind fun _ =>
  bnd2 (f_X6_isThing N a0 a1 M) fun v2 M2 =>
  if v2 = 0 then
  (some ((-1 : Int32), M2))
  else
  ((chk M2 a0 6).bind fun _ =>
  bnd2 (f_X6_isSign N a0 a2 M2) fun v10 M10 =>
  if v10 = 0 then
  (some ((-1 : Int32), M10))
  else
  ((chk M10 a0 6).bind fun _ =>
  bnd2 (f_X6_hasCode N a0 M10) fun v19 M19 =>
  if v19 = 0 then
  (some ((-3 : Int32), M19))
  else
  ((gI M19 a0 6 12).bind fun v26 =>
  if v26 = (1 : Int32) then
  ((gR M19 a0 6 7).bind fun v37 =>
  (gR M19 v37 0 1).bind fun v40 =>
  (ldI M19 v40 a1).bind fun v44 =>
  if v44 < (24 : Int32) then
  ((gR M19 a0 6 7).bind fun v54 =>
  (gR M19 a0 6 7).bind fun v59 =>
  (gR M19 v59 0 0).bind fun v62 =>
  (ldJ M19 v62 a1).bind fun v66 =>
  (gR M19 a0 6 7).bind fun v68 =>
  (gR M19 v68 0 1).bind fun v71 =>
  (ldI M19 v71 a1).bind fun v75 =>
  bnd2 (f_X6_rowAndSign N v66 v75 a2 M19) fun v77 M77 =>
  (gR M77 a0 6 7).bind fun v81 =>
  (gR M77 v81 0 1).bind fun v84 =>
  (ldI M77 v84 a1).bind fun v88 =>
  (chk M77 v54 0).bind fun _ =>
  (f_X0_giveWord N v54 a1 v77 (v88 + (1 : Int32)) M77).bind fun M91 =>
  (gR M91 a0 6 7).bind fun v95 =>
  (gR M91 v95 0 1).bind fun v98 =>
  (ldI M91 v98 a1).bind fun v102 =>
  some (v102, M91))
  else
  (some ((-4 : Int32), M19)))
  else
  (some ((-3 : Int32), M19)))))
set_option maxHeartbeats 4000000 in
set_option maxRecDepth 100000 in
theorem ok_X6_add (N : Nat) {a0 : Nat} {a1 : Int32} {a2 : Int32} {M : A_M} {r : Int32} {M' : A_M} (h : f_X6_add N a0 a1 a2 M = some (r, M')) : Runs yX6_add cX6_add 3 (some .int) 1 24 0 0 [.ref a0, .int a1, .int a2] M (some (.int r)) M' := by
  refine Runs.intro (by decide) (Nat.le_of_ble_eq_true rfl) (fun X C hnm hMC hMS => ?_)
  have C : Cx X cX6_add RX6 3 (some .int) 1 24 := C
  show J X 3 0 [(0, .ref a0), (1, .int a1), (2, .int a2)] [] M 0 0 (some (.int r)) M'
  unfold f_X6_add at h
  refine J_aload_n (pc' := 1) C 0 dX6_add_0 rfl rfl rfl ?_
  refine J_iload_n (pc' := 2) C 1 dX6_add_1 rfl rfl rfl ?_
  obtain ⟨_, q2, h⟩ := bd h
  obtain ⟨v2, M2, e2, h⟩ := bd2 h
  refine J_cV (pc' := 5) (st := []) (st2 := [.int v2]) (cs2 := 0) (sl2 := 0) C 6 rfl rfl q2 (ok_X6_isThing N e2) mw_X6_isThing wq_278 rfl dX6_add_2 rfl rfl (Nat.le_of_ble_eq_true rfl) (by decide) (by decide) rfl rfl rfl (Nat.zero_le _) (Nat.zero_le _) ?_
  refine J_if_eq (tgt := 16) (pc' := 8) C dX6_add_5 (by decide) rfl (fun c5 => ?_) (fun c5 => ?_)
  · rw [if_pos c5] at h
    refine J_iconst (pc' := 17) (v := (-1 : Int32)) C dX6_add_16 rfl (by decide) ?_
    obtain ⟨rfl, rfl⟩ := rt2 h
    exact J_iret C dX6_add_17 (Nat.zero_le _) (Nat.zero_le _)
  · rw [if_neg c5] at h
    refine J_aload_n (pc' := 9) C 0 dX6_add_8 rfl rfl rfl ?_
    refine J_iload_n (pc' := 10) C 2 dX6_add_9 rfl rfl rfl ?_
    obtain ⟨_, q10, h⟩ := bd h
    obtain ⟨v10, M10, e10, h⟩ := bd2 h
    refine J_cV (pc' := 13) (st := []) (st2 := [.int v10]) (cs2 := 0) (sl2 := 0) C 6 rfl rfl q10 (ok_X6_isSign N e10) mw_X6_isSign wq_290 rfl dX6_add_10 rfl rfl (Nat.le_of_ble_eq_true rfl) (by decide) (by decide) rfl rfl rfl (Nat.zero_le _) (Nat.zero_le _) ?_
    refine J_if_ne (tgt := 18) (pc' := 16) C dX6_add_13 (by decide) rfl (fun c13 => ?_) (fun c13 => ?_)
    · rw [if_neg c13] at h
      refine J_aload_n (pc' := 19) C 0 dX6_add_18 rfl rfl rfl ?_
      obtain ⟨_, q19, h⟩ := bd h
      obtain ⟨v19, M19, e19, h⟩ := bd2 h
      refine J_cV (pc' := 22) (st := []) (st2 := [.int v19]) (cs2 := 0) (sl2 := 0) C 6 rfl rfl q19 (ok_X6_hasCode N e19) mw_X6_hasCode wq_562 rfl dX6_add_19 rfl rfl (Nat.le_of_ble_eq_true rfl) (by decide) (by decide) rfl rfl rfl (Nat.zero_le _) (Nat.zero_le _) ?_
      refine J_if_eq (tgt := 33) (pc' := 25) C dX6_add_22 (by decide) rfl (fun c22 => ?_) (fun c22 => ?_)
      · rw [if_pos c22] at h
        refine J_bipush (pc' := 35) (v := (-3 : Int32)) C dX6_add_33 rfl (by decide) ?_
        obtain ⟨rfl, rfl⟩ := rt2 h
        exact J_iret C dX6_add_35 (Nat.zero_le _) (Nat.zero_le _)
      · rw [if_neg c22] at h
        refine J_aload_n (pc' := 26) C 0 dX6_add_25 rfl rfl rfl ?_
        obtain ⟨v26, e26, h⟩ := bd h
        refine jg_202 (pc' := 29) C dX6_add_26 rfl (gI_some e26) ?_
        refine J_iconst (pc' := 30) (v := (1 : Int32)) C dX6_add_29 rfl (by decide) ?_
        refine J_icmp_eq (tgt := 36) (pc' := 33) C dX6_add_30 (by decide) rfl (fun c30 => ?_) (fun c30 => ?_)
        · rw [if_pos c30] at h
          refine J_aload_n (pc' := 37) C 0 dX6_add_36 rfl rfl rfl ?_
          obtain ⟨v37, e37, h⟩ := bd h
          refine jg_197 (pc' := 40) C dX6_add_37 rfl (gR_some e37) ?_
          obtain ⟨v40, e40, h⟩ := bd h
          refine jg_177 (pc' := 43) C dX6_add_40 rfl (gR_some e40) ?_
          refine J_iload_n (pc' := 44) C 1 dX6_add_43 rfl rfl rfl ?_
          obtain ⟨v44, e44, h⟩ := bd h
          refine J_iald (pc' := 45) C dX6_add_44 rfl e44 ?_
          refine J_bipush (pc' := 47) (v := (24 : Int32)) C dX6_add_45 rfl (by decide) ?_
          refine J_icmp_lt (tgt := 53) (pc' := 50) C dX6_add_47 (by decide) rfl (fun c47 => ?_) (fun c47 => ?_)
          · rw [if_pos c47] at h
            refine J_aload_n (pc' := 54) C 0 dX6_add_53 rfl rfl rfl ?_
            obtain ⟨v54, e54, h⟩ := bd h
            refine jg_197 (pc' := 57) C dX6_add_54 rfl (gR_some e54) ?_
            refine J_iload_n (pc' := 58) C 1 dX6_add_57 rfl rfl rfl ?_
            refine J_aload_n (pc' := 59) C 0 dX6_add_58 rfl rfl rfl ?_
            obtain ⟨v59, e59, h⟩ := bd h
            refine jg_197 (pc' := 62) C dX6_add_59 rfl (gR_some e59) ?_
            obtain ⟨v62, e62, h⟩ := bd h
            refine jg_173 (pc' := 65) C dX6_add_62 rfl (gR_some e62) ?_
            refine J_iload_n (pc' := 66) C 1 dX6_add_65 rfl rfl rfl ?_
            obtain ⟨v66, e66, h⟩ := bd h
            refine J_lald (pc' := 67) C dX6_add_66 rfl e66 ?_
            refine J_aload_n (pc' := 68) C 0 dX6_add_67 rfl rfl rfl ?_
            obtain ⟨v68, e68, h⟩ := bd h
            refine jg_197 (pc' := 71) C dX6_add_68 rfl (gR_some e68) ?_
            obtain ⟨v71, e71, h⟩ := bd h
            refine jg_177 (pc' := 74) C dX6_add_71 rfl (gR_some e71) ?_
            refine J_iload_n (pc' := 75) C 1 dX6_add_74 rfl rfl rfl ?_
            obtain ⟨v75, e75, h⟩ := bd h
            refine J_iald (pc' := 76) C dX6_add_75 rfl e75 ?_
            refine J_iload_n (pc' := 77) C 2 dX6_add_76 rfl rfl rfl ?_
            obtain ⟨v77, M77, e77, h⟩ := bd2 h
            refine J_cS (pc' := 80) (st := [.int a1, .ref v54]) (st2 := [.long v77, .int a1, .ref v54]) (cs2 := 0) (sl2 := 0) C (ok_X6_rowAndSign N e77) mw_X6_rowAndSign wq_535 rfl dX6_add_77 rfl rfl (Nat.le_of_ble_eq_true rfl) (by decide) (by decide) rfl rfl rfl (Nat.zero_le _) (Nat.zero_le _) ?_
            refine J_aload_n (pc' := 81) C 0 dX6_add_80 rfl rfl rfl ?_
            obtain ⟨v81, e81, h⟩ := bd h
            refine jg_197 (pc' := 84) C dX6_add_81 rfl (gR_some e81) ?_
            obtain ⟨v84, e84, h⟩ := bd h
            refine jg_177 (pc' := 87) C dX6_add_84 rfl (gR_some e84) ?_
            refine J_iload_n (pc' := 88) C 1 dX6_add_87 rfl rfl rfl ?_
            obtain ⟨v88, e88, h⟩ := bd h
            refine J_iald (pc' := 89) C dX6_add_88 rfl e88 ?_
            refine J_iconst (pc' := 90) (v := (1 : Int32)) C dX6_add_89 rfl (by decide) ?_
            refine J_iadd (pc' := 91) C dX6_add_90 rfl ?_
            obtain ⟨_, q91, h⟩ := bd h
            obtain ⟨M91, e91, h⟩ := bd h
            refine J_cV (pc' := 94) (st := []) (st2 := []) (cs2 := 0) (sl2 := 0) C 0 rfl rfl q91 (ok_X0_giveWord N e91) mw_X0_giveWord wq_536 rfl dX6_add_91 rfl rfl (Nat.le_of_ble_eq_true rfl) (by decide) (by decide) rfl rfl rfl (Nat.zero_le _) (Nat.zero_le _) ?_
            refine J_aload_n (pc' := 95) C 0 dX6_add_94 rfl rfl rfl ?_
            obtain ⟨v95, e95, h⟩ := bd h
            refine jg_197 (pc' := 98) C dX6_add_95 rfl (gR_some e95) ?_
            obtain ⟨v98, e98, h⟩ := bd h
            refine jg_177 (pc' := 101) C dX6_add_98 rfl (gR_some e98) ?_
            refine J_iload_n (pc' := 102) C 1 dX6_add_101 rfl rfl rfl ?_
            obtain ⟨v102, e102, h⟩ := bd h
            refine J_iald (pc' := 103) C dX6_add_102 rfl e102 ?_
            obtain ⟨rfl, rfl⟩ := rt2 h
            exact J_iret C dX6_add_103 (Nat.zero_le _) (Nat.zero_le _)
          · rw [if_neg c47] at h
            refine J_bipush (pc' := 52) (v := (-4 : Int32)) C dX6_add_50 rfl (by decide) ?_
            obtain ⟨rfl, rfl⟩ := rt2 h
            exact J_iret C dX6_add_52 (Nat.zero_le _) (Nat.zero_le _)
        · rw [if_neg c30] at h
          refine J_bipush (pc' := 35) (v := (-3 : Int32)) C dX6_add_33 rfl (by decide) ?_
          obtain ⟨rfl, rfl⟩ := rt2 h
          exact J_iret C dX6_add_35 (Nat.zero_le _) (Nat.zero_le _)
    · rw [if_pos c13] at h
      refine J_iconst (pc' := 17) (v := (-1 : Int32)) C dX6_add_16 rfl (by decide) ?_
      obtain ⟨rfl, rfl⟩ := rt2 h
      exact J_iret C dX6_add_17 (Nat.zero_le _) (Nat.zero_le _)
def f_X6_breaksAlone_K89 (N : Nat) (k43 : Nat → Int32 → Int32 → Int32 → Int32 → A_M → Option (Int32 × A_M)) (x0 : Nat) (x1 : Int32) (x3 : Int32) (x4 : Int32) (x5 : Int32) (x6 : Int32) (s0 : Int32) (M : A_M) : Option (Int32 × A_M) :=
  if s0 = x6 then
  (k43 x0 x1 x3 x4 (x5 + 1) M)
  else
  (some ((1 : Int32), M))
set_option maxHeartbeats 4000000 in
set_option maxRecDepth 100000 in
theorem ok_X6_breaksAlone_K89 {X : JX} (C : Cx X cX6_breaksAlone RX6 7 (some .boolean) 1 22) (N : Nat) {k43 : Nat → Int32 → Int32 → Int32 → Int32 → A_M → Option (Int32 × A_M)} (hk43 : ∀ (x0 : Nat) (x1 : Int32) (x3 : Int32) (x4 : Int32) (x5 : Int32) (M : A_M) (r : Int32) (M' : A_M), k43 x0 x1 x3 x4 x5 M = some (r, M') → J X 7 43 [(0, .ref x0), (1, .int x1), (3, .int x3), (4, .int x4), (5, .int x5)] [] M 0 0 (some (.int r)) M') : ∀ (x0 : Nat) (x1 : Int32) (x3 : Int32) (x4 : Int32) (x5 : Int32) (x6 : Int32) (s0 : Int32) (M : A_M) (r : Int32) (M' : A_M), f_X6_breaksAlone_K89 N k43 x0 x1 x3 x4 x5 x6 s0 M = some (r, M') → J X 7 89 [(0, .ref x0), (1, .int x1), (3, .int x3), (4, .int x4), (5, .int x5), (6, .int x6)] [.int s0] M 0 0 (some (.int r)) M' := by
  intro x0 x1 x3 x4 x5 x6 s0 M r M' h
  unfold f_X6_breaksAlone_K89 at h
  refine J_iload (pc' := 91) C 5 dX6_breaksAlone_89 rfl rfl ?_
  refine J_icmp_eq (tgt := 96) (pc' := 94) C dX6_breaksAlone_91 (by decide) rfl (fun c91 => ?_) (fun c91 => ?_)
  · rw [if_pos c91] at h
    refine J_iinc (pc' := 99) (lv' := [(5, .int (x5 + 1)), (0, .ref x0), (1, .int x1), (3, .int x3), (4, .int x4), (6, .int x6)]) C 4 dX6_breaksAlone_96 rfl rfl rfl (by decide) rfl ?_
    refine J_goto (tgt := 43) C dX6_breaksAlone_99 (by decide) ?_
    refine J_sub (lv' := [(0, .ref x0), (1, .int x1), (3, .int x3), (4, .int x4), (5, .int (x5 + 1))]) [1, 2, 3, 4, 0] rfl ?_
    exact hk43 _ _ _ _ _ _ _ _ h
  · rw [if_neg c91] at h
    refine J_iconst (pc' := 95) (v := (1 : Int32)) C dX6_breaksAlone_94 rfl (by decide) ?_
    obtain ⟨rfl, rfl⟩ := rt2 h
    exact J_zret C rfl dX6_breaksAlone_95 (Nat.zero_le _) (Nat.zero_le _)
def f_X6_breaksAlone_K64 (N : Nat) (k43 : Nat → Int32 → Int32 → Int32 → Int32 → A_M → Option (Int32 × A_M)) (x0 : Nat) (x1 : Int32) (x3 : Int32) (x4 : Int32) (x5 : Int32) (s0 : Int32) (M : A_M) : Option (Int32 × A_M) :=
  (gR M x0 6 7).bind fun v67 =>
  (gR M v67 0 0).bind fun v70 =>
  (ldJ M v70 x1).bind fun v74 =>
  bnd2 (f_X6_signOfRow N v74 x5 M) fun v77 M77 =>
  if v77 = x3 then
  (f_X6_breaksAlone_K89 N k43 x0 x1 x3 x4 x5 s0 (1 : Int32) M77)
  else
  (f_X6_breaksAlone_K89 N k43 x0 x1 x3 x4 x5 s0 (0 : Int32) M77)
set_option maxHeartbeats 4000000 in
set_option maxRecDepth 100000 in
theorem ok_X6_breaksAlone_K64 {X : JX} (C : Cx X cX6_breaksAlone RX6 7 (some .boolean) 1 22) (N : Nat) {k43 : Nat → Int32 → Int32 → Int32 → Int32 → A_M → Option (Int32 × A_M)} (hk43 : ∀ (x0 : Nat) (x1 : Int32) (x3 : Int32) (x4 : Int32) (x5 : Int32) (M : A_M) (r : Int32) (M' : A_M), k43 x0 x1 x3 x4 x5 M = some (r, M') → J X 7 43 [(0, .ref x0), (1, .int x1), (3, .int x3), (4, .int x4), (5, .int x5)] [] M 0 0 (some (.int r)) M') : ∀ (x0 : Nat) (x1 : Int32) (x3 : Int32) (x4 : Int32) (x5 : Int32) (s0 : Int32) (M : A_M) (r : Int32) (M' : A_M), f_X6_breaksAlone_K64 N k43 x0 x1 x3 x4 x5 s0 M = some (r, M') → J X 7 64 [(0, .ref x0), (1, .int x1), (3, .int x3), (4, .int x4), (5, .int x5)] [.int s0] M 0 0 (some (.int r)) M' := by
  intro x0 x1 x3 x4 x5 s0 M r M' h
  unfold f_X6_breaksAlone_K64 at h
  refine J_istore (pc' := 66) (lv' := [(6, .int s0), (0, .ref x0), (1, .int x1), (3, .int x3), (4, .int x4), (5, .int x5)]) C dX6_breaksAlone_64 rfl (by decide) rfl ?_
  refine J_aload_n (pc' := 67) C 1 dX6_breaksAlone_66 rfl rfl rfl ?_
  obtain ⟨v67, e67, h⟩ := bd h
  refine jg_197 (pc' := 70) C dX6_breaksAlone_67 rfl (gR_some e67) ?_
  obtain ⟨v70, e70, h⟩ := bd h
  refine jg_173 (pc' := 73) C dX6_breaksAlone_70 rfl (gR_some e70) ?_
  refine J_iload_n (pc' := 74) C 2 dX6_breaksAlone_73 rfl rfl rfl ?_
  obtain ⟨v74, e74, h⟩ := bd h
  refine J_lald (pc' := 75) C dX6_breaksAlone_74 rfl e74 ?_
  refine J_iload (pc' := 77) C 5 dX6_breaksAlone_75 rfl rfl ?_
  obtain ⟨v77, M77, e77, h⟩ := bd2 h
  refine J_cS (pc' := 80) (st := []) (st2 := [.int v77]) (cs2 := 0) (sl2 := 0) C (ok_X6_signOfRow N e77) mw_X6_signOfRow wq_551 rfl dX6_breaksAlone_77 rfl rfl (Nat.le_of_ble_eq_true rfl) (by decide) (by decide) rfl rfl rfl (Nat.zero_le _) (Nat.zero_le _) ?_
  refine J_iload_n (pc' := 81) C 3 dX6_breaksAlone_80 rfl rfl rfl ?_
  refine J_icmp_ne (tgt := 88) (pc' := 84) C dX6_breaksAlone_81 (by decide) rfl (fun c81 => ?_) (fun c81 => ?_)
  · rw [if_neg c81] at h
    refine J_iconst (pc' := 89) (v := (0 : Int32)) C dX6_breaksAlone_88 rfl (by decide) ?_
    refine J_sub (lv' := [(0, .ref x0), (1, .int x1), (3, .int x3), (4, .int x4), (5, .int x5), (6, .int s0)]) [1, 2, 3, 4, 5, 0] rfl ?_
    exact ok_X6_breaksAlone_K89 C N hk43 _ _ _ _ _ _ _ _ _ _ h
  · rw [if_pos c81] at h
    refine J_iconst (pc' := 85) (v := (1 : Int32)) C dX6_breaksAlone_84 rfl (by decide) ?_
    refine J_goto (tgt := 89) C dX6_breaksAlone_85 (by decide) ?_
    refine J_sub (lv' := [(0, .ref x0), (1, .int x1), (3, .int x3), (4, .int x4), (5, .int x5), (6, .int s0)]) [1, 2, 3, 4, 5, 0] rfl ?_
    exact ok_X6_breaksAlone_K89 C N hk43 _ _ _ _ _ _ _ _ _ _ h
def f_X6_breaksAlone_L43 (N : Nat) : Nat → Nat → Int32 → Int32 → Int32 → Int32 → A_M → Option (Int32 × A_M)
  | 0, _, _, _, _, _, _ => none
  | n + 1, x0, x1, x3, x4, x5, M =>
    if x4 ≤ x5 then
    (some ((0 : Int32), M))
    else
    (if x5 = (x4 - (1 : Int32)) then
    (f_X6_breaksAlone_K64 N (f_X6_breaksAlone_L43 N n) x0 x1 x3 x4 x5 (1 : Int32) M)
    else
    (f_X6_breaksAlone_K64 N (f_X6_breaksAlone_L43 N n) x0 x1 x3 x4 x5 (0 : Int32) M))
set_option maxHeartbeats 4000000 in
set_option maxRecDepth 100000 in
theorem ok_X6_breaksAlone_L43 {X : JX} (C : Cx X cX6_breaksAlone RX6 7 (some .boolean) 1 22) (N : Nat) : ∀ (n : Nat) (x0 : Nat) (x1 : Int32) (x3 : Int32) (x4 : Int32) (x5 : Int32) (M : A_M) (r : Int32) (M' : A_M), f_X6_breaksAlone_L43 N n x0 x1 x3 x4 x5 M = some (r, M') → J X 7 43 [(0, .ref x0), (1, .int x1), (3, .int x3), (4, .int x4), (5, .int x5)] [] M 0 0 (some (.int r)) M' := by
  intro n
  induction n with
  | zero =>
    intro x0 x1 x3 x4 x5 M r M' h
    cases h
  | succ n ih =>
    intro x0 x1 x3 x4 x5 M r M' h
    rw [f_X6_breaksAlone_L43] at h
    refine J_iload (pc' := 45) C 4 dX6_breaksAlone_43 rfl rfl ?_
    refine J_iload (pc' := 47) C 3 dX6_breaksAlone_45 rfl rfl ?_
    refine J_icmp_ge (tgt := 102) (pc' := 50) C dX6_breaksAlone_47 (by decide) rfl (fun c47 => ?_) (fun c47 => ?_)
    · rw [if_pos c47] at h
      refine J_iconst (pc' := 103) (v := (0 : Int32)) C dX6_breaksAlone_102 rfl (by decide) ?_
      obtain ⟨rfl, rfl⟩ := rt2 h
      exact J_zret C rfl dX6_breaksAlone_103 (Nat.zero_le _) (Nat.zero_le _)
    · rw [if_neg c47] at h
      refine J_iload (pc' := 52) C 4 dX6_breaksAlone_50 rfl rfl ?_
      refine J_iload (pc' := 54) C 3 dX6_breaksAlone_52 rfl rfl ?_
      refine J_iconst (pc' := 55) (v := (1 : Int32)) C dX6_breaksAlone_54 rfl (by decide) ?_
      refine J_isub (pc' := 56) C dX6_breaksAlone_55 rfl ?_
      refine J_icmp_ne (tgt := 63) (pc' := 59) C dX6_breaksAlone_56 (by decide) rfl (fun c56 => ?_) (fun c56 => ?_)
      · rw [if_neg c56] at h
        refine J_iconst (pc' := 64) (v := (0 : Int32)) C dX6_breaksAlone_63 rfl (by decide) ?_
        refine J_sub (lv' := [(0, .ref x0), (1, .int x1), (3, .int x3), (4, .int x4), (5, .int x5)]) [0, 1, 2, 3, 4] rfl ?_
        exact ok_X6_breaksAlone_K64 C N ih _ _ _ _ _ _ _ _ _ h
      · rw [if_pos c56] at h
        refine J_iconst (pc' := 60) (v := (1 : Int32)) C dX6_breaksAlone_59 rfl (by decide) ?_
        refine J_goto (tgt := 64) C dX6_breaksAlone_60 (by decide) ?_
        refine J_sub (lv' := [(0, .ref x0), (1, .int x1), (3, .int x3), (4, .int x4), (5, .int x5)]) [0, 1, 2, 3, 4] rfl ?_
        exact ok_X6_breaksAlone_K64 C N ih _ _ _ _ _ _ _ _ _ h
def f_X6_breaksAlone (N : Nat) (a0 : Nat) (a1 : Int32) (a2 : Int32) (a3 : Int32) (M : A_M) : Option (Int32 × A_M) :=
  (gR M a0 6 7).bind fun v1 =>
  (gR M v1 0 1).bind fun v4 =>
  (ldI M v4 a1).bind fun v8 =>
  if v8 = 0 then
  (some ((1 : Int32), M))
  else
  (if a2 = (1 : Int32) then
  (if v8 ≤ a3 then
  (some ((0 : Int32), M))
  else
  (some ((1 : Int32), M)))
  else
  (if a2 = (3 : Int32) then
  (f_X6_breaksAlone_L43 N N a0 a1 a3 v8 (0 : Int32) M)
  else
  (some ((0 : Int32), M))))
set_option maxHeartbeats 4000000 in
set_option maxRecDepth 100000 in
theorem ok_X6_breaksAlone (N : Nat) {a0 : Nat} {a1 : Int32} {a2 : Int32} {a3 : Int32} {M : A_M} {r : Int32} {M' : A_M} (h : f_X6_breaksAlone N a0 a1 a2 a3 M = some (r, M')) : Runs yX6_breaksAlone cX6_breaksAlone 7 (some .boolean) 1 22 0 0 [.ref a0, .int a1, .int a2, .int a3] M (some (.int r)) M' := by
  refine Runs.intro (by decide) (Nat.le_of_ble_eq_true rfl) (fun X C hnm hMC hMS => ?_)
  have C : Cx X cX6_breaksAlone RX6 7 (some .boolean) 1 22 := C
  show J X 7 0 [(0, .ref a0), (1, .int a1), (2, .int a2), (3, .int a3)] [] M 0 0 (some (.int r)) M'
  unfold f_X6_breaksAlone at h
  refine J_aload_n (pc' := 1) C 0 dX6_breaksAlone_0 rfl rfl rfl ?_
  obtain ⟨v1, e1, h⟩ := bd h
  refine jg_197 (pc' := 4) C dX6_breaksAlone_1 rfl (gR_some e1) ?_
  obtain ⟨v4, e4, h⟩ := bd h
  refine jg_177 (pc' := 7) C dX6_breaksAlone_4 rfl (gR_some e4) ?_
  refine J_iload_n (pc' := 8) C 1 dX6_breaksAlone_7 rfl rfl rfl ?_
  obtain ⟨v8, e8, h⟩ := bd h
  refine J_iald (pc' := 9) C dX6_breaksAlone_8 rfl e8 ?_
  refine J_istore (pc' := 11) (lv' := [(4, .int v8), (0, .ref a0), (1, .int a1), (2, .int a2), (3, .int a3)]) C dX6_breaksAlone_9 rfl (by decide) rfl ?_
  refine J_iload (pc' := 13) C 0 dX6_breaksAlone_11 rfl rfl ?_
  refine J_if_ne (tgt := 18) (pc' := 16) C dX6_breaksAlone_13 (by decide) rfl (fun c13 => ?_) (fun c13 => ?_)
  · rw [if_neg c13] at h
    refine J_iload_n (pc' := 19) C 3 dX6_breaksAlone_18 rfl rfl rfl ?_
    refine J_iconst (pc' := 20) (v := (1 : Int32)) C dX6_breaksAlone_19 rfl (by decide) ?_
    refine J_icmp_ne (tgt := 35) (pc' := 23) C dX6_breaksAlone_20 (by decide) rfl (fun c20 => ?_) (fun c20 => ?_)
    · rw [if_neg c20] at h
      refine J_iload_n (pc' := 36) C 3 dX6_breaksAlone_35 rfl rfl rfl ?_
      refine J_iconst (pc' := 37) (v := (3 : Int32)) C dX6_breaksAlone_36 rfl (by decide) ?_
      refine J_icmp_ne (tgt := 102) (pc' := 40) C dX6_breaksAlone_37 (by decide) rfl (fun c37 => ?_) (fun c37 => ?_)
      · rw [if_neg c37] at h
        refine J_iconst (pc' := 103) (v := (0 : Int32)) C dX6_breaksAlone_102 rfl (by decide) ?_
        obtain ⟨rfl, rfl⟩ := rt2 h
        exact J_zret C rfl dX6_breaksAlone_103 (Nat.zero_le _) (Nat.zero_le _)
      · rw [if_pos c37] at h
        refine J_iconst (pc' := 41) (v := (0 : Int32)) C dX6_breaksAlone_40 rfl (by decide) ?_
        refine J_istore (pc' := 43) (lv' := [(5, .int (0 : Int32)), (4, .int v8), (0, .ref a0), (1, .int a1), (2, .int a2), (3, .int a3)]) C dX6_breaksAlone_41 rfl (by decide) rfl ?_
        refine J_sub (lv' := [(0, .ref a0), (1, .int a1), (3, .int a3), (4, .int v8), (5, .int (0 : Int32))]) [2, 3, 5, 1, 0] rfl ?_
        exact ok_X6_breaksAlone_L43 C N N _ _ _ _ _ _ _ _ h
    · rw [if_pos c20] at h
      refine J_iload (pc' := 25) C 0 dX6_breaksAlone_23 rfl rfl ?_
      refine J_iload_n (pc' := 26) C 4 dX6_breaksAlone_25 rfl rfl rfl ?_
      refine J_icmp_le (tgt := 33) (pc' := 29) C dX6_breaksAlone_26 (by decide) rfl (fun c26 => ?_) (fun c26 => ?_)
      · rw [if_pos c26] at h
        refine J_iconst (pc' := 34) (v := (0 : Int32)) C dX6_breaksAlone_33 rfl (by decide) ?_
        obtain ⟨rfl, rfl⟩ := rt2 h
        exact J_zret C rfl dX6_breaksAlone_34 (Nat.zero_le _) (Nat.zero_le _)
      · rw [if_neg c26] at h
        refine J_iconst (pc' := 30) (v := (1 : Int32)) C dX6_breaksAlone_29 rfl (by decide) ?_
        refine J_goto (tgt := 34) C dX6_breaksAlone_30 (by decide) ?_
        obtain ⟨rfl, rfl⟩ := rt2 h
        exact J_zret C rfl dX6_breaksAlone_34 (Nat.zero_le _) (Nat.zero_le _)
  · rw [if_pos c13] at h
    refine J_iconst (pc' := 17) (v := (1 : Int32)) C dX6_breaksAlone_16 rfl (by decide) ?_
    obtain ⟨rfl, rfl⟩ := rt2 h
    exact J_zret C rfl dX6_breaksAlone_17 (Nat.zero_le _) (Nat.zero_le _)
def f_X6_breaksWith_K58 (N : Nat) (k4 : Nat → Int32 → Int32 → Int32 → A_M → Option (Int32 × A_M)) (x0 : Nat) (x1 : Int32) (x2 : Int32) (x3 : Int32) (M : A_M) : Option (Int32 × A_M) :=
  k4 x0 x1 x2 (x3 + 1) M
set_option maxHeartbeats 4000000 in
set_option maxRecDepth 100000 in
theorem ok_X6_breaksWith_K58 {X : JX} (C : Cx X cX6_breaksWith RX6 4 (some .int) 4 88) (N : Nat) {k4 : Nat → Int32 → Int32 → Int32 → A_M → Option (Int32 × A_M)} (hk4 : ∀ (x0 : Nat) (x1 : Int32) (x2 : Int32) (x3 : Int32) (M : A_M) (r : Int32) (M' : A_M), k4 x0 x1 x2 x3 M = some (r, M') → J X 4 4 [(0, .ref x0), (1, .int x1), (2, .int x2), (3, .int x3)] [] M 0 0 (some (.int r)) M') : ∀ (x0 : Nat) (x1 : Int32) (x2 : Int32) (x3 : Int32) (M : A_M) (r : Int32) (M' : A_M), f_X6_breaksWith_K58 N k4 x0 x1 x2 x3 M = some (r, M') → J X 4 58 [(0, .ref x0), (1, .int x1), (2, .int x2), (3, .int x3)] [] M 0 0 (some (.int r)) M' := by
  intro x0 x1 x2 x3 M r M' h
  unfold f_X6_breaksWith_K58 at h
  refine J_iinc (pc' := 61) (lv' := [(3, .int (x3 + 1)), (0, .ref x0), (1, .int x1), (2, .int x2)]) C 3 dX6_breaksWith_58 rfl rfl rfl (by decide) rfl ?_
  refine J_goto (tgt := 4) C dX6_breaksWith_61 (by decide) ?_
  refine J_sub (lv' := [(0, .ref x0), (1, .int x1), (2, .int x2), (3, .int (x3 + 1))]) [1, 2, 3, 0] rfl ?_
  exact hk4 _ _ _ _ _ _ _ h
def f_X6_breaksWith_L4 (N : Nat) : Nat → Nat → Int32 → Int32 → Int32 → A_M → Option (Int32 × A_M)
  | 0, _, _, _, _, _ => none
  | n + 1, x0, x1, x2, x3, M =>
    (gR M x0 6 7).bind fun v6 =>
    (gI M v6 0 2).bind fun v9 =>
    if v9 ≤ x3 then
    (some ((-6 : Int32), M))
    else
    ((gR M x0 6 7).bind fun v16 =>
    (chk M v16 0).bind fun _ =>
    bnd2 (f_X0_clash N v16 x1 x3 M) fun v21 M21 =>
    if v21 = 0 then
    (if x2 = (2 : Int32) then
    ((gR M21 x0 6 7).bind fun v35 =>
    (gR M21 v35 0 0).bind fun v38 =>
    (ldJ M21 v38 x1).bind fun v42 =>
    (gR M21 x0 6 7).bind fun v44 =>
    (gR M21 v44 0 0).bind fun v47 =>
    (ldJ M21 v47 x3).bind fun v51 =>
    if (lg_cmp v42 v51) ≤ 0 then
    (f_X6_breaksWith_K58 N (f_X6_breaksWith_L4 N n) x0 x1 x2 x3 M21)
    else
    (some (x3, M21)))
    else
    (f_X6_breaksWith_K58 N (f_X6_breaksWith_L4 N n) x0 x1 x2 x3 M21))
    else
    (some (x3, M21)))
set_option maxHeartbeats 4000000 in
set_option maxRecDepth 100000 in
theorem ok_X6_breaksWith_L4 {X : JX} (C : Cx X cX6_breaksWith RX6 4 (some .int) 4 88) (N : Nat) : ∀ (n : Nat) (x0 : Nat) (x1 : Int32) (x2 : Int32) (x3 : Int32) (M : A_M) (r : Int32) (M' : A_M), f_X6_breaksWith_L4 N n x0 x1 x2 x3 M = some (r, M') → J X 4 4 [(0, .ref x0), (1, .int x1), (2, .int x2), (3, .int x3)] [] M 0 0 (some (.int r)) M' := by
  intro n
  induction n with
  | zero =>
    intro x0 x1 x2 x3 M r M' h
    cases h
  | succ n ih =>
    intro x0 x1 x2 x3 M r M' h
    rw [f_X6_breaksWith_L4] at h
    refine J_iload_n (pc' := 5) C 3 dX6_breaksWith_4 rfl rfl rfl ?_
    refine J_aload_n (pc' := 6) C 0 dX6_breaksWith_5 rfl rfl rfl ?_
    obtain ⟨v6, e6, h⟩ := bd h
    refine jg_197 (pc' := 9) C dX6_breaksWith_6 rfl (gR_some e6) ?_
    obtain ⟨v9, e9, h⟩ := bd h
    refine jg_181 (pc' := 12) C dX6_breaksWith_9 rfl (gI_some e9) ?_
    refine J_icmp_ge (tgt := 64) (pc' := 15) C dX6_breaksWith_12 (by decide) rfl (fun c12 => ?_) (fun c12 => ?_)
    · rw [if_pos c12] at h
      refine J_bipush (pc' := 66) (v := (-6 : Int32)) C dX6_breaksWith_64 rfl (by decide) ?_
      obtain ⟨rfl, rfl⟩ := rt2 h
      exact J_iret C dX6_breaksWith_66 (Nat.zero_le _) (Nat.zero_le _)
    · rw [if_neg c12] at h
      refine J_aload_n (pc' := 16) C 0 dX6_breaksWith_15 rfl rfl rfl ?_
      obtain ⟨v16, e16, h⟩ := bd h
      refine jg_197 (pc' := 19) C dX6_breaksWith_16 rfl (gR_some e16) ?_
      refine J_iload_n (pc' := 20) C 1 dX6_breaksWith_19 rfl rfl rfl ?_
      refine J_iload_n (pc' := 21) C 3 dX6_breaksWith_20 rfl rfl rfl ?_
      obtain ⟨_, q21, h⟩ := bd h
      obtain ⟨v21, M21, e21, h⟩ := bd2 h
      refine J_cV (pc' := 24) (st := []) (st2 := [.int v21]) (cs2 := 0) (sl2 := 0) C 0 rfl rfl q21 (ok_X0_clash N e21) mw_X0_clash wq_578 rfl dX6_breaksWith_21 rfl rfl (Nat.le_of_ble_eq_true rfl) (by decide) (by decide) rfl rfl rfl (Nat.zero_le _) (Nat.zero_le _) ?_
      refine J_if_eq (tgt := 29) (pc' := 27) C dX6_breaksWith_24 (by decide) rfl (fun c24 => ?_) (fun c24 => ?_)
      · rw [if_pos c24] at h
        refine J_iload_n (pc' := 30) C 2 dX6_breaksWith_29 rfl rfl rfl ?_
        refine J_iconst (pc' := 31) (v := (2 : Int32)) C dX6_breaksWith_30 rfl (by decide) ?_
        refine J_icmp_ne (tgt := 58) (pc' := 34) C dX6_breaksWith_31 (by decide) rfl (fun c31 => ?_) (fun c31 => ?_)
        · rw [if_neg c31] at h
          refine J_sub (lv' := [(0, .ref x0), (1, .int x1), (2, .int x2), (3, .int x3)]) [0, 1, 2, 3] rfl ?_
          exact ok_X6_breaksWith_K58 C N ih _ _ _ _ _ _ _ h
        · rw [if_pos c31] at h
          refine J_aload_n (pc' := 35) C 0 dX6_breaksWith_34 rfl rfl rfl ?_
          obtain ⟨v35, e35, h⟩ := bd h
          refine jg_197 (pc' := 38) C dX6_breaksWith_35 rfl (gR_some e35) ?_
          obtain ⟨v38, e38, h⟩ := bd h
          refine jg_173 (pc' := 41) C dX6_breaksWith_38 rfl (gR_some e38) ?_
          refine J_iload_n (pc' := 42) C 1 dX6_breaksWith_41 rfl rfl rfl ?_
          obtain ⟨v42, e42, h⟩ := bd h
          refine J_lald (pc' := 43) C dX6_breaksWith_42 rfl e42 ?_
          refine J_aload_n (pc' := 44) C 0 dX6_breaksWith_43 rfl rfl rfl ?_
          obtain ⟨v44, e44, h⟩ := bd h
          refine jg_197 (pc' := 47) C dX6_breaksWith_44 rfl (gR_some e44) ?_
          obtain ⟨v47, e47, h⟩ := bd h
          refine jg_173 (pc' := 50) C dX6_breaksWith_47 rfl (gR_some e47) ?_
          refine J_iload_n (pc' := 51) C 3 dX6_breaksWith_50 rfl rfl rfl ?_
          obtain ⟨v51, e51, h⟩ := bd h
          refine J_lald (pc' := 52) C dX6_breaksWith_51 rfl e51 ?_
          refine J_lcmp (pc' := 53) C dX6_breaksWith_52 rfl ?_
          refine J_if_le (tgt := 58) (pc' := 56) C dX6_breaksWith_53 (by decide) rfl (fun c53 => ?_) (fun c53 => ?_)
          · rw [if_pos c53] at h
            refine J_sub (lv' := [(0, .ref x0), (1, .int x1), (2, .int x2), (3, .int x3)]) [0, 1, 2, 3] rfl ?_
            exact ok_X6_breaksWith_K58 C N ih _ _ _ _ _ _ _ h
          · rw [if_neg c53] at h
            refine J_iload_n (pc' := 57) C 3 dX6_breaksWith_56 rfl rfl rfl ?_
            obtain ⟨rfl, rfl⟩ := rt2 h
            exact J_iret C dX6_breaksWith_57 (Nat.zero_le _) (Nat.zero_le _)
      · rw [if_neg c24] at h
        refine J_iload_n (pc' := 28) C 3 dX6_breaksWith_27 rfl rfl rfl ?_
        obtain ⟨rfl, rfl⟩ := rt2 h
        exact J_iret C dX6_breaksWith_28 (Nat.zero_le _) (Nat.zero_le _)
def f_X6_breaksWith (N : Nat) (a0 : Nat) (a1 : Int32) (a2 : Int32) (M : A_M) : Option (Int32 × A_M) :=
  f_X6_breaksWith_L4 N N a0 a1 a2 (a1 + (1 : Int32)) M
set_option maxHeartbeats 4000000 in
set_option maxRecDepth 100000 in
theorem ok_X6_breaksWith (N : Nat) {a0 : Nat} {a1 : Int32} {a2 : Int32} {M : A_M} {r : Int32} {M' : A_M} (h : f_X6_breaksWith N a0 a1 a2 M = some (r, M')) : Runs yX6_breaksWith cX6_breaksWith 4 (some .int) 4 88 0 0 [.ref a0, .int a1, .int a2] M (some (.int r)) M' := by
  refine Runs.intro (by decide) (Nat.le_of_ble_eq_true rfl) (fun X C hnm hMC hMS => ?_)
  have C : Cx X cX6_breaksWith RX6 4 (some .int) 4 88 := C
  show J X 4 0 [(0, .ref a0), (1, .int a1), (2, .int a2)] [] M 0 0 (some (.int r)) M'
  unfold f_X6_breaksWith at h
  refine J_iload_n (pc' := 1) C 1 dX6_breaksWith_0 rfl rfl rfl ?_
  refine J_iconst (pc' := 2) (v := (1 : Int32)) C dX6_breaksWith_1 rfl (by decide) ?_
  refine J_iadd (pc' := 3) C dX6_breaksWith_2 rfl ?_
  refine J_istore_n (pc' := 4) (lv' := [(3, .int (a1 + (1 : Int32))), (0, .ref a0), (1, .int a1), (2, .int a2)]) C dX6_breaksWith_3 rfl rfl (by decide) rfl ?_
  refine J_sub (lv' := [(0, .ref a0), (1, .int a1), (2, .int a2), (3, .int (a1 + (1 : Int32)))]) [1, 2, 3, 0] rfl ?_
  exact ok_X6_breaksWith_L4 C N N _ _ _ _ _ _ _ h
def f_X6_holds_K60 (N : Nat) (k24 : Nat → Int32 → Int32 → Int32 → A_M → Option (Int32 × A_M)) (x0 : Nat) (x1 : Int32) (x2 : Int32) (x3 : Int32) (x4 : Int32) (s0 : Int32) (M : A_M) : Option (Int32 × A_M) :=
  if x4 = 0 then
  (if s0 = (-6 : Int32) then
  (k24 x0 x1 x2 (x3 + 1) M)
  else
  ((pV M x0 6 13 (.int x3)).bind fun M76 =>
  (pV M76 x0 6 14 (.int s0)).bind fun M82 =>
  some ((0 : Int32), M82)))
  else
  ((pV M x0 6 13 (.int x3)).bind fun M76 =>
  (pV M76 x0 6 14 (.int s0)).bind fun M82 =>
  some ((0 : Int32), M82))
set_option maxHeartbeats 4000000 in
set_option maxRecDepth 100000 in
theorem ok_X6_holds_K60 {X : JX} (C : Cx X cX6_holds RX6 6 (some .int) 5 111) (N : Nat) {k24 : Nat → Int32 → Int32 → Int32 → A_M → Option (Int32 × A_M)} (hk24 : ∀ (x0 : Nat) (x1 : Int32) (x2 : Int32) (x3 : Int32) (M : A_M) (r : Int32) (M' : A_M), k24 x0 x1 x2 x3 M = some (r, M') → J X 6 24 [(0, .ref x0), (1, .int x1), (2, .int x2), (3, .int x3)] [] M 0 0 (some (.int r)) M') : ∀ (x0 : Nat) (x1 : Int32) (x2 : Int32) (x3 : Int32) (x4 : Int32) (s0 : Int32) (M : A_M) (r : Int32) (M' : A_M), f_X6_holds_K60 N k24 x0 x1 x2 x3 x4 s0 M = some (r, M') → J X 6 60 [(0, .ref x0), (1, .int x1), (2, .int x2), (3, .int x3), (4, .int x4)] [.int s0] M 0 0 (some (.int r)) M' := by
  intro x0 x1 x2 x3 x4 s0 M r M' h
  unfold f_X6_holds_K60 at h
  refine J_istore (pc' := 62) (lv' := [(5, .int s0), (0, .ref x0), (1, .int x1), (2, .int x2), (3, .int x3), (4, .int x4)]) C dX6_holds_60 rfl (by decide) rfl ?_
  refine J_iload (pc' := 64) C 5 dX6_holds_62 rfl rfl ?_
  refine J_if_ne (tgt := 74) (pc' := 67) C dX6_holds_64 (by decide) rfl (fun c64 => ?_) (fun c64 => ?_)
  · rw [if_neg c64] at h
    refine J_aload_n (pc' := 75) C 1 dX6_holds_74 rfl rfl rfl ?_
    refine J_iload_n (pc' := 76) C 4 dX6_holds_75 rfl rfl rfl ?_
    obtain ⟨M76, e76, h⟩ := bd h
    refine jp_203 (pc' := 79) C (fun _ => ⟨rfl, rfl⟩) dX6_holds_76 rfl e76 ?_
    refine J_aload_n (pc' := 80) C 1 dX6_holds_79 rfl rfl rfl ?_
    refine J_iload (pc' := 82) C 0 dX6_holds_80 rfl rfl ?_
    obtain ⟨M82, e82, h⟩ := bd h
    refine jp_204 (pc' := 85) C (fun _ => ⟨rfl, rfl⟩) dX6_holds_82 rfl e82 ?_
    refine J_iconst (pc' := 86) (v := (0 : Int32)) C dX6_holds_85 rfl (by decide) ?_
    obtain ⟨rfl, rfl⟩ := rt2 h
    exact J_iret C dX6_holds_86 (Nat.zero_le _) (Nat.zero_le _)
  · rw [if_pos c64] at h
    refine J_iload (pc' := 69) C 0 dX6_holds_67 rfl rfl ?_
    refine J_bipush (pc' := 71) (v := (-6 : Int32)) C dX6_holds_69 rfl (by decide) ?_
    refine J_icmp_eq (tgt := 87) (pc' := 74) C dX6_holds_71 (by decide) rfl (fun c71 => ?_) (fun c71 => ?_)
    · rw [if_pos c71] at h
      refine J_iinc (pc' := 90) (lv' := [(3, .int (x3 + 1)), (5, .int s0), (0, .ref x0), (1, .int x1), (2, .int x2), (4, .int x4)]) C 4 dX6_holds_87 rfl rfl rfl (by decide) rfl ?_
      refine J_goto (tgt := 24) C dX6_holds_90 (by decide) ?_
      refine J_sub (lv' := [(0, .ref x0), (1, .int x1), (2, .int x2), (3, .int (x3 + 1))]) [2, 3, 4, 0] rfl ?_
      exact hk24 _ _ _ _ _ _ _ h
    · rw [if_neg c71] at h
      refine J_aload_n (pc' := 75) C 1 dX6_holds_74 rfl rfl rfl ?_
      refine J_iload_n (pc' := 76) C 4 dX6_holds_75 rfl rfl rfl ?_
      obtain ⟨M76, e76, h⟩ := bd h
      refine jp_203 (pc' := 79) C (fun _ => ⟨rfl, rfl⟩) dX6_holds_76 rfl e76 ?_
      refine J_aload_n (pc' := 80) C 1 dX6_holds_79 rfl rfl rfl ?_
      refine J_iload (pc' := 82) C 0 dX6_holds_80 rfl rfl ?_
      obtain ⟨M82, e82, h⟩ := bd h
      refine jp_204 (pc' := 85) C (fun _ => ⟨rfl, rfl⟩) dX6_holds_82 rfl e82 ?_
      refine J_iconst (pc' := 86) (v := (0 : Int32)) C dX6_holds_85 rfl (by decide) ?_
      obtain ⟨rfl, rfl⟩ := rt2 h
      exact J_iret C dX6_holds_86 (Nat.zero_le _) (Nat.zero_le _)
def f_X6_holds_L24 (N : Nat) : Nat → Nat → Int32 → Int32 → Int32 → A_M → Option (Int32 × A_M)
  | 0, _, _, _, _, _ => none
  | n + 1, x0, x1, x2, x3, M =>
    (gR M x0 6 7).bind fun v26 =>
    (gI M v26 0 2).bind fun v29 =>
    if v29 ≤ x3 then
    (some ((1 : Int32), M))
    else
    ((chk M x0 6).bind fun _ =>
    bnd2 (f_X6_breaksAlone N x0 x3 x1 x2 M) fun v39 M39 =>
    if v39 = 0 then
    ((chk M39 x0 6).bind fun _ =>
    bnd2 (f_X6_breaksWith N x0 x3 x1 M39) fun v57 M57 =>
    f_X6_holds_K60 N (f_X6_holds_L24 N n) x0 x1 x2 x3 v39 v57 M57)
    else
    (f_X6_holds_K60 N (f_X6_holds_L24 N n) x0 x1 x2 x3 v39 (-6 : Int32) M39))
set_option maxHeartbeats 4000000 in
set_option maxRecDepth 100000 in
theorem ok_X6_holds_L24 {X : JX} (C : Cx X cX6_holds RX6 6 (some .int) 5 111) (N : Nat) : ∀ (n : Nat) (x0 : Nat) (x1 : Int32) (x2 : Int32) (x3 : Int32) (M : A_M) (r : Int32) (M' : A_M), f_X6_holds_L24 N n x0 x1 x2 x3 M = some (r, M') → J X 6 24 [(0, .ref x0), (1, .int x1), (2, .int x2), (3, .int x3)] [] M 0 0 (some (.int r)) M' := by
  intro n
  induction n with
  | zero =>
    intro x0 x1 x2 x3 M r M' h
    cases h
  | succ n ih =>
    intro x0 x1 x2 x3 M r M' h
    rw [f_X6_holds_L24] at h
    refine J_iload_n (pc' := 25) C 3 dX6_holds_24 rfl rfl rfl ?_
    refine J_aload_n (pc' := 26) C 0 dX6_holds_25 rfl rfl rfl ?_
    obtain ⟨v26, e26, h⟩ := bd h
    refine jg_197 (pc' := 29) C dX6_holds_26 rfl (gR_some e26) ?_
    obtain ⟨v29, e29, h⟩ := bd h
    refine jg_181 (pc' := 32) C dX6_holds_29 rfl (gI_some e29) ?_
    refine J_icmp_ge (tgt := 93) (pc' := 35) C dX6_holds_32 (by decide) rfl (fun c32 => ?_) (fun c32 => ?_)
    · rw [if_pos c32] at h
      refine J_iconst (pc' := 94) (v := (1 : Int32)) C dX6_holds_93 rfl (by decide) ?_
      obtain ⟨rfl, rfl⟩ := rt2 h
      exact J_iret C dX6_holds_94 (Nat.zero_le _) (Nat.zero_le _)
    · rw [if_neg c32] at h
      refine J_aload_n (pc' := 36) C 0 dX6_holds_35 rfl rfl rfl ?_
      refine J_iload_n (pc' := 37) C 3 dX6_holds_36 rfl rfl rfl ?_
      refine J_iload_n (pc' := 38) C 1 dX6_holds_37 rfl rfl rfl ?_
      refine J_iload_n (pc' := 39) C 2 dX6_holds_38 rfl rfl rfl ?_
      obtain ⟨_, q39, h⟩ := bd h
      obtain ⟨v39, M39, e39, h⟩ := bd2 h
      refine J_cV (pc' := 42) (st := []) (st2 := [.int v39]) (cs2 := 0) (sl2 := 0) C 6 rfl rfl q39 (ok_X6_breaksAlone N e39) mw_X6_breaksAlone wq_570 rfl dX6_holds_39 rfl rfl (Nat.le_of_ble_eq_true rfl) (by decide) (by decide) rfl rfl rfl (Nat.zero_le _) (Nat.zero_le _) ?_
      refine J_istore (pc' := 44) (lv' := [(4, .int v39), (0, .ref x0), (1, .int x1), (2, .int x2), (3, .int x3)]) C dX6_holds_42 rfl (by decide) rfl ?_
      refine J_iload (pc' := 46) C 0 dX6_holds_44 rfl rfl ?_
      refine J_if_eq (tgt := 54) (pc' := 49) C dX6_holds_46 (by decide) rfl (fun c46 => ?_) (fun c46 => ?_)
      · rw [if_pos c46] at h
        refine J_aload_n (pc' := 55) C 1 dX6_holds_54 rfl rfl rfl ?_
        refine J_iload_n (pc' := 56) C 4 dX6_holds_55 rfl rfl rfl ?_
        refine J_iload_n (pc' := 57) C 2 dX6_holds_56 rfl rfl rfl ?_
        obtain ⟨_, q57, h⟩ := bd h
        obtain ⟨v57, M57, e57, h⟩ := bd2 h
        refine J_cV (pc' := 60) (st := []) (st2 := [.int v57]) (cs2 := 0) (sl2 := 0) C 6 rfl rfl q57 (ok_X6_breaksWith N e57) mw_X6_breaksWith wq_574 rfl dX6_holds_57 rfl rfl (Nat.le_of_ble_eq_true rfl) (by decide) (by decide) rfl rfl rfl (Nat.zero_le _) (Nat.zero_le _) ?_
        refine J_sub (lv' := [(0, .ref x0), (1, .int x1), (2, .int x2), (3, .int x3), (4, .int v39)]) [1, 2, 3, 4, 0] rfl ?_
        exact ok_X6_holds_K60 C N ih _ _ _ _ _ _ _ _ _ h
      · rw [if_neg c46] at h
        refine J_bipush (pc' := 51) (v := (-6 : Int32)) C dX6_holds_49 rfl (by decide) ?_
        refine J_goto (tgt := 60) C dX6_holds_51 (by decide) ?_
        refine J_sub (lv' := [(0, .ref x0), (1, .int x1), (2, .int x2), (3, .int x3), (4, .int v39)]) [1, 2, 3, 4, 0] rfl ?_
        exact ok_X6_holds_K60 C N ih _ _ _ _ _ _ _ _ _ h
def f_X6_holds (N : Nat) (a0 : Nat) (a1 : Int32) (a2 : Int32) (M : A_M) : Option (Int32 × A_M) :=
  (chk M a0 6).bind fun _ =>
  bnd2 (f_X6_isKind N a0 a1 a2 M) fun v3 M3 =>
  if v3 = 0 then
  (some ((-2 : Int32), M3))
  else
  ((chk M3 a0 6).bind fun _ =>
  bnd2 (f_X6_hasCode N a0 M3) fun v13 M13 =>
  if v13 = 0 then
  (some ((-3 : Int32), M13))
  else
  (f_X6_holds_L24 N N a0 a1 a2 (0 : Int32) M13))
set_option maxHeartbeats 4000000 in
set_option maxRecDepth 100000 in
theorem ok_X6_holds (N : Nat) {a0 : Nat} {a1 : Int32} {a2 : Int32} {M : A_M} {r : Int32} {M' : A_M} (h : f_X6_holds N a0 a1 a2 M = some (r, M')) : Runs yX6_holds cX6_holds 6 (some .int) 5 111 0 0 [.ref a0, .int a1, .int a2] M (some (.int r)) M' := by
  refine Runs.intro (by decide) (Nat.le_of_ble_eq_true rfl) (fun X C hnm hMC hMS => ?_)
  have C : Cx X cX6_holds RX6 6 (some .int) 5 111 := C
  show J X 6 0 [(0, .ref a0), (1, .int a1), (2, .int a2)] [] M 0 0 (some (.int r)) M'
  unfold f_X6_holds at h
  refine J_aload_n (pc' := 1) C 0 dX6_holds_0 rfl rfl rfl ?_
  refine J_iload_n (pc' := 2) C 1 dX6_holds_1 rfl rfl rfl ?_
  refine J_iload_n (pc' := 3) C 2 dX6_holds_2 rfl rfl rfl ?_
  obtain ⟨_, q3, h⟩ := bd h
  obtain ⟨v3, M3, e3, h⟩ := bd2 h
  refine J_cV (pc' := 6) (st := []) (st2 := [.int v3]) (cs2 := 0) (sl2 := 0) C 6 rfl rfl q3 (ok_X6_isKind N e3) mw_X6_isKind wq_286 rfl dX6_holds_3 rfl rfl (Nat.le_of_ble_eq_true rfl) (by decide) (by decide) rfl rfl rfl (Nat.zero_le _) (Nat.zero_le _) ?_
  refine J_if_ne (tgt := 12) (pc' := 9) C dX6_holds_6 (by decide) rfl (fun c6 => ?_) (fun c6 => ?_)
  · rw [if_neg c6] at h
    refine J_aload_n (pc' := 13) C 0 dX6_holds_12 rfl rfl rfl ?_
    obtain ⟨_, q13, h⟩ := bd h
    obtain ⟨v13, M13, e13, h⟩ := bd2 h
    refine J_cV (pc' := 16) (st := []) (st2 := [.int v13]) (cs2 := 0) (sl2 := 0) C 6 rfl rfl q13 (ok_X6_hasCode N e13) mw_X6_hasCode wq_562 rfl dX6_holds_13 rfl rfl (Nat.le_of_ble_eq_true rfl) (by decide) (by decide) rfl rfl rfl (Nat.zero_le _) (Nat.zero_le _) ?_
    refine J_if_ne (tgt := 22) (pc' := 19) C dX6_holds_16 (by decide) rfl (fun c16 => ?_) (fun c16 => ?_)
    · rw [if_neg c16] at h
      refine J_iconst (pc' := 23) (v := (0 : Int32)) C dX6_holds_22 rfl (by decide) ?_
      refine J_istore_n (pc' := 24) (lv' := [(3, .int (0 : Int32)), (0, .ref a0), (1, .int a1), (2, .int a2)]) C dX6_holds_23 rfl rfl (by decide) rfl ?_
      refine J_sub (lv' := [(0, .ref a0), (1, .int a1), (2, .int a2), (3, .int (0 : Int32))]) [1, 2, 3, 0] rfl ?_
      exact ok_X6_holds_L24 C N N _ _ _ _ _ _ _ h
    · rw [if_pos c16] at h
      refine J_bipush (pc' := 21) (v := (-3 : Int32)) C dX6_holds_19 rfl (by decide) ?_
      obtain ⟨rfl, rfl⟩ := rt2 h
      exact J_iret C dX6_holds_21 (Nat.zero_le _) (Nat.zero_le _)
  · rw [if_pos c6] at h
    refine J_bipush (pc' := 11) (v := (-2 : Int32)) C dX6_holds_9 rfl (by decide) ?_
    obtain ⟨rfl, rfl⟩ := rt2 h
    exact J_iret C dX6_holds_11 (Nat.zero_le _) (Nat.zero_le _)
def f_X6_broken (N : Nat) (a0 : Nat) (a1 : Int32) (M : A_M) : Option (Int32 × A_M) :=
  if a1 = 0 then
  (if a1 = 0 then
  ((gI M a0 6 13).bind fun v17 =>
  some (v17, M))
  else
  ((gI M a0 6 14).bind fun v24 =>
  some (v24, M)))
  else
  (if a1 = (1 : Int32) then
  (if a1 = 0 then
  ((gI M a0 6 13).bind fun v17 =>
  some (v17, M))
  else
  ((gI M a0 6 14).bind fun v24 =>
  some (v24, M)))
  else
  (some ((-2 : Int32), M)))
set_option maxHeartbeats 4000000 in
set_option maxRecDepth 100000 in
theorem ok_X6_broken (N : Nat) {a0 : Nat} {a1 : Int32} {M : A_M} {r : Int32} {M' : A_M} (h : f_X6_broken N a0 a1 M = some (r, M')) : Runs yX6_broken cX6_broken 2 (some .int) 0 0 0 0 [.ref a0, .int a1] M (some (.int r)) M' := by
  refine Runs.intro (by decide) (Nat.le_of_ble_eq_true rfl) (fun X C hnm hMC hMS => ?_)
  have C : Cx X cX6_broken RX6 2 (some .int) 0 0 := C
  show J X 2 0 [(0, .ref a0), (1, .int a1)] [] M 0 0 (some (.int r)) M'
  unfold f_X6_broken at h
  refine J_iload_n (pc' := 1) C 1 dX6_broken_0 rfl rfl rfl ?_
  refine J_if_eq (tgt := 12) (pc' := 4) C dX6_broken_1 (by decide) rfl (fun c1 => ?_) (fun c1 => ?_)
  · rw [if_pos c1] at h
    refine J_iload_n (pc' := 13) C 1 dX6_broken_12 rfl rfl rfl ?_
    refine J_if_ne (tgt := 23) (pc' := 16) C dX6_broken_13 (by decide) rfl (fun c13 => ?_) (fun c13 => ?_)
    · rw [if_neg c13] at h
      refine J_aload_n (pc' := 24) C 0 dX6_broken_23 rfl rfl rfl ?_
      obtain ⟨v24, e24, h⟩ := bd h
      refine jg_204 (pc' := 27) C dX6_broken_24 rfl (gI_some e24) ?_
      obtain ⟨rfl, rfl⟩ := rt2 h
      exact J_iret C dX6_broken_27 (Nat.zero_le _) (Nat.zero_le _)
    · rw [if_pos c13] at h
      refine J_aload_n (pc' := 17) C 0 dX6_broken_16 rfl rfl rfl ?_
      obtain ⟨v17, e17, h⟩ := bd h
      refine jg_203 (pc' := 20) C dX6_broken_17 rfl (gI_some e17) ?_
      refine J_goto (tgt := 27) C dX6_broken_20 (by decide) ?_
      obtain ⟨rfl, rfl⟩ := rt2 h
      exact J_iret C dX6_broken_27 (Nat.zero_le _) (Nat.zero_le _)
  · rw [if_neg c1] at h
    refine J_iload_n (pc' := 5) C 1 dX6_broken_4 rfl rfl rfl ?_
    refine J_iconst (pc' := 6) (v := (1 : Int32)) C dX6_broken_5 rfl (by decide) ?_
    refine J_icmp_eq (tgt := 12) (pc' := 9) C dX6_broken_6 (by decide) rfl (fun c6 => ?_) (fun c6 => ?_)
    · rw [if_pos c6] at h
      refine J_iload_n (pc' := 13) C 1 dX6_broken_12 rfl rfl rfl ?_
      refine J_if_ne (tgt := 23) (pc' := 16) C dX6_broken_13 (by decide) rfl (fun c13 => ?_) (fun c13 => ?_)
      · rw [if_neg c13] at h
        refine J_aload_n (pc' := 24) C 0 dX6_broken_23 rfl rfl rfl ?_
        obtain ⟨v24, e24, h⟩ := bd h
        refine jg_204 (pc' := 27) C dX6_broken_24 rfl (gI_some e24) ?_
        obtain ⟨rfl, rfl⟩ := rt2 h
        exact J_iret C dX6_broken_27 (Nat.zero_le _) (Nat.zero_le _)
      · rw [if_pos c13] at h
        refine J_aload_n (pc' := 17) C 0 dX6_broken_16 rfl rfl rfl ?_
        obtain ⟨v17, e17, h⟩ := bd h
        refine jg_203 (pc' := 20) C dX6_broken_17 rfl (gI_some e17) ?_
        refine J_goto (tgt := 27) C dX6_broken_20 (by decide) ?_
        obtain ⟨rfl, rfl⟩ := rt2 h
        exact J_iret C dX6_broken_27 (Nat.zero_le _) (Nat.zero_le _)
    · rw [if_neg c6] at h
      refine J_bipush (pc' := 11) (v := (-2 : Int32)) C dX6_broken_9 rfl (by decide) ?_
      obtain ⟨rfl, rfl⟩ := rt2 h
      exact J_iret C dX6_broken_11 (Nat.zero_le _) (Nat.zero_le _)
def f_X6_cost (N : Nat) (a0 : Nat) (M : A_M) : Option (Int64 × A_M) :=
  (chk M a0 6).bind fun _ =>
  bnd2 (f_X6_hasCode N a0 M) fun v1 M1 =>
  if v1 = 0 then
  (some ((-3 : Int64), M1))
  else
  ((chk M1 a0 6).bind fun _ =>
  bnd2 (f_X6_costAtHand N a0 M1) fun v8 M8 =>
  some (v8, M8))
set_option maxHeartbeats 4000000 in
set_option maxRecDepth 100000 in
theorem ok_X6_cost (N : Nat) {a0 : Nat} {M : A_M} {r : Int64} {M' : A_M} (h : f_X6_cost N a0 M = some (r, M')) : Runs yX6_cost cX6_cost 1 (some .long) 2 48 0 0 [.ref a0] M (some (.long r)) M' := by
  refine Runs.intro (by decide) (Nat.le_of_ble_eq_true rfl) (fun X C hnm hMC hMS => ?_)
  have C : Cx X cX6_cost RX6 1 (some .long) 2 48 := C
  show J X 1 0 [(0, .ref a0)] [] M 0 0 (some (.long r)) M'
  unfold f_X6_cost at h
  refine J_aload_n (pc' := 1) C 0 dX6_cost_0 rfl rfl rfl ?_
  obtain ⟨_, q1, h⟩ := bd h
  obtain ⟨v1, M1, e1, h⟩ := bd2 h
  refine J_cV (pc' := 4) (st := []) (st2 := [.int v1]) (cs2 := 0) (sl2 := 0) C 6 rfl rfl q1 (ok_X6_hasCode N e1) mw_X6_hasCode wq_562 rfl dX6_cost_1 rfl rfl (Nat.le_of_ble_eq_true rfl) (by decide) (by decide) rfl rfl rfl (Nat.zero_le _) (Nat.zero_le _) ?_
  refine J_if_eq (tgt := 14) (pc' := 7) C dX6_cost_4 (by decide) rfl (fun c4 => ?_) (fun c4 => ?_)
  · rw [if_pos c4] at h
    refine J_ldc2 (pc' := 17) C dX6_cost_14 rfl wq_314 ?_
    obtain ⟨rfl, rfl⟩ := rt2 h
    exact J_lret C dX6_cost_17 (Nat.zero_le _) (Nat.zero_le _)
  · rw [if_neg c4] at h
    refine J_aload_n (pc' := 8) C 0 dX6_cost_7 rfl rfl rfl ?_
    obtain ⟨_, q8, h⟩ := bd h
    obtain ⟨v8, M8, e8, h⟩ := bd2 h
    refine J_cV (pc' := 11) (st := []) (st2 := [.long v8]) (cs2 := 0) (sl2 := 0) C 6 rfl rfl q8 (ok_X6_costAtHand N e8) mw_X6_costAtHand wq_547 rfl dX6_cost_8 rfl rfl (Nat.le_of_ble_eq_true rfl) (by decide) (by decide) rfl rfl rfl (Nat.zero_le _) (Nat.zero_le _) ?_
    refine J_goto (tgt := 17) C dX6_cost_11 (by decide) ?_
    obtain ⟨rfl, rfl⟩ := rt2 h
    exact J_lret C dX6_cost_17 (Nat.zero_le _) (Nat.zero_le _)
def f_X6_bitsOfDouble_K79 (N : Nat) (x2 : UInt64) (x4 : Int32) (M : A_M) : Option (Int64 × A_M) :=
  (nz (FP.dsub x2 FP.dconst1)).bind fun _ =>
  (nz (FP.dmul (FP.dsub x2 FP.dconst1) (4841369599423283200 : UInt64))).bind fun _ =>
  some (((((x4.toInt64) + (1023 : Int64)) <<< ((52 : Int32).toInt64 &&& 63)) ||| (FP.d2l (FP.dmul (FP.dsub x2 FP.dconst1) (4841369599423283200 : UInt64)))), M)
set_option maxHeartbeats 4000000 in
set_option maxRecDepth 100000 in
theorem ok_X6_bitsOfDouble_K79 {X : JX} (C : Cx X cX6_bitsOfDouble RX6 7 (some .long) 0 0) (N : Nat) : ∀ (x2 : UInt64) (x4 : Int32) (M : A_M) (r : Int64) (M' : A_M), f_X6_bitsOfDouble_K79 N x2 x4 M = some (r, M') → J X 7 79 [(2, .double x2), (4, .int x4)] [] M 0 0 (some (.long r)) M' := by
  intro x2 x4 M r M' h
  unfold f_X6_bitsOfDouble_K79 at h
  refine J_dload_n (pc' := 80) C 0 dX6_bitsOfDouble_79 rfl rfl rfl ?_
  refine J_dconst1 (pc' := 81) C dX6_bitsOfDouble_80 rfl ?_
  obtain ⟨v81, e81, h⟩ := bd h
  obtain ⟨c81, rfl⟩ := nz_some e81
  refine J_dsub (pc' := 82) C c81 dX6_bitsOfDouble_81 rfl ?_
  refine J_ldc2d (pc' := 85) C dX6_bitsOfDouble_82 rfl wq_609 ?_
  obtain ⟨v85, e85, h⟩ := bd h
  obtain ⟨c85, rfl⟩ := nz_some e85
  refine J_dmul (pc' := 86) C c85 dX6_bitsOfDouble_85 rfl ?_
  refine J_d2l (pc' := 87) C dX6_bitsOfDouble_86 rfl ?_
  refine J_lstore (pc' := 89) (lv' := [(5, .long (FP.d2l (FP.dmul (FP.dsub x2 FP.dconst1) (4841369599423283200 : UInt64)))), (2, .double x2), (4, .int x4)]) C dX6_bitsOfDouble_87 rfl (by decide) rfl ?_
  refine J_iload (pc' := 91) C 2 dX6_bitsOfDouble_89 rfl rfl ?_
  refine J_i2l (pc' := 92) C dX6_bitsOfDouble_91 rfl ?_
  refine J_ldc2 (pc' := 95) C dX6_bitsOfDouble_92 rfl wq_610 ?_
  refine J_ladd (pc' := 96) C dX6_bitsOfDouble_95 rfl ?_
  refine J_bipush (pc' := 98) (v := (52 : Int32)) C dX6_bitsOfDouble_96 rfl (by decide) ?_
  refine J_lshl (pc' := 99) C dX6_bitsOfDouble_98 rfl ?_
  refine J_lload (pc' := 101) C 0 dX6_bitsOfDouble_99 rfl rfl ?_
  refine J_lor (pc' := 102) C dX6_bitsOfDouble_101 rfl ?_
  obtain ⟨rfl, rfl⟩ := rt2 h
  exact J_lret C dX6_bitsOfDouble_102 (Nat.zero_le _) (Nat.zero_le _)
def f_X6_bitsOfDouble_L50 (N : Nat) : Nat → UInt64 → Int32 → Int32 → A_M → Option (Int64 × A_M)
  | 0, _, _, _, _ => none
  | n + 1, x2, x4, x5, M =>
    if (1000 : Int32) ≤ x5 then
    (f_X6_bitsOfDouble_K79 N x2 x4 M)
    else
    (if 0 ≤ (Op.cmpValue (FP.dcmp x2 FP.dconst1) .g) then
    (f_X6_bitsOfDouble_K79 N x2 x4 M)
    else
    ((nz (FP.dmul x2 (4611686018427387904 : UInt64))).bind fun _ =>
    f_X6_bitsOfDouble_L50 N n (FP.dmul x2 (4611686018427387904 : UInt64)) (x4 + (-1)) (x5 + 1) M))
set_option maxHeartbeats 4000000 in
set_option maxRecDepth 100000 in
theorem ok_X6_bitsOfDouble_L50 {X : JX} (C : Cx X cX6_bitsOfDouble RX6 7 (some .long) 0 0) (N : Nat) : ∀ (n : Nat) (x2 : UInt64) (x4 : Int32) (x5 : Int32) (M : A_M) (r : Int64) (M' : A_M), f_X6_bitsOfDouble_L50 N n x2 x4 x5 M = some (r, M') → J X 7 50 [(2, .double x2), (4, .int x4), (5, .int x5)] [] M 0 0 (some (.long r)) M' := by
  intro n
  induction n with
  | zero =>
    intro x2 x4 x5 M r M' h
    cases h
  | succ n ih =>
    intro x2 x4 x5 M r M' h
    rw [f_X6_bitsOfDouble_L50] at h
    refine J_iload (pc' := 52) C 2 dX6_bitsOfDouble_50 rfl rfl ?_
    refine J_sipush (pc' := 55) (v := (1000 : Int32)) C dX6_bitsOfDouble_52 rfl (by decide) ?_
    refine J_icmp_ge (tgt := 79) (pc' := 58) C dX6_bitsOfDouble_55 (by decide) rfl (fun c55 => ?_) (fun c55 => ?_)
    · rw [if_pos c55] at h
      refine J_sub (lv' := [(2, .double x2), (4, .int x4)]) [0, 1] rfl ?_
      exact ok_X6_bitsOfDouble_K79 C N _ _ _ _ _ h
    · rw [if_neg c55] at h
      refine J_dload_n (pc' := 59) C 0 dX6_bitsOfDouble_58 rfl rfl rfl ?_
      refine J_dconst1 (pc' := 60) C dX6_bitsOfDouble_59 rfl ?_
      refine J_dcmp (pc' := 61) C dX6_bitsOfDouble_60 rfl ?_
      refine J_if_ge (tgt := 79) (pc' := 64) C dX6_bitsOfDouble_61 (by decide) rfl (fun c61 => ?_) (fun c61 => ?_)
      · rw [if_pos c61] at h
        refine J_sub (lv' := [(2, .double x2), (4, .int x4)]) [0, 1] rfl ?_
        exact ok_X6_bitsOfDouble_K79 C N _ _ _ _ _ h
      · rw [if_neg c61] at h
        refine J_dload_n (pc' := 65) C 0 dX6_bitsOfDouble_64 rfl rfl rfl ?_
        refine J_ldc2d (pc' := 68) C dX6_bitsOfDouble_65 rfl wq_608 ?_
        obtain ⟨v68, e68, h⟩ := bd h
        obtain ⟨c68, rfl⟩ := nz_some e68
        refine J_dmul (pc' := 69) C c68 dX6_bitsOfDouble_68 rfl ?_
        refine J_dstore_n (pc' := 70) (lv' := [(2, .double (FP.dmul x2 (4611686018427387904 : UInt64))), (4, .int x4), (5, .int x5)]) C dX6_bitsOfDouble_69 rfl rfl (by decide) rfl ?_
        refine J_iinc (pc' := 73) (lv' := [(4, .int (x4 + (-1))), (2, .double (FP.dmul x2 (4611686018427387904 : UInt64))), (5, .int x5)]) C 1 dX6_bitsOfDouble_70 rfl rfl rfl (by decide) rfl ?_
        refine J_iinc (pc' := 76) (lv' := [(5, .int (x5 + 1)), (4, .int (x4 + (-1))), (2, .double (FP.dmul x2 (4611686018427387904 : UInt64)))]) C 2 dX6_bitsOfDouble_73 rfl rfl rfl (by decide) rfl ?_
        refine J_goto (tgt := 50) C dX6_bitsOfDouble_76 (by decide) ?_
        refine J_sub (lv' := [(2, .double (FP.dmul x2 (4611686018427387904 : UInt64))), (4, .int (x4 + (-1))), (5, .int (x5 + 1))]) [2, 1, 0] rfl ?_
        exact ih _ _ _ _ _ _ h
def f_X6_bitsOfDouble_K47 (N : Nat) (x2 : UInt64) (x4 : Int32) (M : A_M) : Option (Int64 × A_M) :=
  f_X6_bitsOfDouble_L50 N N x2 x4 (0 : Int32) M
set_option maxHeartbeats 4000000 in
set_option maxRecDepth 100000 in
theorem ok_X6_bitsOfDouble_K47 {X : JX} (C : Cx X cX6_bitsOfDouble RX6 7 (some .long) 0 0) (N : Nat) : ∀ (x2 : UInt64) (x4 : Int32) (M : A_M) (r : Int64) (M' : A_M), f_X6_bitsOfDouble_K47 N x2 x4 M = some (r, M') → J X 7 47 [(2, .double x2), (4, .int x4)] [] M 0 0 (some (.long r)) M' := by
  intro x2 x4 M r M' h
  unfold f_X6_bitsOfDouble_K47 at h
  refine J_iconst (pc' := 48) (v := (0 : Int32)) C dX6_bitsOfDouble_47 rfl (by decide) ?_
  refine J_istore (pc' := 50) (lv' := [(5, .int (0 : Int32)), (2, .double x2), (4, .int x4)]) C dX6_bitsOfDouble_48 rfl (by decide) rfl ?_
  refine J_sub (lv' := [(2, .double x2), (4, .int x4), (5, .int (0 : Int32))]) [1, 2, 0] rfl ?_
  exact ok_X6_bitsOfDouble_L50 C N N _ _ _ _ _ _ h
def f_X6_bitsOfDouble_L16 (N : Nat) : Nat → UInt64 → Int32 → Int32 → A_M → Option (Int64 × A_M)
  | 0, _, _, _, _ => none
  | n + 1, x2, x4, x5, M =>
    if (1000 : Int32) ≤ x5 then
    (f_X6_bitsOfDouble_K47 N x2 x4 M)
    else
    (if (Op.cmpValue (FP.dcmp x2 (4611686018427387904 : UInt64)) .l) < 0 then
    (f_X6_bitsOfDouble_K47 N x2 x4 M)
    else
    ((nz (FP.ddiv x2 (4611686018427387904 : UInt64))).bind fun _ =>
    f_X6_bitsOfDouble_L16 N n (FP.ddiv x2 (4611686018427387904 : UInt64)) (x4 + 1) (x5 + 1) M))
set_option maxHeartbeats 4000000 in
set_option maxRecDepth 100000 in
theorem ok_X6_bitsOfDouble_L16 {X : JX} (C : Cx X cX6_bitsOfDouble RX6 7 (some .long) 0 0) (N : Nat) : ∀ (n : Nat) (x2 : UInt64) (x4 : Int32) (x5 : Int32) (M : A_M) (r : Int64) (M' : A_M), f_X6_bitsOfDouble_L16 N n x2 x4 x5 M = some (r, M') → J X 7 16 [(2, .double x2), (4, .int x4), (5, .int x5)] [] M 0 0 (some (.long r)) M' := by
  intro n
  induction n with
  | zero =>
    intro x2 x4 x5 M r M' h
    cases h
  | succ n ih =>
    intro x2 x4 x5 M r M' h
    rw [f_X6_bitsOfDouble_L16] at h
    refine J_iload (pc' := 18) C 2 dX6_bitsOfDouble_16 rfl rfl ?_
    refine J_sipush (pc' := 21) (v := (1000 : Int32)) C dX6_bitsOfDouble_18 rfl (by decide) ?_
    refine J_icmp_ge (tgt := 47) (pc' := 24) C dX6_bitsOfDouble_21 (by decide) rfl (fun c21 => ?_) (fun c21 => ?_)
    · rw [if_pos c21] at h
      refine J_sub (lv' := [(2, .double x2), (4, .int x4)]) [0, 1] rfl ?_
      exact ok_X6_bitsOfDouble_K47 C N _ _ _ _ _ h
    · rw [if_neg c21] at h
      refine J_dload_n (pc' := 25) C 0 dX6_bitsOfDouble_24 rfl rfl rfl ?_
      refine J_ldc2d (pc' := 28) C dX6_bitsOfDouble_25 rfl wq_608 ?_
      refine J_dcmp (pc' := 29) C dX6_bitsOfDouble_28 rfl ?_
      refine J_if_lt (tgt := 47) (pc' := 32) C dX6_bitsOfDouble_29 (by decide) rfl (fun c29 => ?_) (fun c29 => ?_)
      · rw [if_pos c29] at h
        refine J_sub (lv' := [(2, .double x2), (4, .int x4)]) [0, 1] rfl ?_
        exact ok_X6_bitsOfDouble_K47 C N _ _ _ _ _ h
      · rw [if_neg c29] at h
        refine J_dload_n (pc' := 33) C 0 dX6_bitsOfDouble_32 rfl rfl rfl ?_
        refine J_ldc2d (pc' := 36) C dX6_bitsOfDouble_33 rfl wq_608 ?_
        obtain ⟨v36, e36, h⟩ := bd h
        obtain ⟨c36, rfl⟩ := nz_some e36
        refine J_ddiv (pc' := 37) C c36 dX6_bitsOfDouble_36 rfl ?_
        refine J_dstore_n (pc' := 38) (lv' := [(2, .double (FP.ddiv x2 (4611686018427387904 : UInt64))), (4, .int x4), (5, .int x5)]) C dX6_bitsOfDouble_37 rfl rfl (by decide) rfl ?_
        refine J_iinc (pc' := 41) (lv' := [(4, .int (x4 + 1)), (2, .double (FP.ddiv x2 (4611686018427387904 : UInt64))), (5, .int x5)]) C 1 dX6_bitsOfDouble_38 rfl rfl rfl (by decide) rfl ?_
        refine J_iinc (pc' := 44) (lv' := [(5, .int (x5 + 1)), (4, .int (x4 + 1)), (2, .double (FP.ddiv x2 (4611686018427387904 : UInt64)))]) C 2 dX6_bitsOfDouble_41 rfl rfl rfl (by decide) rfl ?_
        refine J_goto (tgt := 16) C dX6_bitsOfDouble_44 (by decide) ?_
        refine J_sub (lv' := [(2, .double (FP.ddiv x2 (4611686018427387904 : UInt64))), (4, .int (x4 + 1)), (5, .int (x5 + 1))]) [2, 1, 0] rfl ?_
        exact ih _ _ _ _ _ _ h
def f_X6_bitsOfDouble (N : Nat) (a0 : UInt64) (M : A_M) : Option (Int64 × A_M) :=
  if 0 < (Op.cmpValue (FP.dcmp a0 FP.dconst0) .l) then
  (f_X6_bitsOfDouble_L16 N N a0 (0 : Int32) (0 : Int32) M)
  else
  (some ((0 : Int64), M))
set_option maxHeartbeats 4000000 in
set_option maxRecDepth 100000 in
theorem ok_X6_bitsOfDouble (N : Nat) {a0 : UInt64} {M : A_M} {r : Int64} {M' : A_M} (h : f_X6_bitsOfDouble N a0 M = some (r, M')) : Runs yX6_bitsOfDouble cX6_bitsOfDouble 7 (some .long) 0 0 0 0 [.double a0] M (some (.long r)) M' := by
  refine Runs.intro (by decide) (Nat.le_of_ble_eq_true rfl) (fun X C hnm hMC hMS => ?_)
  have C : Cx X cX6_bitsOfDouble RX6 7 (some .long) 0 0 := C
  show J X 7 0 [(0, .double a0)] [] M 0 0 (some (.long r)) M'
  unfold f_X6_bitsOfDouble at h
  refine J_dload_n (pc' := 1) C 0 dX6_bitsOfDouble_0 rfl rfl rfl ?_
  refine J_dconst0 (pc' := 2) C dX6_bitsOfDouble_1 rfl ?_
  refine J_dcmp (pc' := 3) C dX6_bitsOfDouble_2 rfl ?_
  refine J_if_gt (tgt := 8) (pc' := 6) C dX6_bitsOfDouble_3 (by decide) rfl (fun c3 => ?_) (fun c3 => ?_)
  · rw [if_pos c3] at h
    refine J_dload_n (pc' := 9) C 0 dX6_bitsOfDouble_8 rfl rfl rfl ?_
    refine J_dstore_n (pc' := 10) (lv' := [(2, .double a0), (0, .double a0)]) C dX6_bitsOfDouble_9 rfl rfl (by decide) rfl ?_
    refine J_iconst (pc' := 11) (v := (0 : Int32)) C dX6_bitsOfDouble_10 rfl (by decide) ?_
    refine J_istore (pc' := 13) (lv' := [(4, .int (0 : Int32)), (2, .double a0), (0, .double a0)]) C dX6_bitsOfDouble_11 rfl (by decide) rfl ?_
    refine J_iconst (pc' := 14) (v := (0 : Int32)) C dX6_bitsOfDouble_13 rfl (by decide) ?_
    refine J_istore (pc' := 16) (lv' := [(5, .int (0 : Int32)), (4, .int (0 : Int32)), (2, .double a0), (0, .double a0)]) C dX6_bitsOfDouble_14 rfl (by decide) rfl ?_
    refine J_sub (lv' := [(2, .double a0), (4, .int (0 : Int32)), (5, .int (0 : Int32))]) [2, 1, 0] rfl ?_
    exact ok_X6_bitsOfDouble_L16 C N N _ _ _ _ _ _ h
  · rw [if_neg c3] at h
    refine J_lconst (pc' := 7) (v := (0 : Int64)) C dX6_bitsOfDouble_6 rfl (by decide) ?_
    obtain ⟨rfl, rfl⟩ := rt2 h
    exact J_lret C dX6_bitsOfDouble_7 (Nat.zero_le _) (Nat.zero_le _)
def f_X6_mean_K39 (N : Nat) (x0 : Nat) (x1 : Int64) (M : A_M) : Option (Int64 × A_M) :=
  if 0 ≤ (lg_cmp x1 (1 : Int64)) then
  ((chk M x0 6).bind fun _ =>
  bnd2 (f_X6_costAtHand N x0 M) fun v52 M52 =>
  (nz (FP.ddiv (FP.l2d v52) (FP.l2d x1))).bind fun _ =>
  bnd2 (f_X6_bitsOfDouble N (FP.ddiv (FP.l2d v52) (FP.l2d x1)) M52) fun v59 M59 =>
  some (v59, M59))
  else
  (some ((-3 : Int64), M))
set_option maxHeartbeats 4000000 in
set_option maxRecDepth 100000 in
theorem ok_X6_mean_K39 {X : JX} (C : Cx X cX6_mean RX6 4 (some .long) 2 48) (N : Nat) : ∀ (x0 : Nat) (x1 : Int64) (M : A_M) (r : Int64) (M' : A_M), f_X6_mean_K39 N x0 x1 M = some (r, M') → J X 4 39 [(0, .ref x0), (1, .long x1)] [] M 0 0 (some (.long r)) M' := by
  intro x0 x1 M r M' h
  unfold f_X6_mean_K39 at h
  refine J_lload_n (pc' := 40) C 1 dX6_mean_39 rfl rfl rfl ?_
  refine J_lconst (pc' := 41) (v := (1 : Int64)) C dX6_mean_40 rfl (by decide) ?_
  refine J_lcmp (pc' := 42) C dX6_mean_41 rfl ?_
  refine J_if_ge (tgt := 51) (pc' := 45) C dX6_mean_42 (by decide) rfl (fun c42 => ?_) (fun c42 => ?_)
  · rw [if_pos c42] at h
    refine J_aload_n (pc' := 52) C 0 dX6_mean_51 rfl rfl rfl ?_
    obtain ⟨_, q52, h⟩ := bd h
    obtain ⟨v52, M52, e52, h⟩ := bd2 h
    refine J_cV (pc' := 55) (st := []) (st2 := [.long v52]) (cs2 := 0) (sl2 := 0) C 6 rfl rfl q52 (ok_X6_costAtHand N e52) mw_X6_costAtHand wq_547 rfl dX6_mean_52 rfl rfl (Nat.le_of_ble_eq_true rfl) (by decide) (by decide) rfl rfl rfl (Nat.zero_le _) (Nat.zero_le _) ?_
    refine J_l2d (pc' := 56) C dX6_mean_55 rfl ?_
    refine J_lload_n (pc' := 57) C 1 dX6_mean_56 rfl rfl rfl ?_
    refine J_l2d (pc' := 58) C dX6_mean_57 rfl ?_
    obtain ⟨v58, e58, h⟩ := bd h
    obtain ⟨c58, rfl⟩ := nz_some e58
    refine J_ddiv (pc' := 59) C c58 dX6_mean_58 rfl ?_
    obtain ⟨v59, M59, e59, h⟩ := bd2 h
    refine J_cS (pc' := 62) (st := []) (st2 := [.long v59]) (cs2 := 0) (sl2 := 0) C (ok_X6_bitsOfDouble N e59) mw_X6_bitsOfDouble wq_605 rfl dX6_mean_59 rfl rfl (Nat.le_of_ble_eq_true rfl) (by decide) (by decide) rfl rfl rfl (Nat.zero_le _) (Nat.zero_le _) ?_
    obtain ⟨rfl, rfl⟩ := rt2 h
    exact J_lret C dX6_mean_62 (Nat.zero_le _) (Nat.zero_le _)
  · rw [if_neg c42] at h
    refine J_ldc2 (pc' := 48) C dX6_mean_45 rfl wq_314 ?_
    refine J_goto (tgt := 62) C dX6_mean_48 (by decide) ?_
    obtain ⟨rfl, rfl⟩ := rt2 h
    exact J_lret C dX6_mean_62 (Nat.zero_le _) (Nat.zero_le _)
def f_X6_mean_L15 (N : Nat) : Nat → Nat → Int64 → Int32 → A_M → Option (Int64 × A_M)
  | 0, _, _, _, _ => none
  | n + 1, x0, x1, x3, M =>
    (gI M x0 6 11).bind fun v17 =>
    if v17 ≤ x3 then
    (f_X6_mean_K39 N x0 x1 M)
    else
    ((gR M x0 6 1).bind fun v25 =>
    (ldI M v25 x3).bind fun v29 =>
    f_X6_mean_L15 N n x0 (x1 + (v29.toInt64)) (x3 + 1) M)
set_option maxHeartbeats 4000000 in
set_option maxRecDepth 100000 in
theorem ok_X6_mean_L15 {X : JX} (C : Cx X cX6_mean RX6 4 (some .long) 2 48) (N : Nat) : ∀ (n : Nat) (x0 : Nat) (x1 : Int64) (x3 : Int32) (M : A_M) (r : Int64) (M' : A_M), f_X6_mean_L15 N n x0 x1 x3 M = some (r, M') → J X 4 15 [(0, .ref x0), (1, .long x1), (3, .int x3)] [] M 0 0 (some (.long r)) M' := by
  intro n
  induction n with
  | zero =>
    intro x0 x1 x3 M r M' h
    cases h
  | succ n ih =>
    intro x0 x1 x3 M r M' h
    rw [f_X6_mean_L15] at h
    refine J_iload_n (pc' := 16) C 2 dX6_mean_15 rfl rfl rfl ?_
    refine J_aload_n (pc' := 17) C 0 dX6_mean_16 rfl rfl rfl ?_
    obtain ⟨v17, e17, h⟩ := bd h
    refine jg_201 (pc' := 20) C dX6_mean_17 rfl (gI_some e17) ?_
    refine J_icmp_ge (tgt := 39) (pc' := 23) C dX6_mean_20 (by decide) rfl (fun c20 => ?_) (fun c20 => ?_)
    · rw [if_pos c20] at h
      refine J_sub (lv' := [(0, .ref x0), (1, .long x1)]) [0, 1] rfl ?_
      exact ok_X6_mean_K39 C N _ _ _ _ _ h
    · rw [if_neg c20] at h
      refine J_lload_n (pc' := 24) C 1 dX6_mean_23 rfl rfl rfl ?_
      refine J_aload_n (pc' := 25) C 0 dX6_mean_24 rfl rfl rfl ?_
      obtain ⟨v25, e25, h⟩ := bd h
      refine jg_191 (pc' := 28) C dX6_mean_25 rfl (gR_some e25) ?_
      refine J_iload_n (pc' := 29) C 2 dX6_mean_28 rfl rfl rfl ?_
      obtain ⟨v29, e29, h⟩ := bd h
      refine J_iald (pc' := 30) C dX6_mean_29 rfl e29 ?_
      refine J_i2l (pc' := 31) C dX6_mean_30 rfl ?_
      refine J_ladd (pc' := 32) C dX6_mean_31 rfl ?_
      refine J_lstore_n (pc' := 33) (lv' := [(1, .long (x1 + (v29.toInt64))), (0, .ref x0), (3, .int x3)]) C dX6_mean_32 rfl rfl (by decide) rfl ?_
      refine J_iinc (pc' := 36) (lv' := [(3, .int (x3 + 1)), (1, .long (x1 + (v29.toInt64))), (0, .ref x0)]) C 2 dX6_mean_33 rfl rfl rfl (by decide) rfl ?_
      refine J_goto (tgt := 15) C dX6_mean_36 (by decide) ?_
      refine J_sub (lv' := [(0, .ref x0), (1, .long (x1 + (v29.toInt64))), (3, .int (x3 + 1))]) [2, 1, 0] rfl ?_
      exact ih _ _ _ _ _ _ h
def f_X6_mean (N : Nat) (a0 : Nat) (M : A_M) : Option (Int64 × A_M) :=
  (chk M a0 6).bind fun _ =>
  bnd2 (f_X6_hasCode N a0 M) fun v1 M1 =>
  if v1 = 0 then
  (some ((-3 : Int64), M1))
  else
  (f_X6_mean_L15 N N a0 (0 : Int64) (0 : Int32) M1)
set_option maxHeartbeats 4000000 in
set_option maxRecDepth 100000 in
theorem ok_X6_mean (N : Nat) {a0 : Nat} {M : A_M} {r : Int64} {M' : A_M} (h : f_X6_mean N a0 M = some (r, M')) : Runs yX6_mean cX6_mean 4 (some .long) 2 48 0 0 [.ref a0] M (some (.long r)) M' := by
  refine Runs.intro (by decide) (Nat.le_of_ble_eq_true rfl) (fun X C hnm hMC hMS => ?_)
  have C : Cx X cX6_mean RX6 4 (some .long) 2 48 := C
  show J X 4 0 [(0, .ref a0)] [] M 0 0 (some (.long r)) M'
  unfold f_X6_mean at h
  refine J_aload_n (pc' := 1) C 0 dX6_mean_0 rfl rfl rfl ?_
  obtain ⟨_, q1, h⟩ := bd h
  obtain ⟨v1, M1, e1, h⟩ := bd2 h
  refine J_cV (pc' := 4) (st := []) (st2 := [.int v1]) (cs2 := 0) (sl2 := 0) C 6 rfl rfl q1 (ok_X6_hasCode N e1) mw_X6_hasCode wq_562 rfl dX6_mean_1 rfl rfl (Nat.le_of_ble_eq_true rfl) (by decide) (by decide) rfl rfl rfl (Nat.zero_le _) (Nat.zero_le _) ?_
  refine J_if_ne (tgt := 11) (pc' := 7) C dX6_mean_4 (by decide) rfl (fun c4 => ?_) (fun c4 => ?_)
  · rw [if_neg c4] at h
    refine J_lconst (pc' := 12) (v := (0 : Int64)) C dX6_mean_11 rfl (by decide) ?_
    refine J_lstore_n (pc' := 13) (lv' := [(1, .long (0 : Int64)), (0, .ref a0)]) C dX6_mean_12 rfl rfl (by decide) rfl ?_
    refine J_iconst (pc' := 14) (v := (0 : Int32)) C dX6_mean_13 rfl (by decide) ?_
    refine J_istore_n (pc' := 15) (lv' := [(3, .int (0 : Int32)), (1, .long (0 : Int64)), (0, .ref a0)]) C dX6_mean_14 rfl rfl (by decide) rfl ?_
    refine J_sub (lv' := [(0, .ref a0), (1, .long (0 : Int64)), (3, .int (0 : Int32))]) [2, 1, 0] rfl ?_
    exact ok_X6_mean_L15 C N N _ _ _ _ _ _ h
  · rw [if_pos c4] at h
    refine J_ldc2 (pc' := 10) C dX6_mean_7 rfl wq_314 ?_
    obtain ⟨rfl, rfl⟩ := rt2 h
    exact J_lret C dX6_mean_10 (Nat.zero_le _) (Nat.zero_le _)
def f_X6_length (N : Nat) (a0 : Nat) (a1 : Int32) (M : A_M) : Option (Int32 × A_M) :=
  (chk M a0 6).bind fun _ =>
  bnd2 (f_X6_isThing N a0 a1 M) fun v2 M2 =>
  if v2 = 0 then
  (some ((-1 : Int32), M2))
  else
  ((chk M2 a0 6).bind fun _ =>
  bnd2 (f_X6_hasCode N a0 M2) fun v11 M11 =>
  if v11 = 0 then
  (some ((-3 : Int32), M11))
  else
  ((gR M11 a0 6 7).bind fun v18 =>
  (gR M11 v18 0 1).bind fun v21 =>
  (ldI M11 v21 a1).bind fun v25 =>
  some (v25, M11)))
set_option maxHeartbeats 4000000 in
set_option maxRecDepth 100000 in
theorem ok_X6_length (N : Nat) {a0 : Nat} {a1 : Int32} {M : A_M} {r : Int32} {M' : A_M} (h : f_X6_length N a0 a1 M = some (r, M')) : Runs yX6_length cX6_length 2 (some .int) 1 21 0 0 [.ref a0, .int a1] M (some (.int r)) M' := by
  refine Runs.intro (by decide) (Nat.le_of_ble_eq_true rfl) (fun X C hnm hMC hMS => ?_)
  have C : Cx X cX6_length RX6 2 (some .int) 1 21 := C
  show J X 2 0 [(0, .ref a0), (1, .int a1)] [] M 0 0 (some (.int r)) M'
  unfold f_X6_length at h
  refine J_aload_n (pc' := 1) C 0 dX6_length_0 rfl rfl rfl ?_
  refine J_iload_n (pc' := 2) C 1 dX6_length_1 rfl rfl rfl ?_
  obtain ⟨_, q2, h⟩ := bd h
  obtain ⟨v2, M2, e2, h⟩ := bd2 h
  refine J_cV (pc' := 5) (st := []) (st2 := [.int v2]) (cs2 := 0) (sl2 := 0) C 6 rfl rfl q2 (ok_X6_isThing N e2) mw_X6_isThing wq_278 rfl dX6_length_2 rfl rfl (Nat.le_of_ble_eq_true rfl) (by decide) (by decide) rfl rfl rfl (Nat.zero_le _) (Nat.zero_le _) ?_
  refine J_if_ne (tgt := 10) (pc' := 8) C dX6_length_5 (by decide) rfl (fun c5 => ?_) (fun c5 => ?_)
  · rw [if_neg c5] at h
    refine J_aload_n (pc' := 11) C 0 dX6_length_10 rfl rfl rfl ?_
    obtain ⟨_, q11, h⟩ := bd h
    obtain ⟨v11, M11, e11, h⟩ := bd2 h
    refine J_cV (pc' := 14) (st := []) (st2 := [.int v11]) (cs2 := 0) (sl2 := 0) C 6 rfl rfl q11 (ok_X6_hasCode N e11) mw_X6_hasCode wq_562 rfl dX6_length_11 rfl rfl (Nat.le_of_ble_eq_true rfl) (by decide) (by decide) rfl rfl rfl (Nat.zero_le _) (Nat.zero_le _) ?_
    refine J_if_eq (tgt := 29) (pc' := 17) C dX6_length_14 (by decide) rfl (fun c14 => ?_) (fun c14 => ?_)
    · rw [if_pos c14] at h
      refine J_bipush (pc' := 31) (v := (-3 : Int32)) C dX6_length_29 rfl (by decide) ?_
      obtain ⟨rfl, rfl⟩ := rt2 h
      exact J_iret C dX6_length_31 (Nat.zero_le _) (Nat.zero_le _)
    · rw [if_neg c14] at h
      refine J_aload_n (pc' := 18) C 0 dX6_length_17 rfl rfl rfl ?_
      obtain ⟨v18, e18, h⟩ := bd h
      refine jg_197 (pc' := 21) C dX6_length_18 rfl (gR_some e18) ?_
      obtain ⟨v21, e21, h⟩ := bd h
      refine jg_177 (pc' := 24) C dX6_length_21 rfl (gR_some e21) ?_
      refine J_iload_n (pc' := 25) C 1 dX6_length_24 rfl rfl rfl ?_
      obtain ⟨v25, e25, h⟩ := bd h
      refine J_iald (pc' := 26) C dX6_length_25 rfl e25 ?_
      refine J_goto (tgt := 31) C dX6_length_26 (by decide) ?_
      obtain ⟨rfl, rfl⟩ := rt2 h
      exact J_iret C dX6_length_31 (Nat.zero_le _) (Nat.zero_le _)
  · rw [if_pos c5] at h
    refine J_iconst (pc' := 9) (v := (-1 : Int32)) C dX6_length_8 rfl (by decide) ?_
    obtain ⟨rfl, rfl⟩ := rt2 h
    exact J_iret C dX6_length_9 (Nat.zero_le _) (Nat.zero_le _)
def f_X6_word (N : Nat) (a0 : Nat) (a1 : Int32) (a2 : Int32) (M : A_M) : Option (Int32 × A_M) :=
  (chk M a0 6).bind fun _ =>
  bnd2 (f_X6_isThing N a0 a1 M) fun v2 M2 =>
  if v2 = 0 then
  (some ((-1 : Int32), M2))
  else
  ((chk M2 a0 6).bind fun _ =>
  bnd2 (f_X6_hasCode N a0 M2) fun v11 M11 =>
  if v11 = 0 then
  (some ((-3 : Int32), M11))
  else
  (if a2 < 0 then
  (some ((-6 : Int32), M11))
  else
  ((gR M11 a0 6 7).bind fun v26 =>
  (gR M11 v26 0 1).bind fun v29 =>
  (ldI M11 v29 a1).bind fun v33 =>
  if a2 < v33 then
  ((gR M11 a0 6 7).bind fun v43 =>
  (gR M11 v43 0 0).bind fun v46 =>
  (ldJ M11 v46 a1).bind fun v50 =>
  bnd2 (f_X6_signOfRow N v50 a2 M11) fun v52 M52 =>
  some (v52, M52))
  else
  (some ((-6 : Int32), M11)))))
set_option maxHeartbeats 4000000 in
set_option maxRecDepth 100000 in
theorem ok_X6_word (N : Nat) {a0 : Nat} {a1 : Int32} {a2 : Int32} {M : A_M} {r : Int32} {M' : A_M} (h : f_X6_word N a0 a1 a2 M = some (r, M')) : Runs yX6_word cX6_word 3 (some .int) 1 22 0 0 [.ref a0, .int a1, .int a2] M (some (.int r)) M' := by
  refine Runs.intro (by decide) (Nat.le_of_ble_eq_true rfl) (fun X C hnm hMC hMS => ?_)
  have C : Cx X cX6_word RX6 3 (some .int) 1 22 := C
  show J X 3 0 [(0, .ref a0), (1, .int a1), (2, .int a2)] [] M 0 0 (some (.int r)) M'
  unfold f_X6_word at h
  refine J_aload_n (pc' := 1) C 0 dX6_word_0 rfl rfl rfl ?_
  refine J_iload_n (pc' := 2) C 1 dX6_word_1 rfl rfl rfl ?_
  obtain ⟨_, q2, h⟩ := bd h
  obtain ⟨v2, M2, e2, h⟩ := bd2 h
  refine J_cV (pc' := 5) (st := []) (st2 := [.int v2]) (cs2 := 0) (sl2 := 0) C 6 rfl rfl q2 (ok_X6_isThing N e2) mw_X6_isThing wq_278 rfl dX6_word_2 rfl rfl (Nat.le_of_ble_eq_true rfl) (by decide) (by decide) rfl rfl rfl (Nat.zero_le _) (Nat.zero_le _) ?_
  refine J_if_ne (tgt := 10) (pc' := 8) C dX6_word_5 (by decide) rfl (fun c5 => ?_) (fun c5 => ?_)
  · rw [if_neg c5] at h
    refine J_aload_n (pc' := 11) C 0 dX6_word_10 rfl rfl rfl ?_
    obtain ⟨_, q11, h⟩ := bd h
    obtain ⟨v11, M11, e11, h⟩ := bd2 h
    refine J_cV (pc' := 14) (st := []) (st2 := [.int v11]) (cs2 := 0) (sl2 := 0) C 6 rfl rfl q11 (ok_X6_hasCode N e11) mw_X6_hasCode wq_562 rfl dX6_word_11 rfl rfl (Nat.le_of_ble_eq_true rfl) (by decide) (by decide) rfl rfl rfl (Nat.zero_le _) (Nat.zero_le _) ?_
    refine J_if_ne (tgt := 20) (pc' := 17) C dX6_word_14 (by decide) rfl (fun c14 => ?_) (fun c14 => ?_)
    · rw [if_neg c14] at h
      refine J_iload_n (pc' := 21) C 2 dX6_word_20 rfl rfl rfl ?_
      refine J_if_lt (tgt := 37) (pc' := 24) C dX6_word_21 (by decide) rfl (fun c21 => ?_) (fun c21 => ?_)
      · rw [if_pos c21] at h
        refine J_bipush (pc' := 39) (v := (-6 : Int32)) C dX6_word_37 rfl (by decide) ?_
        refine J_goto (tgt := 55) C dX6_word_39 (by decide) ?_
        obtain ⟨rfl, rfl⟩ := rt2 h
        exact J_iret C dX6_word_55 (Nat.zero_le _) (Nat.zero_le _)
      · rw [if_neg c21] at h
        refine J_iload_n (pc' := 25) C 2 dX6_word_24 rfl rfl rfl ?_
        refine J_aload_n (pc' := 26) C 0 dX6_word_25 rfl rfl rfl ?_
        obtain ⟨v26, e26, h⟩ := bd h
        refine jg_197 (pc' := 29) C dX6_word_26 rfl (gR_some e26) ?_
        obtain ⟨v29, e29, h⟩ := bd h
        refine jg_177 (pc' := 32) C dX6_word_29 rfl (gR_some e29) ?_
        refine J_iload_n (pc' := 33) C 1 dX6_word_32 rfl rfl rfl ?_
        obtain ⟨v33, e33, h⟩ := bd h
        refine J_iald (pc' := 34) C dX6_word_33 rfl e33 ?_
        refine J_icmp_lt (tgt := 42) (pc' := 37) C dX6_word_34 (by decide) rfl (fun c34 => ?_) (fun c34 => ?_)
        · rw [if_pos c34] at h
          refine J_aload_n (pc' := 43) C 0 dX6_word_42 rfl rfl rfl ?_
          obtain ⟨v43, e43, h⟩ := bd h
          refine jg_197 (pc' := 46) C dX6_word_43 rfl (gR_some e43) ?_
          obtain ⟨v46, e46, h⟩ := bd h
          refine jg_173 (pc' := 49) C dX6_word_46 rfl (gR_some e46) ?_
          refine J_iload_n (pc' := 50) C 1 dX6_word_49 rfl rfl rfl ?_
          obtain ⟨v50, e50, h⟩ := bd h
          refine J_lald (pc' := 51) C dX6_word_50 rfl e50 ?_
          refine J_iload_n (pc' := 52) C 2 dX6_word_51 rfl rfl rfl ?_
          obtain ⟨v52, M52, e52, h⟩ := bd2 h
          refine J_cS (pc' := 55) (st := []) (st2 := [.int v52]) (cs2 := 0) (sl2 := 0) C (ok_X6_signOfRow N e52) mw_X6_signOfRow wq_551 rfl dX6_word_52 rfl rfl (Nat.le_of_ble_eq_true rfl) (by decide) (by decide) rfl rfl rfl (Nat.zero_le _) (Nat.zero_le _) ?_
          obtain ⟨rfl, rfl⟩ := rt2 h
          exact J_iret C dX6_word_55 (Nat.zero_le _) (Nat.zero_le _)
        · rw [if_neg c34] at h
          refine J_bipush (pc' := 39) (v := (-6 : Int32)) C dX6_word_37 rfl (by decide) ?_
          refine J_goto (tgt := 55) C dX6_word_39 (by decide) ?_
          obtain ⟨rfl, rfl⟩ := rt2 h
          exact J_iret C dX6_word_55 (Nat.zero_le _) (Nat.zero_le _)
    · rw [if_pos c14] at h
      refine J_bipush (pc' := 19) (v := (-3 : Int32)) C dX6_word_17 rfl (by decide) ?_
      obtain ⟨rfl, rfl⟩ := rt2 h
      exact J_iret C dX6_word_19 (Nat.zero_le _) (Nat.zero_le _)
  · rw [if_pos c5] at h
    refine J_iconst (pc' := 9) (v := (-1 : Int32)) C dX6_word_8 rfl (by decide) ?_
    obtain ⟨rfl, rfl⟩ := rt2 h
    exact J_iret C dX6_word_9 (Nat.zero_le _) (Nat.zero_le _)
def f_X6_room_K70 (N : Nat) (k23 : Nat → UInt64 → Int32 → A_M → Option (Int64 × A_M)) (x0 : Nat) (x1 : UInt64) (x3 : Int32) (x4 : UInt64) (M : A_M) : Option (Int64 × A_M) :=
  (nz (FP.dadd x1 x4)).bind fun _ =>
  k23 x0 (FP.dadd x1 x4) (x3 + 1) M
set_option maxHeartbeats 4000000 in
set_option maxRecDepth 100000 in
theorem ok_X6_room_K70 {X : JX} (C : Cx X cX6_room RX6 7 (some .long) 1 26) (N : Nat) {k23 : Nat → UInt64 → Int32 → A_M → Option (Int64 × A_M)} (hk23 : ∀ (x0 : Nat) (x1 : UInt64) (x3 : Int32) (M : A_M) (r : Int64) (M' : A_M), k23 x0 x1 x3 M = some (r, M') → J X 7 23 [(0, .ref x0), (1, .double x1), (3, .int x3)] [] M 0 0 (some (.long r)) M') : ∀ (x0 : Nat) (x1 : UInt64) (x3 : Int32) (x4 : UInt64) (M : A_M) (r : Int64) (M' : A_M), f_X6_room_K70 N k23 x0 x1 x3 x4 M = some (r, M') → J X 7 70 [(0, .ref x0), (1, .double x1), (3, .int x3), (4, .double x4)] [] M 0 0 (some (.long r)) M' := by
  intro x0 x1 x3 x4 M r M' h
  unfold f_X6_room_K70 at h
  refine J_dload_n (pc' := 71) C 1 dX6_room_70 rfl rfl rfl ?_
  refine J_dload (pc' := 73) C 3 dX6_room_71 rfl rfl ?_
  obtain ⟨v73, e73, h⟩ := bd h
  obtain ⟨c73, rfl⟩ := nz_some e73
  refine J_dadd (pc' := 74) C c73 dX6_room_73 rfl ?_
  refine J_dstore_n (pc' := 75) (lv' := [(1, .double (FP.dadd x1 x4)), (0, .ref x0), (3, .int x3), (4, .double x4)]) C dX6_room_74 rfl rfl (by decide) rfl ?_
  refine J_iinc (pc' := 78) (lv' := [(3, .int (x3 + 1)), (1, .double (FP.dadd x1 x4)), (0, .ref x0), (4, .double x4)]) C 2 dX6_room_75 rfl rfl rfl (by decide) rfl ?_
  refine J_goto (tgt := 23) C dX6_room_78 (by decide) ?_
  refine J_sub (lv' := [(0, .ref x0), (1, .double (FP.dadd x1 x4)), (3, .int (x3 + 1))]) [2, 1, 0] rfl ?_
  exact hk23 _ _ _ _ _ _ h
def f_X6_room_L40 (N : Nat) (k23 : Nat → UInt64 → Int32 → A_M → Option (Int64 × A_M)) : Nat → Nat → UInt64 → Int32 → UInt64 → Int32 → A_M → Option (Int64 × A_M)
  | 0, _, _, _, _, _, _ => none
  | n + 1, x0, x1, x3, x4, x6, M =>
    (gR M x0 6 7).bind fun v43 =>
    (gR M v43 0 1).bind fun v46 =>
    (ldI M v46 x3).bind fun v50 =>
    if v50 ≤ x6 then
    (f_X6_room_K70 N k23 x0 x1 x3 x4 M)
    else
    ((gI M x0 6 10).bind fun v57 =>
    (nz (FP.ddiv x4 (FP.i2d v57))).bind fun _ =>
    f_X6_room_L40 N k23 n x0 x1 x3 (FP.ddiv x4 (FP.i2d v57)) (x6 + 1) M)
set_option maxHeartbeats 4000000 in
set_option maxRecDepth 100000 in
theorem ok_X6_room_L40 {X : JX} (C : Cx X cX6_room RX6 7 (some .long) 1 26) (N : Nat) {k23 : Nat → UInt64 → Int32 → A_M → Option (Int64 × A_M)} (hk23 : ∀ (x0 : Nat) (x1 : UInt64) (x3 : Int32) (M : A_M) (r : Int64) (M' : A_M), k23 x0 x1 x3 M = some (r, M') → J X 7 23 [(0, .ref x0), (1, .double x1), (3, .int x3)] [] M 0 0 (some (.long r)) M') : ∀ (n : Nat) (x0 : Nat) (x1 : UInt64) (x3 : Int32) (x4 : UInt64) (x6 : Int32) (M : A_M) (r : Int64) (M' : A_M), f_X6_room_L40 N k23 n x0 x1 x3 x4 x6 M = some (r, M') → J X 7 40 [(0, .ref x0), (1, .double x1), (3, .int x3), (4, .double x4), (6, .int x6)] [] M 0 0 (some (.long r)) M' := by
  intro n
  induction n with
  | zero =>
    intro x0 x1 x3 x4 x6 M r M' h
    cases h
  | succ n ih =>
    intro x0 x1 x3 x4 x6 M r M' h
    rw [f_X6_room_L40] at h
    refine J_iload (pc' := 42) C 4 dX6_room_40 rfl rfl ?_
    refine J_aload_n (pc' := 43) C 0 dX6_room_42 rfl rfl rfl ?_
    obtain ⟨v43, e43, h⟩ := bd h
    refine jg_197 (pc' := 46) C dX6_room_43 rfl (gR_some e43) ?_
    obtain ⟨v46, e46, h⟩ := bd h
    refine jg_177 (pc' := 49) C dX6_room_46 rfl (gR_some e46) ?_
    refine J_iload_n (pc' := 50) C 2 dX6_room_49 rfl rfl rfl ?_
    obtain ⟨v50, e50, h⟩ := bd h
    refine J_iald (pc' := 51) C dX6_room_50 rfl e50 ?_
    refine J_icmp_ge (tgt := 70) (pc' := 54) C dX6_room_51 (by decide) rfl (fun c51 => ?_) (fun c51 => ?_)
    · rw [if_pos c51] at h
      refine J_sub (lv' := [(0, .ref x0), (1, .double x1), (3, .int x3), (4, .double x4)]) [0, 1, 2, 3] rfl ?_
      exact ok_X6_room_K70 C N hk23 _ _ _ _ _ _ _ h
    · rw [if_neg c51] at h
      refine J_dload (pc' := 56) C 3 dX6_room_54 rfl rfl ?_
      refine J_aload_n (pc' := 57) C 0 dX6_room_56 rfl rfl rfl ?_
      obtain ⟨v57, e57, h⟩ := bd h
      refine jg_200 (pc' := 60) C dX6_room_57 rfl (gI_some e57) ?_
      refine J_i2d (pc' := 61) C dX6_room_60 rfl ?_
      obtain ⟨v61, e61, h⟩ := bd h
      obtain ⟨c61, rfl⟩ := nz_some e61
      refine J_ddiv (pc' := 62) C c61 dX6_room_61 rfl ?_
      refine J_dstore (pc' := 64) (lv' := [(4, .double (FP.ddiv x4 (FP.i2d v57))), (0, .ref x0), (1, .double x1), (3, .int x3), (6, .int x6)]) C dX6_room_62 rfl (by decide) rfl ?_
      refine J_iinc (pc' := 67) (lv' := [(6, .int (x6 + 1)), (4, .double (FP.ddiv x4 (FP.i2d v57))), (0, .ref x0), (1, .double x1), (3, .int x3)]) C 4 dX6_room_64 rfl rfl rfl (by decide) rfl ?_
      refine J_goto (tgt := 40) C dX6_room_67 (by decide) ?_
      refine J_sub (lv' := [(0, .ref x0), (1, .double x1), (3, .int x3), (4, .double (FP.ddiv x4 (FP.i2d v57))), (6, .int (x6 + 1))]) [2, 3, 4, 1, 0] rfl ?_
      exact ih _ _ _ _ _ _ _ _ h
def f_X6_room_L23 (N : Nat) : Nat → Nat → UInt64 → Int32 → A_M → Option (Int64 × A_M)
  | 0, _, _, _, _ => none
  | n + 1, x0, x1, x3, M =>
    (gR M x0 6 7).bind fun v25 =>
    (gI M v25 0 2).bind fun v28 =>
    if v28 ≤ x3 then
    (bnd2 (f_X6_bitsOfDouble N x1 M) fun v82 M82 =>
    some (v82, M82))
    else
    (f_X6_room_L40 N (f_X6_room_L23 N n) N x0 x1 x3 FP.dconst1 (0 : Int32) M)
set_option maxHeartbeats 4000000 in
set_option maxRecDepth 100000 in
theorem ok_X6_room_L23 {X : JX} (C : Cx X cX6_room RX6 7 (some .long) 1 26) (N : Nat) : ∀ (n : Nat) (x0 : Nat) (x1 : UInt64) (x3 : Int32) (M : A_M) (r : Int64) (M' : A_M), f_X6_room_L23 N n x0 x1 x3 M = some (r, M') → J X 7 23 [(0, .ref x0), (1, .double x1), (3, .int x3)] [] M 0 0 (some (.long r)) M' := by
  intro n
  induction n with
  | zero =>
    intro x0 x1 x3 M r M' h
    cases h
  | succ n ih =>
    intro x0 x1 x3 M r M' h
    rw [f_X6_room_L23] at h
    refine J_iload_n (pc' := 24) C 2 dX6_room_23 rfl rfl rfl ?_
    refine J_aload_n (pc' := 25) C 0 dX6_room_24 rfl rfl rfl ?_
    obtain ⟨v25, e25, h⟩ := bd h
    refine jg_197 (pc' := 28) C dX6_room_25 rfl (gR_some e25) ?_
    obtain ⟨v28, e28, h⟩ := bd h
    refine jg_181 (pc' := 31) C dX6_room_28 rfl (gI_some e28) ?_
    refine J_icmp_ge (tgt := 81) (pc' := 34) C dX6_room_31 (by decide) rfl (fun c31 => ?_) (fun c31 => ?_)
    · rw [if_pos c31] at h
      refine J_dload_n (pc' := 82) C 1 dX6_room_81 rfl rfl rfl ?_
      obtain ⟨v82, M82, e82, h⟩ := bd2 h
      refine J_cS (pc' := 85) (st := []) (st2 := [.long v82]) (cs2 := 0) (sl2 := 0) C (ok_X6_bitsOfDouble N e82) mw_X6_bitsOfDouble wq_605 rfl dX6_room_82 rfl rfl (Nat.le_of_ble_eq_true rfl) (by decide) (by decide) rfl rfl rfl (Nat.zero_le _) (Nat.zero_le _) ?_
      obtain ⟨rfl, rfl⟩ := rt2 h
      exact J_lret C dX6_room_85 (Nat.zero_le _) (Nat.zero_le _)
    · rw [if_neg c31] at h
      refine J_dconst1 (pc' := 35) C dX6_room_34 rfl ?_
      refine J_dstore (pc' := 37) (lv' := [(4, .double FP.dconst1), (0, .ref x0), (1, .double x1), (3, .int x3)]) C dX6_room_35 rfl (by decide) rfl ?_
      refine J_iconst (pc' := 38) (v := (0 : Int32)) C dX6_room_37 rfl (by decide) ?_
      refine J_istore (pc' := 40) (lv' := [(6, .int (0 : Int32)), (4, .double FP.dconst1), (0, .ref x0), (1, .double x1), (3, .int x3)]) C dX6_room_38 rfl (by decide) rfl ?_
      refine J_sub (lv' := [(0, .ref x0), (1, .double x1), (3, .int x3), (4, .double FP.dconst1), (6, .int (0 : Int32))]) [2, 3, 4, 1, 0] rfl ?_
      exact ok_X6_room_L40 C N ih N _ _ _ _ _ _ _ _ h
def f_X6_room (N : Nat) (a0 : Nat) (M : A_M) : Option (Int64 × A_M) :=
  (chk M a0 6).bind fun _ =>
  bnd2 (f_X6_hasCode N a0 M) fun v1 M1 =>
  if v1 = 0 then
  (some ((-3 : Int64), M1))
  else
  ((gI M1 a0 6 10).bind fun v8 =>
  if (1 : Int32) ≤ v8 then
  (f_X6_room_L23 N N a0 FP.dconst0 (0 : Int32) M1)
  else
  (some ((-3 : Int64), M1)))
set_option maxHeartbeats 4000000 in
set_option maxRecDepth 100000 in
theorem ok_X6_room (N : Nat) {a0 : Nat} {M : A_M} {r : Int64} {M' : A_M} (h : f_X6_room N a0 M = some (r, M')) : Runs yX6_room cX6_room 7 (some .long) 1 26 0 0 [.ref a0] M (some (.long r)) M' := by
  refine Runs.intro (by decide) (Nat.le_of_ble_eq_true rfl) (fun X C hnm hMC hMS => ?_)
  have C : Cx X cX6_room RX6 7 (some .long) 1 26 := C
  show J X 7 0 [(0, .ref a0)] [] M 0 0 (some (.long r)) M'
  unfold f_X6_room at h
  refine J_aload_n (pc' := 1) C 0 dX6_room_0 rfl rfl rfl ?_
  obtain ⟨_, q1, h⟩ := bd h
  obtain ⟨v1, M1, e1, h⟩ := bd2 h
  refine J_cV (pc' := 4) (st := []) (st2 := [.int v1]) (cs2 := 0) (sl2 := 0) C 6 rfl rfl q1 (ok_X6_hasCode N e1) mw_X6_hasCode wq_562 rfl dX6_room_1 rfl rfl (Nat.le_of_ble_eq_true rfl) (by decide) (by decide) rfl rfl rfl (Nat.zero_le _) (Nat.zero_le _) ?_
  refine J_if_eq (tgt := 15) (pc' := 7) C dX6_room_4 (by decide) rfl (fun c4 => ?_) (fun c4 => ?_)
  · rw [if_pos c4] at h
    refine J_ldc2 (pc' := 18) C dX6_room_15 rfl wq_314 ?_
    obtain ⟨rfl, rfl⟩ := rt2 h
    exact J_lret C dX6_room_18 (Nat.zero_le _) (Nat.zero_le _)
  · rw [if_neg c4] at h
    refine J_aload_n (pc' := 8) C 0 dX6_room_7 rfl rfl rfl ?_
    obtain ⟨v8, e8, h⟩ := bd h
    refine jg_200 (pc' := 11) C dX6_room_8 rfl (gI_some e8) ?_
    refine J_iconst (pc' := 12) (v := (1 : Int32)) C dX6_room_11 rfl (by decide) ?_
    refine J_icmp_ge (tgt := 19) (pc' := 15) C dX6_room_12 (by decide) rfl (fun c12 => ?_) (fun c12 => ?_)
    · rw [if_pos c12] at h
      refine J_dconst0 (pc' := 20) C dX6_room_19 rfl ?_
      refine J_dstore_n (pc' := 21) (lv' := [(1, .double FP.dconst0), (0, .ref a0)]) C dX6_room_20 rfl rfl (by decide) rfl ?_
      refine J_iconst (pc' := 22) (v := (0 : Int32)) C dX6_room_21 rfl (by decide) ?_
      refine J_istore_n (pc' := 23) (lv' := [(3, .int (0 : Int32)), (1, .double FP.dconst0), (0, .ref a0)]) C dX6_room_22 rfl rfl (by decide) rfl ?_
      refine J_sub (lv' := [(0, .ref a0), (1, .double FP.dconst0), (3, .int (0 : Int32))]) [2, 1, 0] rfl ?_
      exact ok_X6_room_L23 C N N _ _ _ _ _ _ h
    · rw [if_neg c12] at h
      refine J_ldc2 (pc' := 18) C dX6_room_15 rfl wq_314 ?_
      obtain ⟨rfl, rfl⟩ := rt2 h
      exact J_lret C dX6_room_18 (Nat.zero_le _) (Nat.zero_le _)
def f_X6_rowsOfSize_L5 (N : Nat) : Nat → Nat → Int32 → Int64 → Int32 → A_M → Option (Int64 × A_M)
  | 0, _, _, _, _, _ => none
  | n + 1, x0, x1, x2, x4, M =>
    if x1 ≤ x4 then
    (some (x2, M))
    else
    ((gI M x0 6 10).bind fun v13 =>
    f_X6_rowsOfSize_L5 N n x0 x1 (x2 * (v13.toInt64)) (x4 + 1) M)
set_option maxHeartbeats 4000000 in
set_option maxRecDepth 100000 in
theorem ok_X6_rowsOfSize_L5 {X : JX} (C : Cx X cX6_rowsOfSize RX6 5 (some .long) 0 0) (N : Nat) : ∀ (n : Nat) (x0 : Nat) (x1 : Int32) (x2 : Int64) (x4 : Int32) (M : A_M) (r : Int64) (M' : A_M), f_X6_rowsOfSize_L5 N n x0 x1 x2 x4 M = some (r, M') → J X 5 5 [(0, .ref x0), (1, .int x1), (2, .long x2), (4, .int x4)] [] M 0 0 (some (.long r)) M' := by
  intro n
  induction n with
  | zero =>
    intro x0 x1 x2 x4 M r M' h
    cases h
  | succ n ih =>
    intro x0 x1 x2 x4 M r M' h
    rw [f_X6_rowsOfSize_L5] at h
    refine J_iload (pc' := 7) C 3 dX6_rowsOfSize_5 rfl rfl ?_
    refine J_iload_n (pc' := 8) C 1 dX6_rowsOfSize_7 rfl rfl rfl ?_
    refine J_icmp_ge (tgt := 25) (pc' := 11) C dX6_rowsOfSize_8 (by decide) rfl (fun c8 => ?_) (fun c8 => ?_)
    · rw [if_pos c8] at h
      refine J_lload_n (pc' := 26) C 2 dX6_rowsOfSize_25 rfl rfl rfl ?_
      obtain ⟨rfl, rfl⟩ := rt2 h
      exact J_lret C dX6_rowsOfSize_26 (Nat.zero_le _) (Nat.zero_le _)
    · rw [if_neg c8] at h
      refine J_lload_n (pc' := 12) C 2 dX6_rowsOfSize_11 rfl rfl rfl ?_
      refine J_aload_n (pc' := 13) C 0 dX6_rowsOfSize_12 rfl rfl rfl ?_
      obtain ⟨v13, e13, h⟩ := bd h
      refine jg_200 (pc' := 16) C dX6_rowsOfSize_13 rfl (gI_some e13) ?_
      refine J_i2l (pc' := 17) C dX6_rowsOfSize_16 rfl ?_
      refine J_lmul (pc' := 18) C dX6_rowsOfSize_17 rfl ?_
      refine J_lstore_n (pc' := 19) (lv' := [(2, .long (x2 * (v13.toInt64))), (0, .ref x0), (1, .int x1), (4, .int x4)]) C dX6_rowsOfSize_18 rfl rfl (by decide) rfl ?_
      refine J_iinc (pc' := 22) (lv' := [(4, .int (x4 + 1)), (2, .long (x2 * (v13.toInt64))), (0, .ref x0), (1, .int x1)]) C 3 dX6_rowsOfSize_19 rfl rfl rfl (by decide) rfl ?_
      refine J_goto (tgt := 5) C dX6_rowsOfSize_22 (by decide) ?_
      refine J_sub (lv' := [(0, .ref x0), (1, .int x1), (2, .long (x2 * (v13.toInt64))), (4, .int (x4 + 1))]) [2, 3, 1, 0] rfl ?_
      exact ih _ _ _ _ _ _ _ h
def f_X6_rowsOfSize (N : Nat) (a0 : Nat) (a1 : Int32) (M : A_M) : Option (Int64 × A_M) :=
  f_X6_rowsOfSize_L5 N N a0 a1 (1 : Int64) (0 : Int32) M
set_option maxHeartbeats 4000000 in
set_option maxRecDepth 100000 in
theorem ok_X6_rowsOfSize (N : Nat) {a0 : Nat} {a1 : Int32} {M : A_M} {r : Int64} {M' : A_M} (h : f_X6_rowsOfSize N a0 a1 M = some (r, M')) : Runs yX6_rowsOfSize cX6_rowsOfSize 5 (some .long) 0 0 0 0 [.ref a0, .int a1] M (some (.long r)) M' := by
  refine Runs.intro (by decide) (Nat.le_of_ble_eq_true rfl) (fun X C hnm hMC hMS => ?_)
  have C : Cx X cX6_rowsOfSize RX6 5 (some .long) 0 0 := C
  show J X 5 0 [(0, .ref a0), (1, .int a1)] [] M 0 0 (some (.long r)) M'
  unfold f_X6_rowsOfSize at h
  refine J_lconst (pc' := 1) (v := (1 : Int64)) C dX6_rowsOfSize_0 rfl (by decide) ?_
  refine J_lstore_n (pc' := 2) (lv' := [(2, .long (1 : Int64)), (0, .ref a0), (1, .int a1)]) C dX6_rowsOfSize_1 rfl rfl (by decide) rfl ?_
  refine J_iconst (pc' := 3) (v := (0 : Int32)) C dX6_rowsOfSize_2 rfl (by decide) ?_
  refine J_istore (pc' := 5) (lv' := [(4, .int (0 : Int32)), (2, .long (1 : Int64)), (0, .ref a0), (1, .int a1)]) C dX6_rowsOfSize_3 rfl (by decide) rfl ?_
  refine J_sub (lv' := [(0, .ref a0), (1, .int a1), (2, .long (1 : Int64)), (4, .int (0 : Int32))]) [2, 3, 1, 0] rfl ?_
  exact ok_X6_rowsOfSize_L5 C N N _ _ _ _ _ _ _ h
def f_X6_full_L27 (N : Nat) : Nat → Nat → Int64 → Int32 → A_M → Option (Int32 × A_M)
  | 0, _, _, _, _ => none
  | n + 1, x0, x1, x3, M =>
    (gR M x0 6 7).bind fun v29 =>
    (gI M v29 0 2).bind fun v32 =>
    if v32 ≤ x3 then
    ((chk M x0 6).bind fun _ =>
    bnd2 (f_X6_rowsOfSize N x0 (24 : Int32) M) fun v67 M67 =>
    if (lg_cmp x1 v67) = 0 then
    (some ((1 : Int32), M67))
    else
    (some ((0 : Int32), M67)))
    else
    ((gR M x0 6 7).bind fun v43 =>
    (gR M v43 0 1).bind fun v46 =>
    (ldI M v46 x3).bind fun v50 =>
    (chk M x0 6).bind fun _ =>
    bnd2 (f_X6_rowsOfSize N x0 ((24 : Int32) - v50) M) fun v52 M52 =>
    f_X6_full_L27 N n x0 (x1 + v52) (x3 + 1) M52)
set_option maxHeartbeats 4000000 in
set_option maxRecDepth 100000 in
theorem ok_X6_full_L27 {X : JX} (C : Cx X cX6_full RX6 4 (some .int) 5 110) (N : Nat) : ∀ (n : Nat) (x0 : Nat) (x1 : Int64) (x3 : Int32) (M : A_M) (r : Int32) (M' : A_M), f_X6_full_L27 N n x0 x1 x3 M = some (r, M') → J X 4 27 [(0, .ref x0), (1, .long x1), (3, .int x3)] [] M 0 0 (some (.int r)) M' := by
  intro n
  induction n with
  | zero =>
    intro x0 x1 x3 M r M' h
    cases h
  | succ n ih =>
    intro x0 x1 x3 M r M' h
    rw [f_X6_full_L27] at h
    refine J_iload_n (pc' := 28) C 2 dX6_full_27 rfl rfl rfl ?_
    refine J_aload_n (pc' := 29) C 0 dX6_full_28 rfl rfl rfl ?_
    obtain ⟨v29, e29, h⟩ := bd h
    refine jg_197 (pc' := 32) C dX6_full_29 rfl (gR_some e29) ?_
    obtain ⟨v32, e32, h⟩ := bd h
    refine jg_181 (pc' := 35) C dX6_full_32 rfl (gI_some e32) ?_
    refine J_icmp_ge (tgt := 63) (pc' := 38) C dX6_full_35 (by decide) rfl (fun c35 => ?_) (fun c35 => ?_)
    · rw [if_pos c35] at h
      refine J_lload_n (pc' := 64) C 1 dX6_full_63 rfl rfl rfl ?_
      refine J_aload_n (pc' := 65) C 0 dX6_full_64 rfl rfl rfl ?_
      refine J_bipush (pc' := 67) (v := (24 : Int32)) C dX6_full_65 rfl (by decide) ?_
      obtain ⟨_, q67, h⟩ := bd h
      obtain ⟨v67, M67, e67, h⟩ := bd2 h
      refine J_cV (pc' := 70) (st := [.long x1]) (st2 := [.long v67, .long x1]) (cs2 := 0) (sl2 := 0) C 6 rfl rfl q67 (ok_X6_rowsOfSize N e67) mw_X6_rowsOfSize wq_632 rfl dX6_full_67 rfl rfl (Nat.le_of_ble_eq_true rfl) (by decide) (by decide) rfl rfl rfl (Nat.zero_le _) (Nat.zero_le _) ?_
      refine J_lcmp (pc' := 71) C dX6_full_70 rfl ?_
      refine J_if_ne (tgt := 78) (pc' := 74) C dX6_full_71 (by decide) rfl (fun c71 => ?_) (fun c71 => ?_)
      · rw [if_neg c71] at h
        refine J_iconst (pc' := 79) (v := (0 : Int32)) C dX6_full_78 rfl (by decide) ?_
        obtain ⟨rfl, rfl⟩ := rt2 h
        exact J_iret C dX6_full_79 (Nat.zero_le _) (Nat.zero_le _)
      · rw [if_pos c71] at h
        refine J_iconst (pc' := 75) (v := (1 : Int32)) C dX6_full_74 rfl (by decide) ?_
        refine J_goto (tgt := 79) C dX6_full_75 (by decide) ?_
        obtain ⟨rfl, rfl⟩ := rt2 h
        exact J_iret C dX6_full_79 (Nat.zero_le _) (Nat.zero_le _)
    · rw [if_neg c35] at h
      refine J_lload_n (pc' := 39) C 1 dX6_full_38 rfl rfl rfl ?_
      refine J_aload_n (pc' := 40) C 0 dX6_full_39 rfl rfl rfl ?_
      refine J_bipush (pc' := 42) (v := (24 : Int32)) C dX6_full_40 rfl (by decide) ?_
      refine J_aload_n (pc' := 43) C 0 dX6_full_42 rfl rfl rfl ?_
      obtain ⟨v43, e43, h⟩ := bd h
      refine jg_197 (pc' := 46) C dX6_full_43 rfl (gR_some e43) ?_
      obtain ⟨v46, e46, h⟩ := bd h
      refine jg_177 (pc' := 49) C dX6_full_46 rfl (gR_some e46) ?_
      refine J_iload_n (pc' := 50) C 2 dX6_full_49 rfl rfl rfl ?_
      obtain ⟨v50, e50, h⟩ := bd h
      refine J_iald (pc' := 51) C dX6_full_50 rfl e50 ?_
      refine J_isub (pc' := 52) C dX6_full_51 rfl ?_
      obtain ⟨_, q52, h⟩ := bd h
      obtain ⟨v52, M52, e52, h⟩ := bd2 h
      refine J_cV (pc' := 55) (st := [.long x1]) (st2 := [.long v52, .long x1]) (cs2 := 0) (sl2 := 0) C 6 rfl rfl q52 (ok_X6_rowsOfSize N e52) mw_X6_rowsOfSize wq_632 rfl dX6_full_52 rfl rfl (Nat.le_of_ble_eq_true rfl) (by decide) (by decide) rfl rfl rfl (Nat.zero_le _) (Nat.zero_le _) ?_
      refine J_ladd (pc' := 56) C dX6_full_55 rfl ?_
      refine J_lstore_n (pc' := 57) (lv' := [(1, .long (x1 + v52)), (0, .ref x0), (3, .int x3)]) C dX6_full_56 rfl rfl (by decide) rfl ?_
      refine J_iinc (pc' := 60) (lv' := [(3, .int (x3 + 1)), (1, .long (x1 + v52)), (0, .ref x0)]) C 2 dX6_full_57 rfl rfl rfl (by decide) rfl ?_
      refine J_goto (tgt := 27) C dX6_full_60 (by decide) ?_
      refine J_sub (lv' := [(0, .ref x0), (1, .long (x1 + v52)), (3, .int (x3 + 1))]) [2, 1, 0] rfl ?_
      exact ih _ _ _ _ _ _ h
def f_X6_full (N : Nat) (a0 : Nat) (M : A_M) : Option (Int32 × A_M) :=
  (chk M a0 6).bind fun _ =>
  bnd2 (f_X6_hasCode N a0 M) fun v1 M1 =>
  if v1 = 0 then
  (some ((-3 : Int32), M1))
  else
  ((gR M1 a0 6 7).bind fun v11 =>
  (chk M1 v11 0).bind fun _ =>
  bnd2 (f_X0_isFree N v11 M1) fun v14 M14 =>
  if v14 = 0 then
  (some ((-5 : Int32), M14))
  else
  (f_X6_full_L27 N N a0 (0 : Int64) (0 : Int32) M14))
set_option maxHeartbeats 4000000 in
set_option maxRecDepth 100000 in
theorem ok_X6_full (N : Nat) {a0 : Nat} {M : A_M} {r : Int32} {M' : A_M} (h : f_X6_full N a0 M = some (r, M')) : Runs yX6_full cX6_full 4 (some .int) 5 110 0 0 [.ref a0] M (some (.int r)) M' := by
  refine Runs.intro (by decide) (Nat.le_of_ble_eq_true rfl) (fun X C hnm hMC hMS => ?_)
  have C : Cx X cX6_full RX6 4 (some .int) 5 110 := C
  show J X 4 0 [(0, .ref a0)] [] M 0 0 (some (.int r)) M'
  unfold f_X6_full at h
  refine J_aload_n (pc' := 1) C 0 dX6_full_0 rfl rfl rfl ?_
  obtain ⟨_, q1, h⟩ := bd h
  obtain ⟨v1, M1, e1, h⟩ := bd2 h
  refine J_cV (pc' := 4) (st := []) (st2 := [.int v1]) (cs2 := 0) (sl2 := 0) C 6 rfl rfl q1 (ok_X6_hasCode N e1) mw_X6_hasCode wq_562 rfl dX6_full_1 rfl rfl (Nat.le_of_ble_eq_true rfl) (by decide) (by decide) rfl rfl rfl (Nat.zero_le _) (Nat.zero_le _) ?_
  refine J_if_ne (tgt := 10) (pc' := 7) C dX6_full_4 (by decide) rfl (fun c4 => ?_) (fun c4 => ?_)
  · rw [if_neg c4] at h
    refine J_aload_n (pc' := 11) C 0 dX6_full_10 rfl rfl rfl ?_
    obtain ⟨v11, e11, h⟩ := bd h
    refine jg_197 (pc' := 14) C dX6_full_11 rfl (gR_some e11) ?_
    obtain ⟨_, q14, h⟩ := bd h
    obtain ⟨v14, M14, e14, h⟩ := bd2 h
    refine J_cV (pc' := 17) (st := []) (st2 := [.int v14]) (cs2 := 0) (sl2 := 0) C 0 rfl rfl q14 (ok_X0_isFree N e14) mw_X0_isFree wq_627 rfl dX6_full_14 rfl rfl (Nat.le_of_ble_eq_true rfl) (by decide) (by decide) rfl rfl rfl (Nat.zero_le _) (Nat.zero_le _) ?_
    refine J_if_ne (tgt := 23) (pc' := 20) C dX6_full_17 (by decide) rfl (fun c17 => ?_) (fun c17 => ?_)
    · rw [if_neg c17] at h
      refine J_lconst (pc' := 24) (v := (0 : Int64)) C dX6_full_23 rfl (by decide) ?_
      refine J_lstore_n (pc' := 25) (lv' := [(1, .long (0 : Int64)), (0, .ref a0)]) C dX6_full_24 rfl rfl (by decide) rfl ?_
      refine J_iconst (pc' := 26) (v := (0 : Int32)) C dX6_full_25 rfl (by decide) ?_
      refine J_istore_n (pc' := 27) (lv' := [(3, .int (0 : Int32)), (1, .long (0 : Int64)), (0, .ref a0)]) C dX6_full_26 rfl rfl (by decide) rfl ?_
      refine J_sub (lv' := [(0, .ref a0), (1, .long (0 : Int64)), (3, .int (0 : Int32))]) [2, 1, 0] rfl ?_
      exact ok_X6_full_L27 C N N _ _ _ _ _ _ h
    · rw [if_pos c17] at h
      refine J_bipush (pc' := 22) (v := (-5 : Int32)) C dX6_full_20 rfl (by decide) ?_
      obtain ⟨rfl, rfl⟩ := rt2 h
      exact J_iret C dX6_full_22 (Nat.zero_le _) (Nat.zero_le _)
  · rw [if_pos c4] at h
    refine J_bipush (pc' := 9) (v := (-3 : Int32)) C dX6_full_7 rfl (by decide) ?_
    obtain ⟨rfl, rfl⟩ := rt2 h
    exact J_iret C dX6_full_9 (Nat.zero_le _) (Nat.zero_le _)
