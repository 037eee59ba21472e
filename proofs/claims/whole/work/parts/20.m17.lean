def f_X6_build_BB_K53 (N : Nat) (x0 : Nat) (s0 : Int32) (s1 : Nat) (s2 : Nat) (s3 : Nat) (M : A_M) : Option (Int64 × A_M) :=
  (chk M s3 6).bind fun _ =>
  bnd2 (f_X6_makeByLevels_B N s3 s2 s1 s0 M) fun v53 M53 =>
  if v53 = 0 then
  (some ((-5 : Int64), M53))
  else
  ((gR M53 x0 6 8).bind fun v109 =>
  (chk M53 x0 6).bind fun _ =>
  (f_X6_handOver N x0 v109 M53).bind fun M112 =>
  (chk M112 x0 6).bind fun _ =>
  bnd2 (f_X6_costAtHand N x0 M112) fun v116 M116 =>
  some (v116, M116))
set_option maxHeartbeats 4000000 in
set_option maxRecDepth 100000 in
theorem ok_X6_build_BB_K53 {X : JX} (C : Cx X cX6_build RX6 3 (some .long) 146 3562) (hMC : xMC X = 11) (hMS : xMS X = 14764) (N : Nat) : ∀ (x0 : Nat) (s0 : Int32) (s1 : Nat) (s2 : Nat) (s3 : Nat) (M : A_M) (r : Int64) (M' : A_M), f_X6_build_BB_K53 N x0 s0 s1 s2 s3 M = some (r, M') → J X 3 53 [(0, .ref x0)] [.int s0, .ref s1, .ref s2, .ref s3] M 0 0 (some (.long r)) M' := by
  intro x0 s0 s1 s2 s3 M r M' h
  unfold f_X6_build_BB_K53 at h
  obtain ⟨_, q53, h⟩ := bd h
  obtain ⟨v53, M53, e53, h⟩ := bd2 h
  refine J_cV (pc' := 56) (st := []) (st2 := [.int v53]) (cs2 := 11) (sl2 := 14764) C 6 rfl rfl q53 (ok_X6_makeByLevels_B N e53) mw_X6_makeByLevels wq_315 rfl dX6_build_53 rfl rfl (Nat.le_of_ble_eq_true rfl) (by decide) (by decide) rfl rfl rfl (by rw [hMC]; decide) (by rw [hMS]; decide) ?_
  refine J_if_ne (tgt := 107) (pc' := 59) C dX6_build_56 (by decide) rfl (fun c56 => ?_) (fun c56 => ?_)
  · rw [if_neg c56] at h
    refine J_aload_n (pc' := 108) C 0 dX6_build_107 rfl rfl rfl ?_
    refine J_aload_n (pc' := 109) C 0 dX6_build_108 rfl rfl rfl ?_
    obtain ⟨v109, e109, h⟩ := bd h
    refine jg_198 (pc' := 112) C dX6_build_109 rfl (gR_some e109) ?_
    obtain ⟨_, q112, h⟩ := bd h
    obtain ⟨M112, e112, h⟩ := bd h
    refine J_cV (pc' := 115) (st := []) (st2 := []) (cs2 := 11) (sl2 := 14764) C 6 rfl rfl q112 (ok_X6_handOver N e112) mw_X6_handOver wq_538 rfl dX6_build_112 rfl rfl (Nat.le_of_ble_eq_true rfl) (by decide) (by decide) rfl rfl rfl (by rw [hMC]; decide) (by rw [hMS]; decide) ?_
    refine J_aload_n (pc' := 116) C 0 dX6_build_115 rfl rfl rfl ?_
    obtain ⟨_, q116, h⟩ := bd h
    obtain ⟨v116, M116, e116, h⟩ := bd2 h
    refine J_cV (pc' := 119) (st := []) (st2 := [.long v116]) (cs2 := 11) (sl2 := 14764) C 6 rfl rfl q116 (ok_X6_costAtHand N e116) mw_X6_costAtHand wq_547 rfl dX6_build_116 rfl rfl (Nat.le_of_ble_eq_true rfl) (by decide) (by decide) rfl rfl rfl (by rw [hMC]; decide) (by rw [hMS]; decide) ?_
    obtain ⟨rfl, rfl⟩ := rt2 h
    exact J_lret C dX6_build_119 (by rw [hMC]; decide) (by rw [hMS]; decide)
  · rw [if_pos c56] at h
    refine J_ldc2 (pc' := 62) C dX6_build_59 rfl wq_449 ?_
    obtain ⟨rfl, rfl⟩ := rt2 h
    exact J_lret C dX6_build_62 (by rw [hMC]; decide) (by rw [hMS]; decide)
def f_X6_build_BB_K34 (N : Nat) (x0 : Nat) (x1 : Int32) (x2 : Int32) (M : A_M) : Option (Int64 × A_M) :=
  (gR M x0 6 8).bind fun v36 =>
  (gR M x0 6 1).bind fun v40 =>
  if x1 = (1 : Int32) then
  (f_X6_build_BB_K53 N x0 x2 v40 v36 x0 M)
  else
  (f_X6_build_BB_K53 N x0 (0 : Int32) v40 v36 x0 M)
set_option maxHeartbeats 4000000 in
set_option maxRecDepth 100000 in
theorem ok_X6_build_BB_K34 {X : JX} (C : Cx X cX6_build RX6 3 (some .long) 146 3562) (hMC : xMC X = 11) (hMS : xMS X = 14764) (N : Nat) : ∀ (x0 : Nat) (x1 : Int32) (x2 : Int32) (M : A_M) (r : Int64) (M' : A_M), f_X6_build_BB_K34 N x0 x1 x2 M = some (r, M') → J X 3 34 [(0, .ref x0), (1, .int x1), (2, .int x2)] [] M 0 0 (some (.long r)) M' := by
  intro x0 x1 x2 M r M' h
  unfold f_X6_build_BB_K34 at h
  refine J_aload_n (pc' := 35) C 0 dX6_build_34 rfl rfl rfl ?_
  refine J_aload_n (pc' := 36) C 0 dX6_build_35 rfl rfl rfl ?_
  obtain ⟨v36, e36, h⟩ := bd h
  refine jg_198 (pc' := 39) C dX6_build_36 rfl (gR_some e36) ?_
  refine J_aload_n (pc' := 40) C 0 dX6_build_39 rfl rfl rfl ?_
  obtain ⟨v40, e40, h⟩ := bd h
  refine jg_191 (pc' := 43) C dX6_build_40 rfl (gR_some e40) ?_
  refine J_iload_n (pc' := 44) C 1 dX6_build_43 rfl rfl rfl ?_
  refine J_iconst (pc' := 45) (v := (1 : Int32)) C dX6_build_44 rfl (by decide) ?_
  refine J_icmp_ne (tgt := 52) (pc' := 48) C dX6_build_45 (by decide) rfl (fun c45 => ?_) (fun c45 => ?_)
  · rw [if_neg c45] at h
    refine J_iconst (pc' := 53) (v := (0 : Int32)) C dX6_build_52 rfl (by decide) ?_
    refine J_sub (lv' := [(0, .ref x0)]) [0] rfl ?_
    exact ok_X6_build_BB_K53 C hMC hMS N _ _ _ _ _ _ _ _ h
  · rw [if_pos c45] at h
    refine J_iload_n (pc' := 49) C 2 dX6_build_48 rfl rfl rfl ?_
    refine J_goto (tgt := 53) C dX6_build_49 (by decide) ?_
    refine J_sub (lv' := [(0, .ref x0)]) [0] rfl ?_
    exact ok_X6_build_BB_K53 C hMC hMS N _ _ _ _ _ _ _ _ h
def f_X6_build_BB (N : Nat) (a0 : Nat) (a1 : Int32) (a2 : Int32) (M : A_M) : Option (Int64 × A_M) :=
  (chk M a0 6).bind fun _ =>
  bnd2 (f_X6_isKind N a0 a1 a2 M) fun v3 M3 =>
  if v3 = 0 then
  (some ((-2 : Int64), M3))
  else
  ((chk M3 a0 6).bind fun _ =>
  bnd2 (f_X6_canBuild N a0 a1 M3) fun v15 M15 =>
  if v15 = 0 then
  (some ((-3 : Int64), M15))
  else
  (if a1 = 0 then
  (f_X6_build_BB_K34 N a0 a1 a2 M15)
  else
  (if a1 = (1 : Int32) then
  (f_X6_build_BB_K34 N a0 a1 a2 M15)
  else
  (if a1 = (2 : Int32) then
  ((chk M15 a0 6).bind fun _ =>
  bnd2 (f_X6_orders_B N a0 M15) fun v69 M69 =>
  (gR M69 a0 6 8).bind fun v73 =>
  (gR M69 a0 6 1).bind fun v77 =>
  (gI M69 a0 6 11).bind fun v81 =>
  (gR M69 a0 6 0).bind fun v85 =>
  (gI M69 a0 6 10).bind fun v89 =>
  (chk M69 v69 4).bind fun _ =>
  (f_X4_make N v69 v73 v77 v81 v85 v89 M69).bind fun M92 =>
  (gR M92 a0 6 8).bind fun v109 =>
  (chk M92 a0 6).bind fun _ =>
  (f_X6_handOver N a0 v109 M92).bind fun M112 =>
  (chk M112 a0 6).bind fun _ =>
  bnd2 (f_X6_costAtHand N a0 M112) fun v116 M116 =>
  some (v116, M116))
  else
  ((gR M15 a0 6 8).bind fun v100 =>
  (chk M15 a0 6).bind fun _ =>
  (f_X6_makeEnded N a0 v100 a2 M15).bind fun M104 =>
  (gR M104 a0 6 8).bind fun v109 =>
  (chk M104 a0 6).bind fun _ =>
  (f_X6_handOver N a0 v109 M104).bind fun M112 =>
  (chk M112 a0 6).bind fun _ =>
  bnd2 (f_X6_costAtHand N a0 M112) fun v116 M116 =>
  some (v116, M116))))))
set_option maxHeartbeats 4000000 in
set_option maxRecDepth 100000 in
theorem ok_X6_build_BB (N : Nat) {a0 : Nat} {a1 : Int32} {a2 : Int32} {M : A_M} {r : Int64} {M' : A_M} (h : f_X6_build_BB N a0 a1 a2 M = some (r, M')) : Runs yX6_build cX6_build 3 (some .long) 146 3562 11 14764 [.ref a0, .int a1, .int a2] M (some (.long r)) M' := by
  refine Runs.intro (by decide) (Nat.le_of_ble_eq_true rfl) (fun X C hnm hMC hMS => ?_)
  have C : Cx X cX6_build RX6 3 (some .long) 146 3562 := C
  show J X 3 0 [(0, .ref a0), (1, .int a1), (2, .int a2)] [] M 0 0 (some (.long r)) M'
  unfold f_X6_build_BB at h
  refine J_aload_n (pc' := 1) C 0 dX6_build_0 rfl rfl rfl ?_
  refine J_iload_n (pc' := 2) C 1 dX6_build_1 rfl rfl rfl ?_
  refine J_iload_n (pc' := 3) C 2 dX6_build_2 rfl rfl rfl ?_
  obtain ⟨_, q3, h⟩ := bd h
  obtain ⟨v3, M3, e3, h⟩ := bd2 h
  refine J_cV (pc' := 6) (st := []) (st2 := [.int v3]) (cs2 := 0) (sl2 := 0) C 6 rfl rfl q3 (ok_X6_isKind N e3) mw_X6_isKind wq_286 rfl dX6_build_3 rfl rfl (Nat.le_of_ble_eq_true rfl) (by decide) (by decide) rfl rfl rfl (Nat.zero_le _) (Nat.zero_le _) ?_
  refine J_if_ne (tgt := 13) (pc' := 9) C dX6_build_6 (by decide) rfl (fun c6 => ?_) (fun c6 => ?_)
  · rw [if_neg c6] at h
    refine J_aload_n (pc' := 14) C 0 dX6_build_13 rfl rfl rfl ?_
    refine J_iload_n (pc' := 15) C 1 dX6_build_14 rfl rfl rfl ?_
    obtain ⟨_, q15, h⟩ := bd h
    obtain ⟨v15, M15, e15, h⟩ := bd2 h
    refine J_cV (pc' := 18) (st := []) (st2 := [.int v15]) (cs2 := 0) (sl2 := 0) C 6 rfl rfl q15 (ok_X6_canBuild N e15) mw_X6_canBuild wq_295 rfl dX6_build_15 rfl rfl (Nat.le_of_ble_eq_true rfl) (by decide) (by decide) rfl rfl rfl (Nat.zero_le _) (Nat.zero_le _) ?_
    refine J_if_ne (tgt := 25) (pc' := 21) C dX6_build_18 (by decide) rfl (fun c18 => ?_) (fun c18 => ?_)
    · rw [if_neg c18] at h
      refine J_iload_n (pc' := 26) C 1 dX6_build_25 rfl rfl rfl ?_
      refine J_if_eq (tgt := 34) (pc' := 29) C dX6_build_26 (by decide) rfl (fun c26 => ?_) (fun c26 => ?_)
      · rw [if_pos c26] at h
        refine J_sub (lv' := [(0, .ref a0), (1, .int a1), (2, .int a2)]) [0, 1, 2] rfl ?_
        exact ok_X6_build_BB_K34 C hMC hMS N _ _ _ _ _ _ h
      · rw [if_neg c26] at h
        refine J_iload_n (pc' := 30) C 1 dX6_build_29 rfl rfl rfl ?_
        refine J_iconst (pc' := 31) (v := (1 : Int32)) C dX6_build_30 rfl (by decide) ?_
        refine J_icmp_ne (tgt := 63) (pc' := 34) C dX6_build_31 (by decide) rfl (fun c31 => ?_) (fun c31 => ?_)
        · rw [if_neg c31] at h
          refine J_iload_n (pc' := 64) C 1 dX6_build_63 rfl rfl rfl ?_
          refine J_iconst (pc' := 65) (v := (2 : Int32)) C dX6_build_64 rfl (by decide) ?_
          refine J_icmp_ne (tgt := 98) (pc' := 68) C dX6_build_65 (by decide) rfl (fun c65 => ?_) (fun c65 => ?_)
          · rw [if_neg c65] at h
            refine J_aload_n (pc' := 99) C 0 dX6_build_98 rfl rfl rfl ?_
            refine J_aload_n (pc' := 100) C 0 dX6_build_99 rfl rfl rfl ?_
            obtain ⟨v100, e100, h⟩ := bd h
            refine jg_198 (pc' := 103) C dX6_build_100 rfl (gR_some e100) ?_
            refine J_iload_n (pc' := 104) C 2 dX6_build_103 rfl rfl rfl ?_
            obtain ⟨_, q104, h⟩ := bd h
            obtain ⟨M104, e104, h⟩ := bd h
            refine J_cV (pc' := 107) (st := []) (st2 := []) (cs2 := 0) (sl2 := 0) C 6 rfl rfl q104 (ok_X6_makeEnded N e104) mw_X6_makeEnded wq_524 rfl dX6_build_104 rfl rfl (Nat.le_of_ble_eq_true rfl) (by decide) (by decide) rfl rfl rfl (Nat.zero_le _) (Nat.zero_le _) ?_
            refine J_aload_n (pc' := 108) C 0 dX6_build_107 rfl rfl rfl ?_
            refine J_aload_n (pc' := 109) C 0 dX6_build_108 rfl rfl rfl ?_
            obtain ⟨v109, e109, h⟩ := bd h
            refine jg_198 (pc' := 112) C dX6_build_109 rfl (gR_some e109) ?_
            obtain ⟨_, q112, h⟩ := bd h
            obtain ⟨M112, e112, h⟩ := bd h
            refine J_cV (pc' := 115) (st := []) (st2 := []) (cs2 := 0) (sl2 := 0) C 6 rfl rfl q112 (ok_X6_handOver N e112) mw_X6_handOver wq_538 rfl dX6_build_112 rfl rfl (Nat.le_of_ble_eq_true rfl) (by decide) (by decide) rfl rfl rfl (Nat.zero_le _) (Nat.zero_le _) ?_
            refine J_aload_n (pc' := 116) C 0 dX6_build_115 rfl rfl rfl ?_
            obtain ⟨_, q116, h⟩ := bd h
            obtain ⟨v116, M116, e116, h⟩ := bd2 h
            refine J_cV (pc' := 119) (st := []) (st2 := [.long v116]) (cs2 := 0) (sl2 := 0) C 6 rfl rfl q116 (ok_X6_costAtHand N e116) mw_X6_costAtHand wq_547 rfl dX6_build_116 rfl rfl (Nat.le_of_ble_eq_true rfl) (by decide) (by decide) rfl rfl rfl (Nat.zero_le _) (Nat.zero_le _) ?_
            obtain ⟨rfl, rfl⟩ := rt2 h
            exact J_lret C dX6_build_119 (Nat.zero_le _) (Nat.zero_le _)
          · rw [if_pos c65] at h
            refine J_aload_n (pc' := 69) C 0 dX6_build_68 rfl rfl rfl ?_
            obtain ⟨_, q69, h⟩ := bd h
            obtain ⟨v69, M69, e69, h⟩ := bd2 h
            refine J_cV (pc' := 72) (st := []) (st2 := [.ref v69]) (cs2 := 5) (sl2 := 3490) C 6 rfl rfl q69 (ok_X6_orders_B N e69) mw_X6_orders wq_450 rfl dX6_build_69 rfl rfl (Nat.le_of_ble_eq_true rfl) (by decide) (by decide) rfl rfl rfl (by rw [hMC]; decide) (by rw [hMS]; decide) ?_
            refine J_aload_n (pc' := 73) C 0 dX6_build_72 rfl rfl rfl ?_
            obtain ⟨v73, e73, h⟩ := bd h
            refine jg_198 (pc' := 76) C dX6_build_73 rfl (gR_some e73) ?_
            refine J_aload_n (pc' := 77) C 0 dX6_build_76 rfl rfl rfl ?_
            obtain ⟨v77, e77, h⟩ := bd h
            refine jg_191 (pc' := 80) C dX6_build_77 rfl (gR_some e77) ?_
            refine J_aload_n (pc' := 81) C 0 dX6_build_80 rfl rfl rfl ?_
            obtain ⟨v81, e81, h⟩ := bd h
            refine jg_201 (pc' := 84) C dX6_build_81 rfl (gI_some e81) ?_
            refine J_aload_n (pc' := 85) C 0 dX6_build_84 rfl rfl rfl ?_
            obtain ⟨v85, e85, h⟩ := bd h
            refine jg_190 (pc' := 88) C dX6_build_85 rfl (gR_some e85) ?_
            refine J_aload_n (pc' := 89) C 0 dX6_build_88 rfl rfl rfl ?_
            obtain ⟨v89, e89, h⟩ := bd h
            refine jg_200 (pc' := 92) C dX6_build_89 rfl (gI_some e89) ?_
            obtain ⟨_, q92, h⟩ := bd h
            obtain ⟨M92, e92, h⟩ := bd h
            refine J_cV (pc' := 95) (st := []) (st2 := []) (cs2 := 5) (sl2 := 3490) C 4 rfl rfl q92 (ok_X4_make N e92) mw_X4_make wq_476 rfl dX6_build_92 rfl rfl (Nat.le_of_ble_eq_true rfl) (by decide) (by decide) rfl rfl rfl (by rw [hMC]; decide) (by rw [hMS]; decide) ?_
            refine J_goto (tgt := 107) C dX6_build_95 (by decide) ?_
            refine J_aload_n (pc' := 108) C 0 dX6_build_107 rfl rfl rfl ?_
            refine J_aload_n (pc' := 109) C 0 dX6_build_108 rfl rfl rfl ?_
            obtain ⟨v109, e109, h⟩ := bd h
            refine jg_198 (pc' := 112) C dX6_build_109 rfl (gR_some e109) ?_
            obtain ⟨_, q112, h⟩ := bd h
            obtain ⟨M112, e112, h⟩ := bd h
            refine J_cV (pc' := 115) (st := []) (st2 := []) (cs2 := 5) (sl2 := 3490) C 6 rfl rfl q112 (ok_X6_handOver N e112) mw_X6_handOver wq_538 rfl dX6_build_112 rfl rfl (Nat.le_of_ble_eq_true rfl) (by decide) (by decide) rfl rfl rfl (by rw [hMC]; decide) (by rw [hMS]; decide) ?_
            refine J_aload_n (pc' := 116) C 0 dX6_build_115 rfl rfl rfl ?_
            obtain ⟨_, q116, h⟩ := bd h
            obtain ⟨v116, M116, e116, h⟩ := bd2 h
            refine J_cV (pc' := 119) (st := []) (st2 := [.long v116]) (cs2 := 5) (sl2 := 3490) C 6 rfl rfl q116 (ok_X6_costAtHand N e116) mw_X6_costAtHand wq_547 rfl dX6_build_116 rfl rfl (Nat.le_of_ble_eq_true rfl) (by decide) (by decide) rfl rfl rfl (by rw [hMC]; decide) (by rw [hMS]; decide) ?_
            obtain ⟨rfl, rfl⟩ := rt2 h
            exact J_lret C dX6_build_119 (by rw [hMC]; decide) (by rw [hMS]; decide)
        · rw [if_pos c31] at h
          refine J_sub (lv' := [(0, .ref a0), (1, .int a1), (2, .int a2)]) [0, 1, 2] rfl ?_
          exact ok_X6_build_BB_K34 C hMC hMS N _ _ _ _ _ _ h
    · rw [if_pos c18] at h
      refine J_ldc2 (pc' := 24) C dX6_build_21 rfl wq_314 ?_
      obtain ⟨rfl, rfl⟩ := rt2 h
      exact J_lret C dX6_build_24 (Nat.zero_le _) (Nat.zero_le _)
  · rw [if_pos c6] at h
    refine J_ldc2 (pc' := 12) C dX6_build_9 rfl wq_294 ?_
    obtain ⟨rfl, rfl⟩ := rt2 h
    exact J_lret C dX6_build_12 (Nat.zero_le _) (Nat.zero_le _)
def f_X6_node_A (N : Nat) (a0 : Nat) (a1 : Int32) (a2 : Int32) (M : A_M) : Option (Int64 × A_M) :=
  (chk M a0 6).bind fun _ =>
  bnd2 (f_X6_isThing N a0 a1 M) fun v2 M2 =>
  if v2 = 0 then
  (some ((-1 : Int64), M2))
  else
  ((chk M2 a0 6).bind fun _ =>
  bnd2 (f_X6_isThing N a0 a2 M2) fun v10 M10 =>
  if v10 = 0 then
  (some ((-1 : Int64), M10))
  else
  (if a1 ≤ a2 then
  ((gI M10 a0 6 10).bind fun v26 =>
  if (2 : Int32) ≤ v26 then
  ((chk M10 a0 6).bind fun _ =>
  bnd2 (f_X6_orders_A N a0 M10) fun v38 M38 =>
  (gR M38 a0 6 1).bind fun v44 =>
  (gR M38 a0 6 0).bind fun v50 =>
  (gI M38 a0 6 10).bind fun v54 =>
  (chk M38 v38 4).bind fun _ =>
  (f_X4_weigh N v38 v44 a1 a2 v50 v54 M38).bind fun M57 =>
  (chk M57 v38 4).bind fun _ =>
  bnd2 (f_X4_leastOf N v38 a1 a2 M57) fun v63 M63 =>
  some (v63, M63))
  else
  (some ((-3 : Int64), M10)))
  else
  (some ((-1 : Int64), M10))))
set_option maxHeartbeats 4000000 in
set_option maxRecDepth 100000 in
theorem ok_X6_node_A (N : Nat) {a0 : Nat} {a1 : Int32} {a2 : Int32} {M : A_M} {r : Int64} {M' : A_M} (h : f_X6_node_A N a0 a1 a2 M = some (r, M')) : Runs yX6_node cX6_node 4 (some .long) 4 98 0 0 [.ref a0, .int a1, .int a2] M (some (.long r)) M' := by
  refine Runs.intro (by decide) (Nat.le_of_ble_eq_true rfl) (fun X C hnm hMC hMS => ?_)
  have C : Cx X cX6_node RX6 4 (some .long) 4 98 := C
  show J X 4 0 [(0, .ref a0), (1, .int a1), (2, .int a2)] [] M 0 0 (some (.long r)) M'
  unfold f_X6_node_A at h
  refine J_aload_n (pc' := 1) C 0 dX6_node_0 rfl rfl rfl ?_
  refine J_iload_n (pc' := 2) C 1 dX6_node_1 rfl rfl rfl ?_
  obtain ⟨_, q2, h⟩ := bd h
  obtain ⟨v2, M2, e2, h⟩ := bd2 h
  refine J_cV (pc' := 5) (st := []) (st2 := [.int v2]) (cs2 := 0) (sl2 := 0) C 6 rfl rfl q2 (ok_X6_isThing N e2) mw_X6_isThing wq_278 rfl dX6_node_2 rfl rfl (Nat.le_of_ble_eq_true rfl) (by decide) (by decide) rfl rfl rfl (Nat.zero_le _) (Nat.zero_le _) ?_
  refine J_if_eq (tgt := 21) (pc' := 8) C dX6_node_5 (by decide) rfl (fun c5 => ?_) (fun c5 => ?_)
  · rw [if_pos c5] at h
    refine J_ldc2 (pc' := 24) C dX6_node_21 rfl wq_651 ?_
    obtain ⟨rfl, rfl⟩ := rt2 h
    exact J_lret C dX6_node_24 (Nat.zero_le _) (Nat.zero_le _)
  · rw [if_neg c5] at h
    refine J_aload_n (pc' := 9) C 0 dX6_node_8 rfl rfl rfl ?_
    refine J_iload_n (pc' := 10) C 2 dX6_node_9 rfl rfl rfl ?_
    obtain ⟨_, q10, h⟩ := bd h
    obtain ⟨v10, M10, e10, h⟩ := bd2 h
    refine J_cV (pc' := 13) (st := []) (st2 := [.int v10]) (cs2 := 0) (sl2 := 0) C 6 rfl rfl q10 (ok_X6_isThing N e10) mw_X6_isThing wq_278 rfl dX6_node_10 rfl rfl (Nat.le_of_ble_eq_true rfl) (by decide) (by decide) rfl rfl rfl (Nat.zero_le _) (Nat.zero_le _) ?_
    refine J_if_eq (tgt := 21) (pc' := 16) C dX6_node_13 (by decide) rfl (fun c13 => ?_) (fun c13 => ?_)
    · rw [if_pos c13] at h
      refine J_ldc2 (pc' := 24) C dX6_node_21 rfl wq_651 ?_
      obtain ⟨rfl, rfl⟩ := rt2 h
      exact J_lret C dX6_node_24 (Nat.zero_le _) (Nat.zero_le _)
    · rw [if_neg c13] at h
      refine J_iload_n (pc' := 17) C 1 dX6_node_16 rfl rfl rfl ?_
      refine J_iload_n (pc' := 18) C 2 dX6_node_17 rfl rfl rfl ?_
      refine J_icmp_le (tgt := 25) (pc' := 21) C dX6_node_18 (by decide) rfl (fun c18 => ?_) (fun c18 => ?_)
      · rw [if_pos c18] at h
        refine J_aload_n (pc' := 26) C 0 dX6_node_25 rfl rfl rfl ?_
        obtain ⟨v26, e26, h⟩ := bd h
        refine jg_200 (pc' := 29) C dX6_node_26 rfl (gI_some e26) ?_
        refine J_iconst (pc' := 30) (v := (2 : Int32)) C dX6_node_29 rfl (by decide) ?_
        refine J_icmp_ge (tgt := 37) (pc' := 33) C dX6_node_30 (by decide) rfl (fun c30 => ?_) (fun c30 => ?_)
        · rw [if_pos c30] at h
          refine J_aload_n (pc' := 38) C 0 dX6_node_37 rfl rfl rfl ?_
          obtain ⟨_, q38, h⟩ := bd h
          obtain ⟨v38, M38, e38, h⟩ := bd2 h
          refine J_cV (pc' := 41) (st := []) (st2 := [.ref v38]) (cs2 := 0) (sl2 := 0) C 6 rfl rfl q38 (ok_X6_orders_A N e38) mw_X6_orders wq_450 rfl dX6_node_38 rfl rfl (Nat.le_of_ble_eq_true rfl) (by decide) (by decide) rfl rfl rfl (Nat.zero_le _) (Nat.zero_le _) ?_
          refine J_astore_n (pc' := 42) (lv' := [(3, .ref v38), (0, .ref a0), (1, .int a1), (2, .int a2)]) C dX6_node_41 rfl rfl (by decide) rfl ?_
          refine J_aload_n (pc' := 43) C 0 dX6_node_42 rfl rfl rfl ?_
          refine J_aload_n (pc' := 44) C 1 dX6_node_43 rfl rfl rfl ?_
          obtain ⟨v44, e44, h⟩ := bd h
          refine jg_191 (pc' := 47) C dX6_node_44 rfl (gR_some e44) ?_
          refine J_iload_n (pc' := 48) C 2 dX6_node_47 rfl rfl rfl ?_
          refine J_iload_n (pc' := 49) C 3 dX6_node_48 rfl rfl rfl ?_
          refine J_aload_n (pc' := 50) C 1 dX6_node_49 rfl rfl rfl ?_
          obtain ⟨v50, e50, h⟩ := bd h
          refine jg_190 (pc' := 53) C dX6_node_50 rfl (gR_some e50) ?_
          refine J_aload_n (pc' := 54) C 1 dX6_node_53 rfl rfl rfl ?_
          obtain ⟨v54, e54, h⟩ := bd h
          refine jg_200 (pc' := 57) C dX6_node_54 rfl (gI_some e54) ?_
          obtain ⟨_, q57, h⟩ := bd h
          obtain ⟨M57, e57, h⟩ := bd h
          refine J_cV (pc' := 60) (st := []) (st2 := []) (cs2 := 0) (sl2 := 0) C 4 rfl rfl q57 (ok_X4_weigh N e57) mw_X4_weigh wq_656 rfl dX6_node_57 rfl rfl (Nat.le_of_ble_eq_true rfl) (by decide) (by decide) rfl rfl rfl (Nat.zero_le _) (Nat.zero_le _) ?_
          refine J_aload_n (pc' := 61) C 0 dX6_node_60 rfl rfl rfl ?_
          refine J_iload_n (pc' := 62) C 2 dX6_node_61 rfl rfl rfl ?_
          refine J_iload_n (pc' := 63) C 3 dX6_node_62 rfl rfl rfl ?_
          obtain ⟨_, q63, h⟩ := bd h
          obtain ⟨v63, M63, e63, h⟩ := bd2 h
          refine J_cV (pc' := 66) (st := []) (st2 := [.long v63]) (cs2 := 0) (sl2 := 0) C 4 rfl rfl q63 (ok_X4_leastOf N e63) mw_X4_leastOf wq_657 rfl dX6_node_63 rfl rfl (Nat.le_of_ble_eq_true rfl) (by decide) (by decide) rfl rfl rfl (Nat.zero_le _) (Nat.zero_le _) ?_
          obtain ⟨rfl, rfl⟩ := rt2 h
          exact J_lret C dX6_node_66 (Nat.zero_le _) (Nat.zero_le _)
        · rw [if_neg c30] at h
          refine J_ldc2 (pc' := 36) C dX6_node_33 rfl wq_314 ?_
          obtain ⟨rfl, rfl⟩ := rt2 h
          exact J_lret C dX6_node_36 (Nat.zero_le _) (Nat.zero_le _)
      · rw [if_neg c18] at h
        refine J_ldc2 (pc' := 24) C dX6_node_21 rfl wq_651 ?_
        obtain ⟨rfl, rfl⟩ := rt2 h
        exact J_lret C dX6_node_24 (Nat.zero_le _) (Nat.zero_le _)
def f_X6_node_B (N : Nat) (a0 : Nat) (a1 : Int32) (a2 : Int32) (M : A_M) : Option (Int64 × A_M) :=
  (chk M a0 6).bind fun _ =>
  bnd2 (f_X6_isThing N a0 a1 M) fun v2 M2 =>
  if v2 = 0 then
  (some ((-1 : Int64), M2))
  else
  ((chk M2 a0 6).bind fun _ =>
  bnd2 (f_X6_isThing N a0 a2 M2) fun v10 M10 =>
  if v10 = 0 then
  (some ((-1 : Int64), M10))
  else
  (if a1 ≤ a2 then
  ((gI M10 a0 6 10).bind fun v26 =>
  if (2 : Int32) ≤ v26 then
  ((chk M10 a0 6).bind fun _ =>
  bnd2 (f_X6_orders_B N a0 M10) fun v38 M38 =>
  (gR M38 a0 6 1).bind fun v44 =>
  (gR M38 a0 6 0).bind fun v50 =>
  (gI M38 a0 6 10).bind fun v54 =>
  (chk M38 v38 4).bind fun _ =>
  (f_X4_weigh N v38 v44 a1 a2 v50 v54 M38).bind fun M57 =>
  (chk M57 v38 4).bind fun _ =>
  bnd2 (f_X4_leastOf N v38 a1 a2 M57) fun v63 M63 =>
  some (v63, M63))
  else
  (some ((-3 : Int64), M10)))
  else
  (some ((-1 : Int64), M10))))
set_option maxHeartbeats 4000000 in
set_option maxRecDepth 100000 in
theorem ok_X6_node_B (N : Nat) {a0 : Nat} {a1 : Int32} {a2 : Int32} {M : A_M} {r : Int64} {M' : A_M} (h : f_X6_node_B N a0 a1 a2 M = some (r, M')) : Runs yX6_node cX6_node 4 (some .long) 4 98 5 3490 [.ref a0, .int a1, .int a2] M (some (.long r)) M' := by
  refine Runs.intro (by decide) (Nat.le_of_ble_eq_true rfl) (fun X C hnm hMC hMS => ?_)
  have C : Cx X cX6_node RX6 4 (some .long) 4 98 := C
  show J X 4 0 [(0, .ref a0), (1, .int a1), (2, .int a2)] [] M 0 0 (some (.long r)) M'
  unfold f_X6_node_B at h
  refine J_aload_n (pc' := 1) C 0 dX6_node_0 rfl rfl rfl ?_
  refine J_iload_n (pc' := 2) C 1 dX6_node_1 rfl rfl rfl ?_
  obtain ⟨_, q2, h⟩ := bd h
  obtain ⟨v2, M2, e2, h⟩ := bd2 h
  refine J_cV (pc' := 5) (st := []) (st2 := [.int v2]) (cs2 := 0) (sl2 := 0) C 6 rfl rfl q2 (ok_X6_isThing N e2) mw_X6_isThing wq_278 rfl dX6_node_2 rfl rfl (Nat.le_of_ble_eq_true rfl) (by decide) (by decide) rfl rfl rfl (Nat.zero_le _) (Nat.zero_le _) ?_
  refine J_if_eq (tgt := 21) (pc' := 8) C dX6_node_5 (by decide) rfl (fun c5 => ?_) (fun c5 => ?_)
  · rw [if_pos c5] at h
    refine J_ldc2 (pc' := 24) C dX6_node_21 rfl wq_651 ?_
    obtain ⟨rfl, rfl⟩ := rt2 h
    exact J_lret C dX6_node_24 (Nat.zero_le _) (Nat.zero_le _)
  · rw [if_neg c5] at h
    refine J_aload_n (pc' := 9) C 0 dX6_node_8 rfl rfl rfl ?_
    refine J_iload_n (pc' := 10) C 2 dX6_node_9 rfl rfl rfl ?_
    obtain ⟨_, q10, h⟩ := bd h
    obtain ⟨v10, M10, e10, h⟩ := bd2 h
    refine J_cV (pc' := 13) (st := []) (st2 := [.int v10]) (cs2 := 0) (sl2 := 0) C 6 rfl rfl q10 (ok_X6_isThing N e10) mw_X6_isThing wq_278 rfl dX6_node_10 rfl rfl (Nat.le_of_ble_eq_true rfl) (by decide) (by decide) rfl rfl rfl (Nat.zero_le _) (Nat.zero_le _) ?_
    refine J_if_eq (tgt := 21) (pc' := 16) C dX6_node_13 (by decide) rfl (fun c13 => ?_) (fun c13 => ?_)
    · rw [if_pos c13] at h
      refine J_ldc2 (pc' := 24) C dX6_node_21 rfl wq_651 ?_
      obtain ⟨rfl, rfl⟩ := rt2 h
      exact J_lret C dX6_node_24 (Nat.zero_le _) (Nat.zero_le _)
    · rw [if_neg c13] at h
      refine J_iload_n (pc' := 17) C 1 dX6_node_16 rfl rfl rfl ?_
      refine J_iload_n (pc' := 18) C 2 dX6_node_17 rfl rfl rfl ?_
      refine J_icmp_le (tgt := 25) (pc' := 21) C dX6_node_18 (by decide) rfl (fun c18 => ?_) (fun c18 => ?_)
      · rw [if_pos c18] at h
        refine J_aload_n (pc' := 26) C 0 dX6_node_25 rfl rfl rfl ?_
        obtain ⟨v26, e26, h⟩ := bd h
        refine jg_200 (pc' := 29) C dX6_node_26 rfl (gI_some e26) ?_
        refine J_iconst (pc' := 30) (v := (2 : Int32)) C dX6_node_29 rfl (by decide) ?_
        refine J_icmp_ge (tgt := 37) (pc' := 33) C dX6_node_30 (by decide) rfl (fun c30 => ?_) (fun c30 => ?_)
        · rw [if_pos c30] at h
          refine J_aload_n (pc' := 38) C 0 dX6_node_37 rfl rfl rfl ?_
          obtain ⟨_, q38, h⟩ := bd h
          obtain ⟨v38, M38, e38, h⟩ := bd2 h
          refine J_cV (pc' := 41) (st := []) (st2 := [.ref v38]) (cs2 := 5) (sl2 := 3490) C 6 rfl rfl q38 (ok_X6_orders_B N e38) mw_X6_orders wq_450 rfl dX6_node_38 rfl rfl (Nat.le_of_ble_eq_true rfl) (by decide) (by decide) rfl rfl rfl (by rw [hMC]; decide) (by rw [hMS]; decide) ?_
          refine J_astore_n (pc' := 42) (lv' := [(3, .ref v38), (0, .ref a0), (1, .int a1), (2, .int a2)]) C dX6_node_41 rfl rfl (by decide) rfl ?_
          refine J_aload_n (pc' := 43) C 0 dX6_node_42 rfl rfl rfl ?_
          refine J_aload_n (pc' := 44) C 1 dX6_node_43 rfl rfl rfl ?_
          obtain ⟨v44, e44, h⟩ := bd h
          refine jg_191 (pc' := 47) C dX6_node_44 rfl (gR_some e44) ?_
          refine J_iload_n (pc' := 48) C 2 dX6_node_47 rfl rfl rfl ?_
          refine J_iload_n (pc' := 49) C 3 dX6_node_48 rfl rfl rfl ?_
          refine J_aload_n (pc' := 50) C 1 dX6_node_49 rfl rfl rfl ?_
          obtain ⟨v50, e50, h⟩ := bd h
          refine jg_190 (pc' := 53) C dX6_node_50 rfl (gR_some e50) ?_
          refine J_aload_n (pc' := 54) C 1 dX6_node_53 rfl rfl rfl ?_
          obtain ⟨v54, e54, h⟩ := bd h
          refine jg_200 (pc' := 57) C dX6_node_54 rfl (gI_some e54) ?_
          obtain ⟨_, q57, h⟩ := bd h
          obtain ⟨M57, e57, h⟩ := bd h
          refine J_cV (pc' := 60) (st := []) (st2 := []) (cs2 := 5) (sl2 := 3490) C 4 rfl rfl q57 (ok_X4_weigh N e57) mw_X4_weigh wq_656 rfl dX6_node_57 rfl rfl (Nat.le_of_ble_eq_true rfl) (by decide) (by decide) rfl rfl rfl (by rw [hMC]; decide) (by rw [hMS]; decide) ?_
          refine J_aload_n (pc' := 61) C 0 dX6_node_60 rfl rfl rfl ?_
          refine J_iload_n (pc' := 62) C 2 dX6_node_61 rfl rfl rfl ?_
          refine J_iload_n (pc' := 63) C 3 dX6_node_62 rfl rfl rfl ?_
          obtain ⟨_, q63, h⟩ := bd h
          obtain ⟨v63, M63, e63, h⟩ := bd2 h
          refine J_cV (pc' := 66) (st := []) (st2 := [.long v63]) (cs2 := 5) (sl2 := 3490) C 4 rfl rfl q63 (ok_X4_leastOf N e63) mw_X4_leastOf wq_657 rfl dX6_node_63 rfl rfl (Nat.le_of_ble_eq_true rfl) (by decide) (by decide) rfl rfl rfl (by rw [hMC]; decide) (by rw [hMS]; decide) ?_
          obtain ⟨rfl, rfl⟩ := rt2 h
          exact J_lret C dX6_node_66 (by rw [hMC]; decide) (by rw [hMS]; decide)
        · rw [if_neg c30] at h
          refine J_ldc2 (pc' := 36) C dX6_node_33 rfl wq_314 ?_
          obtain ⟨rfl, rfl⟩ := rt2 h
          exact J_lret C dX6_node_36 (Nat.zero_le _) (Nat.zero_le _)
      · rw [if_neg c18] at h
        refine J_ldc2 (pc' := 24) C dX6_node_21 rfl wq_651 ?_
        obtain ⟨rfl, rfl⟩ := rt2 h
        exact J_lret C dX6_node_24 (Nat.zero_le _) (Nat.zero_le _)
def f_X6_grow_A (N : Nat) (a0 : Nat) (M : A_M) : Option (Int32 × A_M) :=
  (chk M a0 6).bind fun _ =>
  bnd2 (f_X6_canBuild N a0 (0 : Int32) M) fun v2 M2 =>
  if v2 = 0 then
  (some ((-3 : Int32), M2))
  else
  ((gR M2 a0 6 3).bind fun v12 =>
  (f_J7_fill_53178 N v12 (1 : Int32) M2).bind fun M16 =>
  (gR M16 a0 6 7).bind fun v21 =>
  (gR M16 a0 6 3).bind fun v25 =>
  (chk M16 a0 6).bind fun _ =>
  bnd2 (f_X6_makeByLevels_A N a0 v21 v25 (0 : Int32) M16) fun v29 M29 =>
  (pV M29 a0 6 12 (.int (2 : Int32))).bind fun M35 =>
  (gR M35 a0 6 5).bind fun v39 =>
  (pV M35 v39 2 2 (.int (0 : Int32))).bind fun M43 =>
  (gI M43 a0 6 11).bind fun v47 =>
  some (v47, M43))
set_option maxHeartbeats 4000000 in
set_option maxRecDepth 100000 in
theorem ok_X6_grow_A (N : Nat) {a0 : Nat} {M : A_M} {r : Int32} {M' : A_M} (h : f_X6_grow_A N a0 M = some (r, M')) : Runs yX6_grow cX6_grow 1 (some .int) 101 3022 0 0 [.ref a0] M (some (.int r)) M' := by
  refine Runs.intro (by decide) (Nat.le_of_ble_eq_true rfl) (fun X C hnm hMC hMS => ?_)
  have C : Cx X cX6_grow RX6 1 (some .int) 101 3022 := C
  show J X 1 0 [(0, .ref a0)] [] M 0 0 (some (.int r)) M'
  unfold f_X6_grow_A at h
  refine J_aload_n (pc' := 1) C 0 dX6_grow_0 rfl rfl rfl ?_
  refine J_iconst (pc' := 2) (v := (0 : Int32)) C dX6_grow_1 rfl (by decide) ?_
  obtain ⟨_, q2, h⟩ := bd h
  obtain ⟨v2, M2, e2, h⟩ := bd2 h
  refine J_cV (pc' := 5) (st := []) (st2 := [.int v2]) (cs2 := 0) (sl2 := 0) C 6 rfl rfl q2 (ok_X6_canBuild N e2) mw_X6_canBuild wq_295 rfl dX6_grow_2 rfl rfl (Nat.le_of_ble_eq_true rfl) (by decide) (by decide) rfl rfl rfl (Nat.zero_le _) (Nat.zero_le _) ?_
  refine J_if_ne (tgt := 11) (pc' := 8) C dX6_grow_5 (by decide) rfl (fun c5 => ?_) (fun c5 => ?_)
  · rw [if_neg c5] at h
    refine J_aload_n (pc' := 12) C 0 dX6_grow_11 rfl rfl rfl ?_
    obtain ⟨v12, e12, h⟩ := bd h
    refine jg_193 (pc' := 15) C dX6_grow_12 rfl (gR_some e12) ?_
    refine J_iconst (pc' := 16) (v := (1 : Int32)) C dX6_grow_15 rfl (by decide) ?_
    obtain ⟨M16, e16, h⟩ := bd h
    refine J_cS (pc' := 19) (st := []) (st2 := []) (cs2 := 0) (sl2 := 0) C (ok_J7_fill_53178 N e16) mw_J7_fill_53178 wq_712 rfl dX6_grow_16 rfl rfl (Nat.le_of_ble_eq_true rfl) (by decide) (by decide) rfl rfl rfl (Nat.zero_le _) (Nat.zero_le _) ?_
    refine J_aload_n (pc' := 20) C 0 dX6_grow_19 rfl rfl rfl ?_
    refine J_aload_n (pc' := 21) C 0 dX6_grow_20 rfl rfl rfl ?_
    obtain ⟨v21, e21, h⟩ := bd h
    refine jg_197 (pc' := 24) C dX6_grow_21 rfl (gR_some e21) ?_
    refine J_aload_n (pc' := 25) C 0 dX6_grow_24 rfl rfl rfl ?_
    obtain ⟨v25, e25, h⟩ := bd h
    refine jg_193 (pc' := 28) C dX6_grow_25 rfl (gR_some e25) ?_
    refine J_iconst (pc' := 29) (v := (0 : Int32)) C dX6_grow_28 rfl (by decide) ?_
    obtain ⟨_, q29, h⟩ := bd h
    obtain ⟨v29, M29, e29, h⟩ := bd2 h
    refine J_cV (pc' := 32) (st := []) (st2 := [.int v29]) (cs2 := 0) (sl2 := 0) C 6 rfl rfl q29 (ok_X6_makeByLevels_A N e29) mw_X6_makeByLevels wq_315 rfl dX6_grow_29 rfl rfl (Nat.le_of_ble_eq_true rfl) (by decide) (by decide) rfl rfl rfl (Nat.zero_le _) (Nat.zero_le _) ?_
    refine J_pop (pc' := 33) C dX6_grow_32 rfl rfl ?_
    refine J_aload_n (pc' := 34) C 0 dX6_grow_33 rfl rfl rfl ?_
    refine J_iconst (pc' := 35) (v := (2 : Int32)) C dX6_grow_34 rfl (by decide) ?_
    obtain ⟨M35, e35, h⟩ := bd h
    refine jp_202 (pc' := 38) C (fun _ => ⟨rfl, rfl⟩) dX6_grow_35 rfl e35 ?_
    refine J_aload_n (pc' := 39) C 0 dX6_grow_38 rfl rfl rfl ?_
    obtain ⟨v39, e39, h⟩ := bd h
    refine jg_195 (pc' := 42) C dX6_grow_39 rfl (gR_some e39) ?_
    refine J_iconst (pc' := 43) (v := (0 : Int32)) C dX6_grow_42 rfl (by decide) ?_
    obtain ⟨M43, e43, h⟩ := bd h
    refine jp_125 (pc' := 46) C (fun _ => ⟨rfl, rfl⟩) dX6_grow_43 rfl e43 ?_
    refine J_aload_n (pc' := 47) C 0 dX6_grow_46 rfl rfl rfl ?_
    obtain ⟨v47, e47, h⟩ := bd h
    refine jg_201 (pc' := 50) C dX6_grow_47 rfl (gI_some e47) ?_
    obtain ⟨rfl, rfl⟩ := rt2 h
    exact J_iret C dX6_grow_50 (Nat.zero_le _) (Nat.zero_le _)
  · rw [if_pos c5] at h
    refine J_bipush (pc' := 10) (v := (-3 : Int32)) C dX6_grow_8 rfl (by decide) ?_
    obtain ⟨rfl, rfl⟩ := rt2 h
    exact J_iret C dX6_grow_10 (Nat.zero_le _) (Nat.zero_le _)
def f_X6_grow_B (N : Nat) (a0 : Nat) (M : A_M) : Option (Int32 × A_M) :=
  (chk M a0 6).bind fun _ =>
  bnd2 (f_X6_canBuild N a0 (0 : Int32) M) fun v2 M2 =>
  if v2 = 0 then
  (some ((-3 : Int32), M2))
  else
  ((gR M2 a0 6 3).bind fun v12 =>
  (f_J7_fill_53178 N v12 (1 : Int32) M2).bind fun M16 =>
  (gR M16 a0 6 7).bind fun v21 =>
  (gR M16 a0 6 3).bind fun v25 =>
  (chk M16 a0 6).bind fun _ =>
  bnd2 (f_X6_makeByLevels_B N a0 v21 v25 (0 : Int32) M16) fun v29 M29 =>
  (pV M29 a0 6 12 (.int (2 : Int32))).bind fun M35 =>
  (gR M35 a0 6 5).bind fun v39 =>
  (pV M35 v39 2 2 (.int (0 : Int32))).bind fun M43 =>
  (gI M43 a0 6 11).bind fun v47 =>
  some (v47, M43))
set_option maxHeartbeats 4000000 in
set_option maxRecDepth 100000 in
theorem ok_X6_grow_B (N : Nat) {a0 : Nat} {M : A_M} {r : Int32} {M' : A_M} (h : f_X6_grow_B N a0 M = some (r, M')) : Runs yX6_grow cX6_grow 1 (some .int) 101 3022 11 14764 [.ref a0] M (some (.int r)) M' := by
  refine Runs.intro (by decide) (Nat.le_of_ble_eq_true rfl) (fun X C hnm hMC hMS => ?_)
  have C : Cx X cX6_grow RX6 1 (some .int) 101 3022 := C
  show J X 1 0 [(0, .ref a0)] [] M 0 0 (some (.int r)) M'
  unfold f_X6_grow_B at h
  refine J_aload_n (pc' := 1) C 0 dX6_grow_0 rfl rfl rfl ?_
  refine J_iconst (pc' := 2) (v := (0 : Int32)) C dX6_grow_1 rfl (by decide) ?_
  obtain ⟨_, q2, h⟩ := bd h
  obtain ⟨v2, M2, e2, h⟩ := bd2 h
  refine J_cV (pc' := 5) (st := []) (st2 := [.int v2]) (cs2 := 0) (sl2 := 0) C 6 rfl rfl q2 (ok_X6_canBuild N e2) mw_X6_canBuild wq_295 rfl dX6_grow_2 rfl rfl (Nat.le_of_ble_eq_true rfl) (by decide) (by decide) rfl rfl rfl (Nat.zero_le _) (Nat.zero_le _) ?_
  refine J_if_ne (tgt := 11) (pc' := 8) C dX6_grow_5 (by decide) rfl (fun c5 => ?_) (fun c5 => ?_)
  · rw [if_neg c5] at h
    refine J_aload_n (pc' := 12) C 0 dX6_grow_11 rfl rfl rfl ?_
    obtain ⟨v12, e12, h⟩ := bd h
    refine jg_193 (pc' := 15) C dX6_grow_12 rfl (gR_some e12) ?_
    refine J_iconst (pc' := 16) (v := (1 : Int32)) C dX6_grow_15 rfl (by decide) ?_
    obtain ⟨M16, e16, h⟩ := bd h
    refine J_cS (pc' := 19) (st := []) (st2 := []) (cs2 := 0) (sl2 := 0) C (ok_J7_fill_53178 N e16) mw_J7_fill_53178 wq_712 rfl dX6_grow_16 rfl rfl (Nat.le_of_ble_eq_true rfl) (by decide) (by decide) rfl rfl rfl (Nat.zero_le _) (Nat.zero_le _) ?_
    refine J_aload_n (pc' := 20) C 0 dX6_grow_19 rfl rfl rfl ?_
    refine J_aload_n (pc' := 21) C 0 dX6_grow_20 rfl rfl rfl ?_
    obtain ⟨v21, e21, h⟩ := bd h
    refine jg_197 (pc' := 24) C dX6_grow_21 rfl (gR_some e21) ?_
    refine J_aload_n (pc' := 25) C 0 dX6_grow_24 rfl rfl rfl ?_
    obtain ⟨v25, e25, h⟩ := bd h
    refine jg_193 (pc' := 28) C dX6_grow_25 rfl (gR_some e25) ?_
    refine J_iconst (pc' := 29) (v := (0 : Int32)) C dX6_grow_28 rfl (by decide) ?_
    obtain ⟨_, q29, h⟩ := bd h
    obtain ⟨v29, M29, e29, h⟩ := bd2 h
    refine J_cV (pc' := 32) (st := []) (st2 := [.int v29]) (cs2 := 11) (sl2 := 14764) C 6 rfl rfl q29 (ok_X6_makeByLevels_B N e29) mw_X6_makeByLevels wq_315 rfl dX6_grow_29 rfl rfl (Nat.le_of_ble_eq_true rfl) (by decide) (by decide) rfl rfl rfl (by rw [hMC]; decide) (by rw [hMS]; decide) ?_
    refine J_pop (pc' := 33) C dX6_grow_32 rfl rfl ?_
    refine J_aload_n (pc' := 34) C 0 dX6_grow_33 rfl rfl rfl ?_
    refine J_iconst (pc' := 35) (v := (2 : Int32)) C dX6_grow_34 rfl (by decide) ?_
    obtain ⟨M35, e35, h⟩ := bd h
    refine jp_202 (pc' := 38) C (fun _ => ⟨rfl, rfl⟩) dX6_grow_35 rfl e35 ?_
    refine J_aload_n (pc' := 39) C 0 dX6_grow_38 rfl rfl rfl ?_
    obtain ⟨v39, e39, h⟩ := bd h
    refine jg_195 (pc' := 42) C dX6_grow_39 rfl (gR_some e39) ?_
    refine J_iconst (pc' := 43) (v := (0 : Int32)) C dX6_grow_42 rfl (by decide) ?_
    obtain ⟨M43, e43, h⟩ := bd h
    refine jp_125 (pc' := 46) C (fun _ => ⟨rfl, rfl⟩) dX6_grow_43 rfl e43 ?_
    refine J_aload_n (pc' := 47) C 0 dX6_grow_46 rfl rfl rfl ?_
    obtain ⟨v47, e47, h⟩ := bd h
    refine jg_201 (pc' := 50) C dX6_grow_47 rfl (gI_some e47) ?_
    obtain ⟨rfl, rfl⟩ := rt2 h
    exact J_iret C dX6_grow_50 (by rw [hMC]; decide) (by rw [hMS]; decide)
  · rw [if_pos c5] at h
    refine J_bipush (pc' := 10) (v := (-3 : Int32)) C dX6_grow_8 rfl (by decide) ?_
    obtain ⟨rfl, rfl⟩ := rt2 h
    exact J_iret C dX6_grow_10 (Nat.zero_le _) (Nat.zero_le _)
def f_X6_send_A (N : Nat) (a0 : Nat) (a1 : Int32) (M : A_M) : Option (Int32 × A_M) :=
  (chk M a0 6).bind fun _ =>
  bnd2 (f_X6_isThing N a0 a1 M) fun v2 M2 =>
  if v2 = 0 then
  (some ((-1 : Int32), M2))
  else
  ((chk M2 a0 6).bind fun _ =>
  bnd2 (f_X6_isGrowing N a0 M2) fun v11 M11 =>
  if v11 = 0 then
  (some ((-3 : Int32), M11))
  else
  ((gR M11 a0 6 5).bind fun v21 =>
  (gR M11 a0 6 7).bind fun v25 =>
  (chk M11 v21 2).bind fun _ =>
  bnd2 (f_X2_writeWord N v21 v25 a1 M11) fun v29 M29 =>
  if v29 = 0 then
  (some ((-4 : Int32), M29))
  else
  ((gR M29 a0 6 3).bind fun v39 =>
  (ldI M29 v39 a1).bind fun v44 =>
  (stI M29 v39 a1 (v44 + (1 : Int32))).bind fun M47 =>
  (gR M47 a0 6 7).bind fun v50 =>
  (gR M47 a0 6 3).bind fun v54 =>
  (chk M47 a0 6).bind fun _ =>
  bnd2 (f_X6_makeByLevels_A N a0 v50 v54 (0 : Int32) M47) fun v58 M58 =>
  (gR M58 a0 6 5).bind fun v63 =>
  (gI M58 v63 2 2).bind fun v66 =>
  some (v66, M58))))
set_option maxHeartbeats 4000000 in
set_option maxRecDepth 100000 in
theorem ok_X6_send_A (N : Nat) {a0 : Nat} {a1 : Int32} {M : A_M} {r : Int32} {M' : A_M} (h : f_X6_send_A N a0 a1 M = some (r, M')) : Runs yX6_send cX6_send 2 (some .int) 101 3022 0 0 [.ref a0, .int a1] M (some (.int r)) M' := by
  refine Runs.intro (by decide) (Nat.le_of_ble_eq_true rfl) (fun X C hnm hMC hMS => ?_)
  have C : Cx X cX6_send RX6 2 (some .int) 101 3022 := C
  show J X 2 0 [(0, .ref a0), (1, .int a1)] [] M 0 0 (some (.int r)) M'
  unfold f_X6_send_A at h
  refine J_aload_n (pc' := 1) C 0 dX6_send_0 rfl rfl rfl ?_
  refine J_iload_n (pc' := 2) C 1 dX6_send_1 rfl rfl rfl ?_
  obtain ⟨_, q2, h⟩ := bd h
  obtain ⟨v2, M2, e2, h⟩ := bd2 h
  refine J_cV (pc' := 5) (st := []) (st2 := [.int v2]) (cs2 := 0) (sl2 := 0) C 6 rfl rfl q2 (ok_X6_isThing N e2) mw_X6_isThing wq_278 rfl dX6_send_2 rfl rfl (Nat.le_of_ble_eq_true rfl) (by decide) (by decide) rfl rfl rfl (Nat.zero_le _) (Nat.zero_le _) ?_
  refine J_if_ne (tgt := 10) (pc' := 8) C dX6_send_5 (by decide) rfl (fun c5 => ?_) (fun c5 => ?_)
  · rw [if_neg c5] at h
    refine J_aload_n (pc' := 11) C 0 dX6_send_10 rfl rfl rfl ?_
    obtain ⟨_, q11, h⟩ := bd h
    obtain ⟨v11, M11, e11, h⟩ := bd2 h
    refine J_cV (pc' := 14) (st := []) (st2 := [.int v11]) (cs2 := 0) (sl2 := 0) C 6 rfl rfl q11 (ok_X6_isGrowing N e11) mw_X6_isGrowing wq_717 rfl dX6_send_11 rfl rfl (Nat.le_of_ble_eq_true rfl) (by decide) (by decide) rfl rfl rfl (Nat.zero_le _) (Nat.zero_le _) ?_
    refine J_if_ne (tgt := 20) (pc' := 17) C dX6_send_14 (by decide) rfl (fun c14 => ?_) (fun c14 => ?_)
    · rw [if_neg c14] at h
      refine J_aload_n (pc' := 21) C 0 dX6_send_20 rfl rfl rfl ?_
      obtain ⟨v21, e21, h⟩ := bd h
      refine jg_195 (pc' := 24) C dX6_send_21 rfl (gR_some e21) ?_
      refine J_aload_n (pc' := 25) C 0 dX6_send_24 rfl rfl rfl ?_
      obtain ⟨v25, e25, h⟩ := bd h
      refine jg_197 (pc' := 28) C dX6_send_25 rfl (gR_some e25) ?_
      refine J_iload_n (pc' := 29) C 1 dX6_send_28 rfl rfl rfl ?_
      obtain ⟨_, q29, h⟩ := bd h
      obtain ⟨v29, M29, e29, h⟩ := bd2 h
      refine J_cV (pc' := 32) (st := []) (st2 := [.int v29]) (cs2 := 0) (sl2 := 0) C 2 rfl rfl q29 (ok_X2_writeWord N e29) mw_X2_writeWord wq_662 rfl dX6_send_29 rfl rfl (Nat.le_of_ble_eq_true rfl) (by decide) (by decide) rfl rfl rfl (Nat.zero_le _) (Nat.zero_le _) ?_
      refine J_if_ne (tgt := 38) (pc' := 35) C dX6_send_32 (by decide) rfl (fun c32 => ?_) (fun c32 => ?_)
      · rw [if_neg c32] at h
        refine J_aload_n (pc' := 39) C 0 dX6_send_38 rfl rfl rfl ?_
        obtain ⟨v39, e39, h⟩ := bd h
        refine jg_193 (pc' := 42) C dX6_send_39 rfl (gR_some e39) ?_
        refine J_iload_n (pc' := 43) C 1 dX6_send_42 rfl rfl rfl ?_
        refine J_dup2 (pc' := 44) C dX6_send_43 rfl rfl rfl ?_
        obtain ⟨v44, e44, h⟩ := bd h
        refine J_iald (pc' := 45) C dX6_send_44 rfl e44 ?_
        refine J_iconst (pc' := 46) (v := (1 : Int32)) C dX6_send_45 rfl (by decide) ?_
        refine J_iadd (pc' := 47) C dX6_send_46 rfl ?_
        obtain ⟨M47, e47, h⟩ := bd h
        refine J_iast (pc' := 48) C dX6_send_47 rfl e47 ?_
        refine J_aload_n (pc' := 49) C 0 dX6_send_48 rfl rfl rfl ?_
        refine J_aload_n (pc' := 50) C 0 dX6_send_49 rfl rfl rfl ?_
        obtain ⟨v50, e50, h⟩ := bd h
        refine jg_197 (pc' := 53) C dX6_send_50 rfl (gR_some e50) ?_
        refine J_aload_n (pc' := 54) C 0 dX6_send_53 rfl rfl rfl ?_
        obtain ⟨v54, e54, h⟩ := bd h
        refine jg_193 (pc' := 57) C dX6_send_54 rfl (gR_some e54) ?_
        refine J_iconst (pc' := 58) (v := (0 : Int32)) C dX6_send_57 rfl (by decide) ?_
        obtain ⟨_, q58, h⟩ := bd h
        obtain ⟨v58, M58, e58, h⟩ := bd2 h
        refine J_cV (pc' := 61) (st := []) (st2 := [.int v58]) (cs2 := 0) (sl2 := 0) C 6 rfl rfl q58 (ok_X6_makeByLevels_A N e58) mw_X6_makeByLevels wq_315 rfl dX6_send_58 rfl rfl (Nat.le_of_ble_eq_true rfl) (by decide) (by decide) rfl rfl rfl (Nat.zero_le _) (Nat.zero_le _) ?_
        refine J_pop (pc' := 62) C dX6_send_61 rfl rfl ?_
        refine J_aload_n (pc' := 63) C 0 dX6_send_62 rfl rfl rfl ?_
        obtain ⟨v63, e63, h⟩ := bd h
        refine jg_195 (pc' := 66) C dX6_send_63 rfl (gR_some e63) ?_
        obtain ⟨v66, e66, h⟩ := bd h
        refine jg_125 (pc' := 69) C dX6_send_66 rfl (gI_some e66) ?_
        obtain ⟨rfl, rfl⟩ := rt2 h
        exact J_iret C dX6_send_69 (Nat.zero_le _) (Nat.zero_le _)
      · rw [if_pos c32] at h
        refine J_bipush (pc' := 37) (v := (-4 : Int32)) C dX6_send_35 rfl (by decide) ?_
        obtain ⟨rfl, rfl⟩ := rt2 h
        exact J_iret C dX6_send_37 (Nat.zero_le _) (Nat.zero_le _)
    · rw [if_pos c14] at h
      refine J_bipush (pc' := 19) (v := (-3 : Int32)) C dX6_send_17 rfl (by decide) ?_
      obtain ⟨rfl, rfl⟩ := rt2 h
      exact J_iret C dX6_send_19 (Nat.zero_le _) (Nat.zero_le _)
  · rw [if_pos c5] at h
    refine J_iconst (pc' := 9) (v := (-1 : Int32)) C dX6_send_8 rfl (by decide) ?_
    obtain ⟨rfl, rfl⟩ := rt2 h
    exact J_iret C dX6_send_9 (Nat.zero_le _) (Nat.zero_le _)
def f_X6_send_B (N : Nat) (a0 : Nat) (a1 : Int32) (M : A_M) : Option (Int32 × A_M) :=
  (chk M a0 6).bind fun _ =>
  bnd2 (f_X6_isThing N a0 a1 M) fun v2 M2 =>
  if v2 = 0 then
  (some ((-1 : Int32), M2))
  else
  ((chk M2 a0 6).bind fun _ =>
  bnd2 (f_X6_isGrowing N a0 M2) fun v11 M11 =>
  if v11 = 0 then
  (some ((-3 : Int32), M11))
  else
  ((gR M11 a0 6 5).bind fun v21 =>
  (gR M11 a0 6 7).bind fun v25 =>
  (chk M11 v21 2).bind fun _ =>
  bnd2 (f_X2_writeWord N v21 v25 a1 M11) fun v29 M29 =>
  if v29 = 0 then
  (some ((-4 : Int32), M29))
  else
  ((gR M29 a0 6 3).bind fun v39 =>
  (ldI M29 v39 a1).bind fun v44 =>
  (stI M29 v39 a1 (v44 + (1 : Int32))).bind fun M47 =>
  (gR M47 a0 6 7).bind fun v50 =>
  (gR M47 a0 6 3).bind fun v54 =>
  (chk M47 a0 6).bind fun _ =>
  bnd2 (f_X6_makeByLevels_B N a0 v50 v54 (0 : Int32) M47) fun v58 M58 =>
  (gR M58 a0 6 5).bind fun v63 =>
  (gI M58 v63 2 2).bind fun v66 =>
  some (v66, M58))))
set_option maxHeartbeats 4000000 in
set_option maxRecDepth 100000 in
theorem ok_X6_send_B (N : Nat) {a0 : Nat} {a1 : Int32} {M : A_M} {r : Int32} {M' : A_M} (h : f_X6_send_B N a0 a1 M = some (r, M')) : Runs yX6_send cX6_send 2 (some .int) 101 3022 11 14764 [.ref a0, .int a1] M (some (.int r)) M' := by
  refine Runs.intro (by decide) (Nat.le_of_ble_eq_true rfl) (fun X C hnm hMC hMS => ?_)
  have C : Cx X cX6_send RX6 2 (some .int) 101 3022 := C
  show J X 2 0 [(0, .ref a0), (1, .int a1)] [] M 0 0 (some (.int r)) M'
  unfold f_X6_send_B at h
  refine J_aload_n (pc' := 1) C 0 dX6_send_0 rfl rfl rfl ?_
  refine J_iload_n (pc' := 2) C 1 dX6_send_1 rfl rfl rfl ?_
  obtain ⟨_, q2, h⟩ := bd h
  obtain ⟨v2, M2, e2, h⟩ := bd2 h
  refine J_cV (pc' := 5) (st := []) (st2 := [.int v2]) (cs2 := 0) (sl2 := 0) C 6 rfl rfl q2 (ok_X6_isThing N e2) mw_X6_isThing wq_278 rfl dX6_send_2 rfl rfl (Nat.le_of_ble_eq_true rfl) (by decide) (by decide) rfl rfl rfl (Nat.zero_le _) (Nat.zero_le _) ?_
  refine J_if_ne (tgt := 10) (pc' := 8) C dX6_send_5 (by decide) rfl (fun c5 => ?_) (fun c5 => ?_)
  · rw [if_neg c5] at h
    refine J_aload_n (pc' := 11) C 0 dX6_send_10 rfl rfl rfl ?_
    obtain ⟨_, q11, h⟩ := bd h
    obtain ⟨v11, M11, e11, h⟩ := bd2 h
    refine J_cV (pc' := 14) (st := []) (st2 := [.int v11]) (cs2 := 0) (sl2 := 0) C 6 rfl rfl q11 (ok_X6_isGrowing N e11) mw_X6_isGrowing wq_717 rfl dX6_send_11 rfl rfl (Nat.le_of_ble_eq_true rfl) (by decide) (by decide) rfl rfl rfl (Nat.zero_le _) (Nat.zero_le _) ?_
    refine J_if_ne (tgt := 20) (pc' := 17) C dX6_send_14 (by decide) rfl (fun c14 => ?_) (fun c14 => ?_)
    · rw [if_neg c14] at h
      refine J_aload_n (pc' := 21) C 0 dX6_send_20 rfl rfl rfl ?_
      obtain ⟨v21, e21, h⟩ := bd h
      refine jg_195 (pc' := 24) C dX6_send_21 rfl (gR_some e21) ?_
      refine J_aload_n (pc' := 25) C 0 dX6_send_24 rfl rfl rfl ?_
      obtain ⟨v25, e25, h⟩ := bd h
      refine jg_197 (pc' := 28) C dX6_send_25 rfl (gR_some e25) ?_
      refine J_iload_n (pc' := 29) C 1 dX6_send_28 rfl rfl rfl ?_
      obtain ⟨_, q29, h⟩ := bd h
      obtain ⟨v29, M29, e29, h⟩ := bd2 h
      refine J_cV (pc' := 32) (st := []) (st2 := [.int v29]) (cs2 := 0) (sl2 := 0) C 2 rfl rfl q29 (ok_X2_writeWord N e29) mw_X2_writeWord wq_662 rfl dX6_send_29 rfl rfl (Nat.le_of_ble_eq_true rfl) (by decide) (by decide) rfl rfl rfl (Nat.zero_le _) (Nat.zero_le _) ?_
      refine J_if_ne (tgt := 38) (pc' := 35) C dX6_send_32 (by decide) rfl (fun c32 => ?_) (fun c32 => ?_)
      · rw [if_neg c32] at h
        refine J_aload_n (pc' := 39) C 0 dX6_send_38 rfl rfl rfl ?_
        obtain ⟨v39, e39, h⟩ := bd h
        refine jg_193 (pc' := 42) C dX6_send_39 rfl (gR_some e39) ?_
        refine J_iload_n (pc' := 43) C 1 dX6_send_42 rfl rfl rfl ?_
        refine J_dup2 (pc' := 44) C dX6_send_43 rfl rfl rfl ?_
        obtain ⟨v44, e44, h⟩ := bd h
        refine J_iald (pc' := 45) C dX6_send_44 rfl e44 ?_
        refine J_iconst (pc' := 46) (v := (1 : Int32)) C dX6_send_45 rfl (by decide) ?_
        refine J_iadd (pc' := 47) C dX6_send_46 rfl ?_
        obtain ⟨M47, e47, h⟩ := bd h
        refine J_iast (pc' := 48) C dX6_send_47 rfl e47 ?_
        refine J_aload_n (pc' := 49) C 0 dX6_send_48 rfl rfl rfl ?_
        refine J_aload_n (pc' := 50) C 0 dX6_send_49 rfl rfl rfl ?_
        obtain ⟨v50, e50, h⟩ := bd h
        refine jg_197 (pc' := 53) C dX6_send_50 rfl (gR_some e50) ?_
        refine J_aload_n (pc' := 54) C 0 dX6_send_53 rfl rfl rfl ?_
        obtain ⟨v54, e54, h⟩ := bd h
        refine jg_193 (pc' := 57) C dX6_send_54 rfl (gR_some e54) ?_
        refine J_iconst (pc' := 58) (v := (0 : Int32)) C dX6_send_57 rfl (by decide) ?_
        obtain ⟨_, q58, h⟩ := bd h
        obtain ⟨v58, M58, e58, h⟩ := bd2 h
        refine J_cV (pc' := 61) (st := []) (st2 := [.int v58]) (cs2 := 11) (sl2 := 14764) C 6 rfl rfl q58 (ok_X6_makeByLevels_B N e58) mw_X6_makeByLevels wq_315 rfl dX6_send_58 rfl rfl (Nat.le_of_ble_eq_true rfl) (by decide) (by decide) rfl rfl rfl (by rw [hMC]; decide) (by rw [hMS]; decide) ?_
        refine J_pop (pc' := 62) C dX6_send_61 rfl rfl ?_
        refine J_aload_n (pc' := 63) C 0 dX6_send_62 rfl rfl rfl ?_
        obtain ⟨v63, e63, h⟩ := bd h
        refine jg_195 (pc' := 66) C dX6_send_63 rfl (gR_some e63) ?_
        obtain ⟨v66, e66, h⟩ := bd h
        refine jg_125 (pc' := 69) C dX6_send_66 rfl (gI_some e66) ?_
        obtain ⟨rfl, rfl⟩ := rt2 h
        exact J_iret C dX6_send_69 (by rw [hMC]; decide) (by rw [hMS]; decide)
      · rw [if_pos c32] at h
        refine J_bipush (pc' := 37) (v := (-4 : Int32)) C dX6_send_35 rfl (by decide) ?_
        obtain ⟨rfl, rfl⟩ := rt2 h
        exact J_iret C dX6_send_37 (Nat.zero_le _) (Nat.zero_le _)
    · rw [if_pos c14] at h
      refine J_bipush (pc' := 19) (v := (-3 : Int32)) C dX6_send_17 rfl (by decide) ?_
      obtain ⟨rfl, rfl⟩ := rt2 h
      exact J_iret C dX6_send_19 (Nat.zero_le _) (Nat.zero_le _)
  · rw [if_pos c5] at h
    refine J_iconst (pc' := 9) (v := (-1 : Int32)) C dX6_send_8 rfl (by decide) ?_
    obtain ⟨rfl, rfl⟩ := rt2 h
    exact J_iret C dX6_send_9 (Nat.zero_le _) (Nat.zero_le _)
def f_X6_hear_A_L28 (N : Nat) : Nat → Nat → Int32 → A_M → Option (Int32 × A_M)
  | 0, _, _, _ => none
  | n + 1, x0, x1, M =>
    if (200 : Int32) ≤ x1 then
    ((gR M x0 6 5).bind fun v94 =>
    (gI M v94 2 3).bind fun v97 =>
    some (v97, M))
    else
    ((gR M x0 6 5).bind fun v36 =>
    (chk M v36 2).bind fun _ =>
    bnd2 (f_X2_goesOn N v36 M) fun v39 M39 =>
    if v39 = 0 then
    ((gR M39 x0 6 5).bind fun v94 =>
    (gI M39 v94 2 3).bind fun v97 =>
    some (v97, M39))
    else
    ((gR M39 x0 6 8).bind fun v47 =>
    (gR M39 x0 6 4).bind fun v51 =>
    (chk M39 x0 6).bind fun _ =>
    bnd2 (f_X6_makeByLevels_A N x0 v47 v51 (0 : Int32) M39) fun v55 M55 =>
    (gR M55 x0 6 5).bind fun v60 =>
    (gR M55 x0 6 8).bind fun v64 =>
    (chk M55 v60 2).bind fun _ =>
    bnd2 (f_X2_readWord N v60 v64 M55) fun v67 M67 =>
    if 0 ≤ v67 then
    ((gR M67 x0 6 4).bind fun v78 =>
    (ldI M67 v78 v67).bind fun v83 =>
    (stI M67 v78 v67 (v83 + (1 : Int32))).bind fun M86 =>
    f_X6_hear_A_L28 N n x0 (x1 + 1) M86)
    else
    (some (v67, M67))))
set_option maxHeartbeats 4000000 in
set_option maxRecDepth 100000 in
theorem ok_X6_hear_A_L28 {X : JX} (C : Cx X cX6_hear RX6 3 (some .int) 101 3022) (N : Nat) : ∀ (n : Nat) (x0 : Nat) (x1 : Int32) (M : A_M) (r : Int32) (M' : A_M), f_X6_hear_A_L28 N n x0 x1 M = some (r, M') → J X 3 28 [(0, .ref x0), (1, .int x1)] [] M 0 0 (some (.int r)) M' := by
  intro n
  induction n with
  | zero =>
    intro x0 x1 M r M' h
    cases h
  | succ n ih =>
    intro x0 x1 M r M' h
    rw [f_X6_hear_A_L28] at h
    refine J_iload_n (pc' := 29) C 1 dX6_hear_28 rfl rfl rfl ?_
    refine J_sipush (pc' := 32) (v := (200 : Int32)) C dX6_hear_29 rfl (by decide) ?_
    refine J_icmp_ge (tgt := 93) (pc' := 35) C dX6_hear_32 (by decide) rfl (fun c32 => ?_) (fun c32 => ?_)
    · rw [if_pos c32] at h
      refine J_aload_n (pc' := 94) C 0 dX6_hear_93 rfl rfl rfl ?_
      obtain ⟨v94, e94, h⟩ := bd h
      refine jg_195 (pc' := 97) C dX6_hear_94 rfl (gR_some e94) ?_
      obtain ⟨v97, e97, h⟩ := bd h
      refine jg_127 (pc' := 100) C dX6_hear_97 rfl (gI_some e97) ?_
      obtain ⟨rfl, rfl⟩ := rt2 h
      exact J_iret C dX6_hear_100 (Nat.zero_le _) (Nat.zero_le _)
    · rw [if_neg c32] at h
      refine J_aload_n (pc' := 36) C 0 dX6_hear_35 rfl rfl rfl ?_
      obtain ⟨v36, e36, h⟩ := bd h
      refine jg_195 (pc' := 39) C dX6_hear_36 rfl (gR_some e36) ?_
      obtain ⟨_, q39, h⟩ := bd h
      obtain ⟨v39, M39, e39, h⟩ := bd2 h
      refine J_cV (pc' := 42) (st := []) (st2 := [.int v39]) (cs2 := 0) (sl2 := 0) C 2 rfl rfl q39 (ok_X2_goesOn N e39) mw_X2_goesOn wq_692 rfl dX6_hear_39 rfl rfl (Nat.le_of_ble_eq_true rfl) (by decide) (by decide) rfl rfl rfl (Nat.zero_le _) (Nat.zero_le _) ?_
      refine J_if_eq (tgt := 93) (pc' := 45) C dX6_hear_42 (by decide) rfl (fun c42 => ?_) (fun c42 => ?_)
      · rw [if_pos c42] at h
        refine J_aload_n (pc' := 94) C 0 dX6_hear_93 rfl rfl rfl ?_
        obtain ⟨v94, e94, h⟩ := bd h
        refine jg_195 (pc' := 97) C dX6_hear_94 rfl (gR_some e94) ?_
        obtain ⟨v97, e97, h⟩ := bd h
        refine jg_127 (pc' := 100) C dX6_hear_97 rfl (gI_some e97) ?_
        obtain ⟨rfl, rfl⟩ := rt2 h
        exact J_iret C dX6_hear_100 (Nat.zero_le _) (Nat.zero_le _)
      · rw [if_neg c42] at h
        refine J_aload_n (pc' := 46) C 0 dX6_hear_45 rfl rfl rfl ?_
        refine J_aload_n (pc' := 47) C 0 dX6_hear_46 rfl rfl rfl ?_
        obtain ⟨v47, e47, h⟩ := bd h
        refine jg_198 (pc' := 50) C dX6_hear_47 rfl (gR_some e47) ?_
        refine J_aload_n (pc' := 51) C 0 dX6_hear_50 rfl rfl rfl ?_
        obtain ⟨v51, e51, h⟩ := bd h
        refine jg_194 (pc' := 54) C dX6_hear_51 rfl (gR_some e51) ?_
        refine J_iconst (pc' := 55) (v := (0 : Int32)) C dX6_hear_54 rfl (by decide) ?_
        obtain ⟨_, q55, h⟩ := bd h
        obtain ⟨v55, M55, e55, h⟩ := bd2 h
        refine J_cV (pc' := 58) (st := []) (st2 := [.int v55]) (cs2 := 0) (sl2 := 0) C 6 rfl rfl q55 (ok_X6_makeByLevels_A N e55) mw_X6_makeByLevels wq_315 rfl dX6_hear_55 rfl rfl (Nat.le_of_ble_eq_true rfl) (by decide) (by decide) rfl rfl rfl (Nat.zero_le _) (Nat.zero_le _) ?_
        refine J_pop (pc' := 59) C dX6_hear_58 rfl rfl ?_
        refine J_aload_n (pc' := 60) C 0 dX6_hear_59 rfl rfl rfl ?_
        obtain ⟨v60, e60, h⟩ := bd h
        refine jg_195 (pc' := 63) C dX6_hear_60 rfl (gR_some e60) ?_
        refine J_aload_n (pc' := 64) C 0 dX6_hear_63 rfl rfl rfl ?_
        obtain ⟨v64, e64, h⟩ := bd h
        refine jg_198 (pc' := 67) C dX6_hear_64 rfl (gR_some e64) ?_
        obtain ⟨_, q67, h⟩ := bd h
        obtain ⟨v67, M67, e67, h⟩ := bd2 h
        refine J_cV (pc' := 70) (st := []) (st2 := [.int v67]) (cs2 := 0) (sl2 := 0) C 2 rfl rfl q67 (ok_X2_readWord N e67) mw_X2_readWord wq_696 rfl dX6_hear_67 rfl rfl (Nat.le_of_ble_eq_true rfl) (by decide) (by decide) rfl rfl rfl (Nat.zero_le _) (Nat.zero_le _) ?_
        refine J_istore_n (pc' := 71) (lv' := [(2, .int v67), (0, .ref x0), (1, .int x1)]) C dX6_hear_70 rfl rfl (by decide) rfl ?_
        refine J_iload_n (pc' := 72) C 0 dX6_hear_71 rfl rfl rfl ?_
        refine J_if_ge (tgt := 77) (pc' := 75) C dX6_hear_72 (by decide) rfl (fun c72 => ?_) (fun c72 => ?_)
        · rw [if_pos c72] at h
          refine J_aload_n (pc' := 78) C 1 dX6_hear_77 rfl rfl rfl ?_
          obtain ⟨v78, e78, h⟩ := bd h
          refine jg_194 (pc' := 81) C dX6_hear_78 rfl (gR_some e78) ?_
          refine J_iload_n (pc' := 82) C 0 dX6_hear_81 rfl rfl rfl ?_
          refine J_dup2 (pc' := 83) C dX6_hear_82 rfl rfl rfl ?_
          obtain ⟨v83, e83, h⟩ := bd h
          refine J_iald (pc' := 84) C dX6_hear_83 rfl e83 ?_
          refine J_iconst (pc' := 85) (v := (1 : Int32)) C dX6_hear_84 rfl (by decide) ?_
          refine J_iadd (pc' := 86) C dX6_hear_85 rfl ?_
          obtain ⟨M86, e86, h⟩ := bd h
          refine J_iast (pc' := 87) C dX6_hear_86 rfl e86 ?_
          refine J_iinc (pc' := 90) (lv' := [(1, .int (x1 + 1)), (2, .int v67), (0, .ref x0)]) C 2 dX6_hear_87 rfl rfl rfl (by decide) rfl ?_
          refine J_goto (tgt := 28) C dX6_hear_90 (by decide) ?_
          refine J_sub (lv' := [(0, .ref x0), (1, .int (x1 + 1))]) [2, 0] rfl ?_
          exact ih _ _ _ _ _ h
        · rw [if_neg c72] at h
          refine J_iload_n (pc' := 76) C 0 dX6_hear_75 rfl rfl rfl ?_
          obtain ⟨rfl, rfl⟩ := rt2 h
          exact J_iret C dX6_hear_76 (Nat.zero_le _) (Nat.zero_le _)
def f_X6_hear_A (N : Nat) (a0 : Nat) (M : A_M) : Option (Int32 × A_M) :=
  (chk M a0 6).bind fun _ =>
  bnd2 (f_X6_canBuild N a0 (0 : Int32) M) fun v2 M2 =>
  if v2 = 0 then
  (some ((-3 : Int32), M2))
  else
  ((gR M2 a0 6 4).bind fun v12 =>
  (f_J7_fill_53178 N v12 (1 : Int32) M2).bind fun M16 =>
  (gR M16 a0 6 5).bind fun v20 =>
  (chk M16 v20 2).bind fun _ =>
  (f_X2_beginReading N v20 M16).bind fun M23 =>
  f_X6_hear_A_L28 N N a0 (0 : Int32) M23)
set_option maxHeartbeats 4000000 in
set_option maxRecDepth 100000 in
theorem ok_X6_hear_A (N : Nat) {a0 : Nat} {M : A_M} {r : Int32} {M' : A_M} (h : f_X6_hear_A N a0 M = some (r, M')) : Runs yX6_hear cX6_hear 3 (some .int) 101 3022 0 0 [.ref a0] M (some (.int r)) M' := by
  refine Runs.intro (by decide) (Nat.le_of_ble_eq_true rfl) (fun X C hnm hMC hMS => ?_)
  have C : Cx X cX6_hear RX6 3 (some .int) 101 3022 := C
  show J X 3 0 [(0, .ref a0)] [] M 0 0 (some (.int r)) M'
  unfold f_X6_hear_A at h
  refine J_aload_n (pc' := 1) C 0 dX6_hear_0 rfl rfl rfl ?_
  refine J_iconst (pc' := 2) (v := (0 : Int32)) C dX6_hear_1 rfl (by decide) ?_
  obtain ⟨_, q2, h⟩ := bd h
  obtain ⟨v2, M2, e2, h⟩ := bd2 h
  refine J_cV (pc' := 5) (st := []) (st2 := [.int v2]) (cs2 := 0) (sl2 := 0) C 6 rfl rfl q2 (ok_X6_canBuild N e2) mw_X6_canBuild wq_295 rfl dX6_hear_2 rfl rfl (Nat.le_of_ble_eq_true rfl) (by decide) (by decide) rfl rfl rfl (Nat.zero_le _) (Nat.zero_le _) ?_
  refine J_if_ne (tgt := 11) (pc' := 8) C dX6_hear_5 (by decide) rfl (fun c5 => ?_) (fun c5 => ?_)
  · rw [if_neg c5] at h
    refine J_aload_n (pc' := 12) C 0 dX6_hear_11 rfl rfl rfl ?_
    obtain ⟨v12, e12, h⟩ := bd h
    refine jg_194 (pc' := 15) C dX6_hear_12 rfl (gR_some e12) ?_
    refine J_iconst (pc' := 16) (v := (1 : Int32)) C dX6_hear_15 rfl (by decide) ?_
    obtain ⟨M16, e16, h⟩ := bd h
    refine J_cS (pc' := 19) (st := []) (st2 := []) (cs2 := 0) (sl2 := 0) C (ok_J7_fill_53178 N e16) mw_J7_fill_53178 wq_712 rfl dX6_hear_16 rfl rfl (Nat.le_of_ble_eq_true rfl) (by decide) (by decide) rfl rfl rfl (Nat.zero_le _) (Nat.zero_le _) ?_
    refine J_aload_n (pc' := 20) C 0 dX6_hear_19 rfl rfl rfl ?_
    obtain ⟨v20, e20, h⟩ := bd h
    refine jg_195 (pc' := 23) C dX6_hear_20 rfl (gR_some e20) ?_
    obtain ⟨_, q23, h⟩ := bd h
    obtain ⟨M23, e23, h⟩ := bd h
    refine J_cV (pc' := 26) (st := []) (st2 := []) (cs2 := 0) (sl2 := 0) C 2 rfl rfl q23 (ok_X2_beginReading N e23) mw_X2_beginReading wq_688 rfl dX6_hear_23 rfl rfl (Nat.le_of_ble_eq_true rfl) (by decide) (by decide) rfl rfl rfl (Nat.zero_le _) (Nat.zero_le _) ?_
    refine J_iconst (pc' := 27) (v := (0 : Int32)) C dX6_hear_26 rfl (by decide) ?_
    refine J_istore_n (pc' := 28) (lv' := [(1, .int (0 : Int32)), (0, .ref a0)]) C dX6_hear_27 rfl rfl (by decide) rfl ?_
    refine J_sub (lv' := [(0, .ref a0), (1, .int (0 : Int32))]) [1, 0] rfl ?_
    exact ok_X6_hear_A_L28 C N N _ _ _ _ _ h
  · rw [if_pos c5] at h
    refine J_bipush (pc' := 10) (v := (-3 : Int32)) C dX6_hear_8 rfl (by decide) ?_
    obtain ⟨rfl, rfl⟩ := rt2 h
    exact J_iret C dX6_hear_10 (Nat.zero_le _) (Nat.zero_le _)
def f_X6_hear_B_L28A (N : Nat) : Nat → Nat → Int32 → A_M → Option (Int32 × A_M)
  | 0, _, _, _ => none
  | n + 1, x0, x1, M =>
    if (200 : Int32) ≤ x1 then
    ((gR M x0 6 5).bind fun v94 =>
    (gI M v94 2 3).bind fun v97 =>
    some (v97, M))
    else
    ((gR M x0 6 5).bind fun v36 =>
    (chk M v36 2).bind fun _ =>
    bnd2 (f_X2_goesOn N v36 M) fun v39 M39 =>
    if v39 = 0 then
    ((gR M39 x0 6 5).bind fun v94 =>
    (gI M39 v94 2 3).bind fun v97 =>
    some (v97, M39))
    else
    ((gR M39 x0 6 8).bind fun v47 =>
    (gR M39 x0 6 4).bind fun v51 =>
    (chk M39 x0 6).bind fun _ =>
    bnd2 (f_X6_makeByLevels_A N x0 v47 v51 (0 : Int32) M39) fun v55 M55 =>
    (gR M55 x0 6 5).bind fun v60 =>
    (gR M55 x0 6 8).bind fun v64 =>
    (chk M55 v60 2).bind fun _ =>
    bnd2 (f_X2_readWord N v60 v64 M55) fun v67 M67 =>
    if 0 ≤ v67 then
    ((gR M67 x0 6 4).bind fun v78 =>
    (ldI M67 v78 v67).bind fun v83 =>
    (stI M67 v78 v67 (v83 + (1 : Int32))).bind fun M86 =>
    f_X6_hear_B_L28A N n x0 (x1 + 1) M86)
    else
    (some (v67, M67))))
set_option maxHeartbeats 4000000 in
set_option maxRecDepth 100000 in
theorem ok_X6_hear_B_L28A {X : JX} (C : Cx X cX6_hear RX6 3 (some .int) 101 3022) (hMC : xMC X = 11) (hMS : xMS X = 14764) (N : Nat) : ∀ (n : Nat) (x0 : Nat) (x1 : Int32) (M : A_M) (r : Int32) (M' : A_M), f_X6_hear_B_L28A N n x0 x1 M = some (r, M') → J X 3 28 [(0, .ref x0), (1, .int x1)] [] M 11 14764 (some (.int r)) M' := by
  intro n
  induction n with
  | zero =>
    intro x0 x1 M r M' h
    cases h
  | succ n ih =>
    intro x0 x1 M r M' h
    rw [f_X6_hear_B_L28A] at h
    refine J_iload_n (pc' := 29) C 1 dX6_hear_28 rfl rfl rfl ?_
    refine J_sipush (pc' := 32) (v := (200 : Int32)) C dX6_hear_29 rfl (by decide) ?_
    refine J_icmp_ge (tgt := 93) (pc' := 35) C dX6_hear_32 (by decide) rfl (fun c32 => ?_) (fun c32 => ?_)
    · rw [if_pos c32] at h
      refine J_aload_n (pc' := 94) C 0 dX6_hear_93 rfl rfl rfl ?_
      obtain ⟨v94, e94, h⟩ := bd h
      refine jg_195 (pc' := 97) C dX6_hear_94 rfl (gR_some e94) ?_
      obtain ⟨v97, e97, h⟩ := bd h
      refine jg_127 (pc' := 100) C dX6_hear_97 rfl (gI_some e97) ?_
      obtain ⟨rfl, rfl⟩ := rt2 h
      exact J_iret C dX6_hear_100 (by rw [hMC]; decide) (by rw [hMS]; decide)
    · rw [if_neg c32] at h
      refine J_aload_n (pc' := 36) C 0 dX6_hear_35 rfl rfl rfl ?_
      obtain ⟨v36, e36, h⟩ := bd h
      refine jg_195 (pc' := 39) C dX6_hear_36 rfl (gR_some e36) ?_
      obtain ⟨_, q39, h⟩ := bd h
      obtain ⟨v39, M39, e39, h⟩ := bd2 h
      refine J_cV (pc' := 42) (st := []) (st2 := [.int v39]) (cs2 := 11) (sl2 := 14764) C 2 rfl rfl q39 (ok_X2_goesOn N e39) mw_X2_goesOn wq_692 rfl dX6_hear_39 rfl rfl (Nat.le_of_ble_eq_true rfl) (by decide) (by decide) rfl rfl rfl (by rw [hMC]; decide) (by rw [hMS]; decide) ?_
      refine J_if_eq (tgt := 93) (pc' := 45) C dX6_hear_42 (by decide) rfl (fun c42 => ?_) (fun c42 => ?_)
      · rw [if_pos c42] at h
        refine J_aload_n (pc' := 94) C 0 dX6_hear_93 rfl rfl rfl ?_
        obtain ⟨v94, e94, h⟩ := bd h
        refine jg_195 (pc' := 97) C dX6_hear_94 rfl (gR_some e94) ?_
        obtain ⟨v97, e97, h⟩ := bd h
        refine jg_127 (pc' := 100) C dX6_hear_97 rfl (gI_some e97) ?_
        obtain ⟨rfl, rfl⟩ := rt2 h
        exact J_iret C dX6_hear_100 (by rw [hMC]; decide) (by rw [hMS]; decide)
      · rw [if_neg c42] at h
        refine J_aload_n (pc' := 46) C 0 dX6_hear_45 rfl rfl rfl ?_
        refine J_aload_n (pc' := 47) C 0 dX6_hear_46 rfl rfl rfl ?_
        obtain ⟨v47, e47, h⟩ := bd h
        refine jg_198 (pc' := 50) C dX6_hear_47 rfl (gR_some e47) ?_
        refine J_aload_n (pc' := 51) C 0 dX6_hear_50 rfl rfl rfl ?_
        obtain ⟨v51, e51, h⟩ := bd h
        refine jg_194 (pc' := 54) C dX6_hear_51 rfl (gR_some e51) ?_
        refine J_iconst (pc' := 55) (v := (0 : Int32)) C dX6_hear_54 rfl (by decide) ?_
        obtain ⟨_, q55, h⟩ := bd h
        obtain ⟨v55, M55, e55, h⟩ := bd2 h
        refine J_cV (pc' := 58) (st := []) (st2 := [.int v55]) (cs2 := 11) (sl2 := 14764) C 6 rfl rfl q55 (ok_X6_makeByLevels_A N e55) mw_X6_makeByLevels wq_315 rfl dX6_hear_55 rfl rfl (Nat.le_of_ble_eq_true rfl) (by decide) (by decide) rfl rfl rfl (by rw [hMC]; decide) (by rw [hMS]; decide) ?_
        refine J_pop (pc' := 59) C dX6_hear_58 rfl rfl ?_
        refine J_aload_n (pc' := 60) C 0 dX6_hear_59 rfl rfl rfl ?_
        obtain ⟨v60, e60, h⟩ := bd h
        refine jg_195 (pc' := 63) C dX6_hear_60 rfl (gR_some e60) ?_
        refine J_aload_n (pc' := 64) C 0 dX6_hear_63 rfl rfl rfl ?_
        obtain ⟨v64, e64, h⟩ := bd h
        refine jg_198 (pc' := 67) C dX6_hear_64 rfl (gR_some e64) ?_
        obtain ⟨_, q67, h⟩ := bd h
        obtain ⟨v67, M67, e67, h⟩ := bd2 h
        refine J_cV (pc' := 70) (st := []) (st2 := [.int v67]) (cs2 := 11) (sl2 := 14764) C 2 rfl rfl q67 (ok_X2_readWord N e67) mw_X2_readWord wq_696 rfl dX6_hear_67 rfl rfl (Nat.le_of_ble_eq_true rfl) (by decide) (by decide) rfl rfl rfl (by rw [hMC]; decide) (by rw [hMS]; decide) ?_
        refine J_istore_n (pc' := 71) (lv' := [(2, .int v67), (0, .ref x0), (1, .int x1)]) C dX6_hear_70 rfl rfl (by decide) rfl ?_
        refine J_iload_n (pc' := 72) C 0 dX6_hear_71 rfl rfl rfl ?_
        refine J_if_ge (tgt := 77) (pc' := 75) C dX6_hear_72 (by decide) rfl (fun c72 => ?_) (fun c72 => ?_)
        · rw [if_pos c72] at h
          refine J_aload_n (pc' := 78) C 1 dX6_hear_77 rfl rfl rfl ?_
          obtain ⟨v78, e78, h⟩ := bd h
          refine jg_194 (pc' := 81) C dX6_hear_78 rfl (gR_some e78) ?_
          refine J_iload_n (pc' := 82) C 0 dX6_hear_81 rfl rfl rfl ?_
          refine J_dup2 (pc' := 83) C dX6_hear_82 rfl rfl rfl ?_
          obtain ⟨v83, e83, h⟩ := bd h
          refine J_iald (pc' := 84) C dX6_hear_83 rfl e83 ?_
          refine J_iconst (pc' := 85) (v := (1 : Int32)) C dX6_hear_84 rfl (by decide) ?_
          refine J_iadd (pc' := 86) C dX6_hear_85 rfl ?_
          obtain ⟨M86, e86, h⟩ := bd h
          refine J_iast (pc' := 87) C dX6_hear_86 rfl e86 ?_
          refine J_iinc (pc' := 90) (lv' := [(1, .int (x1 + 1)), (2, .int v67), (0, .ref x0)]) C 2 dX6_hear_87 rfl rfl rfl (by decide) rfl ?_
          refine J_goto (tgt := 28) C dX6_hear_90 (by decide) ?_
          refine J_sub (lv' := [(0, .ref x0), (1, .int (x1 + 1))]) [2, 0] rfl ?_
          exact ih _ _ _ _ _ h
        · rw [if_neg c72] at h
          refine J_iload_n (pc' := 76) C 0 dX6_hear_75 rfl rfl rfl ?_
          obtain ⟨rfl, rfl⟩ := rt2 h
          exact J_iret C dX6_hear_76 (by rw [hMC]; decide) (by rw [hMS]; decide)
def f_X6_hear_B_K28 (N : Nat) (x0 : Nat) (x1 : Int32) (M : A_M) : Option (Int32 × A_M) :=
  if (200 : Int32) ≤ x1 then
  ((gR M x0 6 5).bind fun v94 =>
  (gI M v94 2 3).bind fun v97 =>
  some (v97, M))
  else
  ((gR M x0 6 5).bind fun v36 =>
  (chk M v36 2).bind fun _ =>
  bnd2 (f_X2_goesOn N v36 M) fun v39 M39 =>
  if v39 = 0 then
  ((gR M39 x0 6 5).bind fun v94 =>
  (gI M39 v94 2 3).bind fun v97 =>
  some (v97, M39))
  else
  ((gR M39 x0 6 8).bind fun v47 =>
  (gR M39 x0 6 4).bind fun v51 =>
  (chk M39 x0 6).bind fun _ =>
  bnd2 (f_X6_makeByLevels_B N x0 v47 v51 (0 : Int32) M39) fun v55 M55 =>
  (gR M55 x0 6 5).bind fun v60 =>
  (gR M55 x0 6 8).bind fun v64 =>
  (chk M55 v60 2).bind fun _ =>
  bnd2 (f_X2_readWord N v60 v64 M55) fun v67 M67 =>
  if 0 ≤ v67 then
  ((gR M67 x0 6 4).bind fun v78 =>
  (ldI M67 v78 v67).bind fun v83 =>
  (stI M67 v78 v67 (v83 + (1 : Int32))).bind fun M86 =>
  f_X6_hear_B_L28A N N x0 (x1 + 1) M86)
  else
  (some (v67, M67))))
set_option maxHeartbeats 4000000 in
set_option maxRecDepth 100000 in
theorem ok_X6_hear_B_K28 {X : JX} (C : Cx X cX6_hear RX6 3 (some .int) 101 3022) (hMC : xMC X = 11) (hMS : xMS X = 14764) (N : Nat) : ∀ (x0 : Nat) (x1 : Int32) (M : A_M) (r : Int32) (M' : A_M), f_X6_hear_B_K28 N x0 x1 M = some (r, M') → J X 3 28 [(0, .ref x0), (1, .int x1)] [] M 0 0 (some (.int r)) M' := by
  intro x0 x1 M r M' h
  unfold f_X6_hear_B_K28 at h
  refine J_iload_n (pc' := 29) C 1 dX6_hear_28 rfl rfl rfl ?_
  refine J_sipush (pc' := 32) (v := (200 : Int32)) C dX6_hear_29 rfl (by decide) ?_
  refine J_icmp_ge (tgt := 93) (pc' := 35) C dX6_hear_32 (by decide) rfl (fun c32 => ?_) (fun c32 => ?_)
  · rw [if_pos c32] at h
    refine J_aload_n (pc' := 94) C 0 dX6_hear_93 rfl rfl rfl ?_
    obtain ⟨v94, e94, h⟩ := bd h
    refine jg_195 (pc' := 97) C dX6_hear_94 rfl (gR_some e94) ?_
    obtain ⟨v97, e97, h⟩ := bd h
    refine jg_127 (pc' := 100) C dX6_hear_97 rfl (gI_some e97) ?_
    obtain ⟨rfl, rfl⟩ := rt2 h
    exact J_iret C dX6_hear_100 (Nat.zero_le _) (Nat.zero_le _)
  · rw [if_neg c32] at h
    refine J_aload_n (pc' := 36) C 0 dX6_hear_35 rfl rfl rfl ?_
    obtain ⟨v36, e36, h⟩ := bd h
    refine jg_195 (pc' := 39) C dX6_hear_36 rfl (gR_some e36) ?_
    obtain ⟨_, q39, h⟩ := bd h
    obtain ⟨v39, M39, e39, h⟩ := bd2 h
    refine J_cV (pc' := 42) (st := []) (st2 := [.int v39]) (cs2 := 0) (sl2 := 0) C 2 rfl rfl q39 (ok_X2_goesOn N e39) mw_X2_goesOn wq_692 rfl dX6_hear_39 rfl rfl (Nat.le_of_ble_eq_true rfl) (by decide) (by decide) rfl rfl rfl (Nat.zero_le _) (Nat.zero_le _) ?_
    refine J_if_eq (tgt := 93) (pc' := 45) C dX6_hear_42 (by decide) rfl (fun c42 => ?_) (fun c42 => ?_)
    · rw [if_pos c42] at h
      refine J_aload_n (pc' := 94) C 0 dX6_hear_93 rfl rfl rfl ?_
      obtain ⟨v94, e94, h⟩ := bd h
      refine jg_195 (pc' := 97) C dX6_hear_94 rfl (gR_some e94) ?_
      obtain ⟨v97, e97, h⟩ := bd h
      refine jg_127 (pc' := 100) C dX6_hear_97 rfl (gI_some e97) ?_
      obtain ⟨rfl, rfl⟩ := rt2 h
      exact J_iret C dX6_hear_100 (Nat.zero_le _) (Nat.zero_le _)
    · rw [if_neg c42] at h
      refine J_aload_n (pc' := 46) C 0 dX6_hear_45 rfl rfl rfl ?_
      refine J_aload_n (pc' := 47) C 0 dX6_hear_46 rfl rfl rfl ?_
      obtain ⟨v47, e47, h⟩ := bd h
      refine jg_198 (pc' := 50) C dX6_hear_47 rfl (gR_some e47) ?_
      refine J_aload_n (pc' := 51) C 0 dX6_hear_50 rfl rfl rfl ?_
      obtain ⟨v51, e51, h⟩ := bd h
      refine jg_194 (pc' := 54) C dX6_hear_51 rfl (gR_some e51) ?_
      refine J_iconst (pc' := 55) (v := (0 : Int32)) C dX6_hear_54 rfl (by decide) ?_
      obtain ⟨_, q55, h⟩ := bd h
      obtain ⟨v55, M55, e55, h⟩ := bd2 h
      refine J_cV (pc' := 58) (st := []) (st2 := [.int v55]) (cs2 := 11) (sl2 := 14764) C 6 rfl rfl q55 (ok_X6_makeByLevels_B N e55) mw_X6_makeByLevels wq_315 rfl dX6_hear_55 rfl rfl (Nat.le_of_ble_eq_true rfl) (by decide) (by decide) rfl rfl rfl (by rw [hMC]; decide) (by rw [hMS]; decide) ?_
      refine J_pop (pc' := 59) C dX6_hear_58 rfl rfl ?_
      refine J_aload_n (pc' := 60) C 0 dX6_hear_59 rfl rfl rfl ?_
      obtain ⟨v60, e60, h⟩ := bd h
      refine jg_195 (pc' := 63) C dX6_hear_60 rfl (gR_some e60) ?_
      refine J_aload_n (pc' := 64) C 0 dX6_hear_63 rfl rfl rfl ?_
      obtain ⟨v64, e64, h⟩ := bd h
      refine jg_198 (pc' := 67) C dX6_hear_64 rfl (gR_some e64) ?_
      obtain ⟨_, q67, h⟩ := bd h
      obtain ⟨v67, M67, e67, h⟩ := bd2 h
      refine J_cV (pc' := 70) (st := []) (st2 := [.int v67]) (cs2 := 11) (sl2 := 14764) C 2 rfl rfl q67 (ok_X2_readWord N e67) mw_X2_readWord wq_696 rfl dX6_hear_67 rfl rfl (Nat.le_of_ble_eq_true rfl) (by decide) (by decide) rfl rfl rfl (by rw [hMC]; decide) (by rw [hMS]; decide) ?_
      refine J_istore_n (pc' := 71) (lv' := [(2, .int v67), (0, .ref x0), (1, .int x1)]) C dX6_hear_70 rfl rfl (by decide) rfl ?_
      refine J_iload_n (pc' := 72) C 0 dX6_hear_71 rfl rfl rfl ?_
      refine J_if_ge (tgt := 77) (pc' := 75) C dX6_hear_72 (by decide) rfl (fun c72 => ?_) (fun c72 => ?_)
      · rw [if_pos c72] at h
        refine J_aload_n (pc' := 78) C 1 dX6_hear_77 rfl rfl rfl ?_
        obtain ⟨v78, e78, h⟩ := bd h
        refine jg_194 (pc' := 81) C dX6_hear_78 rfl (gR_some e78) ?_
        refine J_iload_n (pc' := 82) C 0 dX6_hear_81 rfl rfl rfl ?_
        refine J_dup2 (pc' := 83) C dX6_hear_82 rfl rfl rfl ?_
        obtain ⟨v83, e83, h⟩ := bd h
        refine J_iald (pc' := 84) C dX6_hear_83 rfl e83 ?_
        refine J_iconst (pc' := 85) (v := (1 : Int32)) C dX6_hear_84 rfl (by decide) ?_
        refine J_iadd (pc' := 86) C dX6_hear_85 rfl ?_
        obtain ⟨M86, e86, h⟩ := bd h
        refine J_iast (pc' := 87) C dX6_hear_86 rfl e86 ?_
        refine J_iinc (pc' := 90) (lv' := [(1, .int (x1 + 1)), (2, .int v67), (0, .ref x0)]) C 2 dX6_hear_87 rfl rfl rfl (by decide) rfl ?_
        refine J_goto (tgt := 28) C dX6_hear_90 (by decide) ?_
        refine J_sub (lv' := [(0, .ref x0), (1, .int (x1 + 1))]) [2, 0] rfl ?_
        exact ok_X6_hear_B_L28A C hMC hMS N N _ _ _ _ _ h
      · rw [if_neg c72] at h
        refine J_iload_n (pc' := 76) C 0 dX6_hear_75 rfl rfl rfl ?_
        obtain ⟨rfl, rfl⟩ := rt2 h
        exact J_iret C dX6_hear_76 (by rw [hMC]; decide) (by rw [hMS]; decide)
def f_X6_hear_B (N : Nat) (a0 : Nat) (M : A_M) : Option (Int32 × A_M) :=
  (chk M a0 6).bind fun _ =>
  bnd2 (f_X6_canBuild N a0 (0 : Int32) M) fun v2 M2 =>
  if v2 = 0 then
  (some ((-3 : Int32), M2))
  else
  ((gR M2 a0 6 4).bind fun v12 =>
  (f_J7_fill_53178 N v12 (1 : Int32) M2).bind fun M16 =>
  (gR M16 a0 6 5).bind fun v20 =>
  (chk M16 v20 2).bind fun _ =>
  (f_X2_beginReading N v20 M16).bind fun M23 =>
  f_X6_hear_B_K28 N a0 (0 : Int32) M23)
set_option maxHeartbeats 4000000 in
set_option maxRecDepth 100000 in
theorem ok_X6_hear_B (N : Nat) {a0 : Nat} {M : A_M} {r : Int32} {M' : A_M} (h : f_X6_hear_B N a0 M = some (r, M')) : Runs yX6_hear cX6_hear 3 (some .int) 101 3022 11 14764 [.ref a0] M (some (.int r)) M' := by
  refine Runs.intro (by decide) (Nat.le_of_ble_eq_true rfl) (fun X C hnm hMC hMS => ?_)
  have C : Cx X cX6_hear RX6 3 (some .int) 101 3022 := C
  show J X 3 0 [(0, .ref a0)] [] M 0 0 (some (.int r)) M'
  unfold f_X6_hear_B at h
  refine J_aload_n (pc' := 1) C 0 dX6_hear_0 rfl rfl rfl ?_
  refine J_iconst (pc' := 2) (v := (0 : Int32)) C dX6_hear_1 rfl (by decide) ?_
  obtain ⟨_, q2, h⟩ := bd h
  obtain ⟨v2, M2, e2, h⟩ := bd2 h
  refine J_cV (pc' := 5) (st := []) (st2 := [.int v2]) (cs2 := 0) (sl2 := 0) C 6 rfl rfl q2 (ok_X6_canBuild N e2) mw_X6_canBuild wq_295 rfl dX6_hear_2 rfl rfl (Nat.le_of_ble_eq_true rfl) (by decide) (by decide) rfl rfl rfl (Nat.zero_le _) (Nat.zero_le _) ?_
  refine J_if_ne (tgt := 11) (pc' := 8) C dX6_hear_5 (by decide) rfl (fun c5 => ?_) (fun c5 => ?_)
  · rw [if_neg c5] at h
    refine J_aload_n (pc' := 12) C 0 dX6_hear_11 rfl rfl rfl ?_
    obtain ⟨v12, e12, h⟩ := bd h
    refine jg_194 (pc' := 15) C dX6_hear_12 rfl (gR_some e12) ?_
    refine J_iconst (pc' := 16) (v := (1 : Int32)) C dX6_hear_15 rfl (by decide) ?_
    obtain ⟨M16, e16, h⟩ := bd h
    refine J_cS (pc' := 19) (st := []) (st2 := []) (cs2 := 0) (sl2 := 0) C (ok_J7_fill_53178 N e16) mw_J7_fill_53178 wq_712 rfl dX6_hear_16 rfl rfl (Nat.le_of_ble_eq_true rfl) (by decide) (by decide) rfl rfl rfl (Nat.zero_le _) (Nat.zero_le _) ?_
    refine J_aload_n (pc' := 20) C 0 dX6_hear_19 rfl rfl rfl ?_
    obtain ⟨v20, e20, h⟩ := bd h
    refine jg_195 (pc' := 23) C dX6_hear_20 rfl (gR_some e20) ?_
    obtain ⟨_, q23, h⟩ := bd h
    obtain ⟨M23, e23, h⟩ := bd h
    refine J_cV (pc' := 26) (st := []) (st2 := []) (cs2 := 0) (sl2 := 0) C 2 rfl rfl q23 (ok_X2_beginReading N e23) mw_X2_beginReading wq_688 rfl dX6_hear_23 rfl rfl (Nat.le_of_ble_eq_true rfl) (by decide) (by decide) rfl rfl rfl (Nat.zero_le _) (Nat.zero_le _) ?_
    refine J_iconst (pc' := 27) (v := (0 : Int32)) C dX6_hear_26 rfl (by decide) ?_
    refine J_istore_n (pc' := 28) (lv' := [(1, .int (0 : Int32)), (0, .ref a0)]) C dX6_hear_27 rfl rfl (by decide) rfl ?_
    refine J_sub (lv' := [(0, .ref a0), (1, .int (0 : Int32))]) [1, 0] rfl ?_
    exact ok_X6_hear_B_K28 C hMC hMS N _ _ _ _ _ h
  · rw [if_pos c5] at h
    refine J_bipush (pc' := 10) (v := (-3 : Int32)) C dX6_hear_8 rfl (by decide) ?_
    obtain ⟨rfl, rfl⟩ := rt2 h
    exact J_iret C dX6_hear_10 (Nat.zero_le _) (Nat.zero_le _)
def f_X6_step_A (N : Nat) (a0 : Nat) (M : A_M) : Option (Int32 × A_M) :=
  (chk M a0 6).bind fun _ =>
  bnd2 (f_X6_hasCode N a0 M) fun v1 M1 =>
  if v1 = 0 then
  (some ((-3 : Int32), M1))
  else
  ((gR M1 a0 6 7).bind fun v11 =>
  (chk M1 v11 0).bind fun _ =>
  bnd2 (f_X0_isFree N v11 M1) fun v14 M14 =>
  if v14 = 0 then
  (some ((-5 : Int32), M14))
  else
  ((gR M14 a0 6 17).bind fun v24 =>
  (gR M14 a0 6 17).bind fun v42 =>
  (gR M14 a0 6 7).bind fun v46 =>
  (gI M14 a0 6 10).bind fun v50 =>
  (chk M14 v42 5).bind fun _ =>
  bnd2 (f_X5_find N v42 v46 v50 M14) fun v53 M53 =>
  some (v53, M53)))
set_option maxHeartbeats 4000000 in
set_option maxRecDepth 100000 in
theorem ok_X6_step_A (N : Nat) {a0 : Nat} {M : A_M} {r : Int32} {M' : A_M} (h : f_X6_step_A N a0 M = some (r, M')) : Runs yX6_step cX6_step 1 (some .int) 5 110 0 0 [.ref a0] M (some (.int r)) M' := by
  refine Runs.intro (by decide) (Nat.le_of_ble_eq_true rfl) (fun X C hnm hMC hMS => ?_)
  have C : Cx X cX6_step RX6 1 (some .int) 5 110 := C
  show J X 1 0 [(0, .ref a0)] [] M 0 0 (some (.int r)) M'
  unfold f_X6_step_A at h
  refine J_aload_n (pc' := 1) C 0 dX6_step_0 rfl rfl rfl ?_
  obtain ⟨_, q1, h⟩ := bd h
  obtain ⟨v1, M1, e1, h⟩ := bd2 h
  refine J_cV (pc' := 4) (st := []) (st2 := [.int v1]) (cs2 := 0) (sl2 := 0) C 6 rfl rfl q1 (ok_X6_hasCode N e1) mw_X6_hasCode wq_562 rfl dX6_step_1 rfl rfl (Nat.le_of_ble_eq_true rfl) (by decide) (by decide) rfl rfl rfl (Nat.zero_le _) (Nat.zero_le _) ?_
  refine J_if_ne (tgt := 10) (pc' := 7) C dX6_step_4 (by decide) rfl (fun c4 => ?_) (fun c4 => ?_)
  · rw [if_neg c4] at h
    refine J_aload_n (pc' := 11) C 0 dX6_step_10 rfl rfl rfl ?_
    obtain ⟨v11, e11, h⟩ := bd h
    refine jg_197 (pc' := 14) C dX6_step_11 rfl (gR_some e11) ?_
    obtain ⟨_, q14, h⟩ := bd h
    obtain ⟨v14, M14, e14, h⟩ := bd2 h
    refine J_cV (pc' := 17) (st := []) (st2 := [.int v14]) (cs2 := 0) (sl2 := 0) C 0 rfl rfl q14 (ok_X0_isFree N e14) mw_X0_isFree wq_627 rfl dX6_step_14 rfl rfl (Nat.le_of_ble_eq_true rfl) (by decide) (by decide) rfl rfl rfl (Nat.zero_le _) (Nat.zero_le _) ?_
    refine J_if_ne (tgt := 23) (pc' := 20) C dX6_step_17 (by decide) rfl (fun c17 => ?_) (fun c17 => ?_)
    · rw [if_neg c17] at h
      refine J_aload_n (pc' := 24) C 0 dX6_step_23 rfl rfl rfl ?_
      obtain ⟨v24, e24, h⟩ := bd h
      refine jg_207 (pc' := 27) C dX6_step_24 rfl (gR_some e24) ?_
      refine J_ifnonnull (tgt := 41) C dX6_step_27 (by decide) ?_
      refine J_aload_n (pc' := 42) C 0 dX6_step_41 rfl rfl rfl ?_
      obtain ⟨v42, e42, h⟩ := bd h
      refine jg_207 (pc' := 45) C dX6_step_42 rfl (gR_some e42) ?_
      refine J_aload_n (pc' := 46) C 0 dX6_step_45 rfl rfl rfl ?_
      obtain ⟨v46, e46, h⟩ := bd h
      refine jg_197 (pc' := 49) C dX6_step_46 rfl (gR_some e46) ?_
      refine J_aload_n (pc' := 50) C 0 dX6_step_49 rfl rfl rfl ?_
      obtain ⟨v50, e50, h⟩ := bd h
      refine jg_200 (pc' := 53) C dX6_step_50 rfl (gI_some e50) ?_
      obtain ⟨_, q53, h⟩ := bd h
      obtain ⟨v53, M53, e53, h⟩ := bd2 h
      refine J_cV (pc' := 56) (st := []) (st2 := [.int v53]) (cs2 := 0) (sl2 := 0) C 5 rfl rfl q53 (ok_X5_find N e53) mw_X5_find wq_773 rfl dX6_step_53 rfl rfl (Nat.le_of_ble_eq_true rfl) (by decide) (by decide) rfl rfl rfl (Nat.zero_le _) (Nat.zero_le _) ?_
      obtain ⟨rfl, rfl⟩ := rt2 h
      exact J_iret C dX6_step_56 (Nat.zero_le _) (Nat.zero_le _)
    · rw [if_pos c17] at h
      refine J_bipush (pc' := 22) (v := (-5 : Int32)) C dX6_step_20 rfl (by decide) ?_
      obtain ⟨rfl, rfl⟩ := rt2 h
      exact J_iret C dX6_step_22 (Nat.zero_le _) (Nat.zero_le _)
  · rw [if_pos c4] at h
    refine J_bipush (pc' := 9) (v := (-3 : Int32)) C dX6_step_7 rfl (by decide) ?_
    obtain ⟨rfl, rfl⟩ := rt2 h
    exact J_iret C dX6_step_9 (Nat.zero_le _) (Nat.zero_le _)
def f_X6_step_B (N : Nat) (a0 : Nat) (M : A_M) : Option (Int32 × A_M) :=
  (chk M a0 6).bind fun _ =>
  bnd2 (f_X6_hasCode N a0 M) fun v1 M1 =>
  if v1 = 0 then
  (some ((-3 : Int32), M1))
  else
  ((gR M1 a0 6 7).bind fun v11 =>
  (chk M1 v11 0).bind fun _ =>
  bnd2 (f_X0_isFree N v11 M1) fun v14 M14 =>
  if v14 = 0 then
  (some ((-5 : Int32), M14))
  else
  ((gZ M14 a0 6 17).bind fun _ =>
  (alM M14 98 (.inr (5, [.null, .null, .null, .null, .null, .null, .int 0, .int 0, .int 0, .int 0, .int 0]))).bind fun M31 =>
  (f_X5_init N 99 98 (upM M14 98 (.inr (5, [.null, .null, .null, .null, .null, .null, .int 0, .int 0, .int 0, .int 0, .int 0])))).bind fun M35 =>
  (pV M35 a0 6 17 (.ref 98)).bind fun M38 =>
  (gR M38 a0 6 17).bind fun v42 =>
  (gR M38 a0 6 7).bind fun v46 =>
  (gI M38 a0 6 10).bind fun v50 =>
  (chk M38 v42 5).bind fun _ =>
  bnd2 (f_X5_find N v42 v46 v50 M38) fun v53 M53 =>
  some (v53, M53)))
set_option maxHeartbeats 4000000 in
set_option maxRecDepth 100000 in
theorem ok_X6_step_B (N : Nat) {a0 : Nat} {M : A_M} {r : Int32} {M' : A_M} (h : f_X6_step_B N a0 M = some (r, M')) : Runs yX6_step cX6_step 1 (some .int) 5 110 7 28328 [.ref a0] M (some (.int r)) M' := by
  refine Runs.intro (by decide) (Nat.le_of_ble_eq_true rfl) (fun X C hnm hMC hMS => ?_)
  have C : Cx X cX6_step RX6 1 (some .int) 5 110 := C
  show J X 1 0 [(0, .ref a0)] [] M 0 0 (some (.int r)) M'
  unfold f_X6_step_B at h
  refine J_aload_n (pc' := 1) C 0 dX6_step_0 rfl rfl rfl ?_
  obtain ⟨_, q1, h⟩ := bd h
  obtain ⟨v1, M1, e1, h⟩ := bd2 h
  refine J_cV (pc' := 4) (st := []) (st2 := [.int v1]) (cs2 := 0) (sl2 := 0) C 6 rfl rfl q1 (ok_X6_hasCode N e1) mw_X6_hasCode wq_562 rfl dX6_step_1 rfl rfl (Nat.le_of_ble_eq_true rfl) (by decide) (by decide) rfl rfl rfl (Nat.zero_le _) (Nat.zero_le _) ?_
  refine J_if_ne (tgt := 10) (pc' := 7) C dX6_step_4 (by decide) rfl (fun c4 => ?_) (fun c4 => ?_)
  · rw [if_neg c4] at h
    refine J_aload_n (pc' := 11) C 0 dX6_step_10 rfl rfl rfl ?_
    obtain ⟨v11, e11, h⟩ := bd h
    refine jg_197 (pc' := 14) C dX6_step_11 rfl (gR_some e11) ?_
    obtain ⟨_, q14, h⟩ := bd h
    obtain ⟨v14, M14, e14, h⟩ := bd2 h
    refine J_cV (pc' := 17) (st := []) (st2 := [.int v14]) (cs2 := 0) (sl2 := 0) C 0 rfl rfl q14 (ok_X0_isFree N e14) mw_X0_isFree wq_627 rfl dX6_step_14 rfl rfl (Nat.le_of_ble_eq_true rfl) (by decide) (by decide) rfl rfl rfl (Nat.zero_le _) (Nat.zero_le _) ?_
    refine J_if_ne (tgt := 23) (pc' := 20) C dX6_step_17 (by decide) rfl (fun c17 => ?_) (fun c17 => ?_)
    · rw [if_neg c17] at h
      refine J_aload_n (pc' := 24) C 0 dX6_step_23 rfl rfl rfl ?_
      obtain ⟨_, e24, h⟩ := bd h
      refine jg_207 (pc' := 27) C dX6_step_24 rfl (gZ_some e24) ?_
      refine J_ifnonnullN (pc' := 30) C dX6_step_27 rfl ?_
      refine J_aload_n (pc' := 31) C 0 dX6_step_30 rfl rfl rfl ?_
      obtain ⟨M31, e31, h⟩ := bd h
      obtain ⟨n31, rfl⟩ := alM_some e31
      refine J_new (pc' := 34) (fs := [.null, .null, .null, .null, .null, .null, .int 0, .int 0, .int 0, .int 0, .int 0]) C 5 98 rfl inA5 tyX5 tyX5_ok wq_733 wq_734 wq_105 (by decide +kernel) rfl n31 (by rw [hMC]; decide) (by rw [hMS]; decide) dX6_step_31 rfl ?_
      refine J_dup (pc' := 35) C dX6_step_34 rfl rfl ?_
      obtain ⟨M35, e35, h⟩ := bd h
      refine J_cIN (pc' := 38) (st := [.ref 98, .ref a0]) (st2 := [.ref 98, .ref a0]) (cs2 := 7) (sl2 := 28328) C (ok_X5_init N e35) mw_X5_init wn_735 rfl dX6_step_35 rfl rfl (Nat.le_of_ble_eq_true rfl) (by decide) (by decide) rfl rfl rfl (by rw [hMC]; decide) (by rw [hMS]; decide) ?_
      obtain ⟨M38, e38, h⟩ := bd h
      refine jp_207 (pc' := 41) C (fun _ => ⟨rfl, rfl⟩) dX6_step_38 rfl e38 ?_
      refine J_aload_n (pc' := 42) C 0 dX6_step_41 rfl rfl rfl ?_
      obtain ⟨v42, e42, h⟩ := bd h
      refine jg_207 (pc' := 45) C dX6_step_42 rfl (gR_some e42) ?_
      refine J_aload_n (pc' := 46) C 0 dX6_step_45 rfl rfl rfl ?_
      obtain ⟨v46, e46, h⟩ := bd h
      refine jg_197 (pc' := 49) C dX6_step_46 rfl (gR_some e46) ?_
      refine J_aload_n (pc' := 50) C 0 dX6_step_49 rfl rfl rfl ?_
      obtain ⟨v50, e50, h⟩ := bd h
      refine jg_200 (pc' := 53) C dX6_step_50 rfl (gI_some e50) ?_
      obtain ⟨_, q53, h⟩ := bd h
      obtain ⟨v53, M53, e53, h⟩ := bd2 h
      refine J_cV (pc' := 56) (st := []) (st2 := [.int v53]) (cs2 := 7) (sl2 := 28328) C 5 rfl rfl q53 (ok_X5_find N e53) mw_X5_find wq_773 rfl dX6_step_53 rfl rfl (Nat.le_of_ble_eq_true rfl) (by decide) (by decide) rfl rfl rfl (by rw [hMC]; decide) (by rw [hMS]; decide) ?_
      obtain ⟨rfl, rfl⟩ := rt2 h
      exact J_iret C dX6_step_56 (by rw [hMC]; decide) (by rw [hMS]; decide)
    · rw [if_pos c17] at h
      refine J_bipush (pc' := 22) (v := (-5 : Int32)) C dX6_step_20 rfl (by decide) ?_
      obtain ⟨rfl, rfl⟩ := rt2 h
      exact J_iret C dX6_step_22 (Nat.zero_le _) (Nat.zero_le _)
  · rw [if_pos c4] at h
    refine J_bipush (pc' := 9) (v := (-3 : Int32)) C dX6_step_7 rfl (by decide) ?_
    obtain ⟨rfl, rfl⟩ := rt2 h
    exact J_iret C dX6_step_9 (Nat.zero_le _) (Nat.zero_le _)
def f_X7_init (N : Nat) (g : Nat) (a0 : Nat) (M : A_M) : Option A_M :=
  (alM M g (.inl (0, (4, .inl (fun _ => 0))))).bind fun M6 =>
  (pV (upM M g (.inl (0, (4, .inl (fun _ => 0))))) a0 7 0 (.ref g)).bind fun M8 =>
  (alM M8 (g + 1) (.inl (0, (24, .inl (fun _ => 0))))).bind fun M14 =>
  (pV (upM M8 (g + 1) (.inl (0, (24, .inl (fun _ => 0))))) a0 7 2 (.ref (g + 1))).bind fun M16 =>
  (alM M16 (g + 2) (.inl (1, (24, .inr (.inl (fun _ => 0)))))).bind fun M22 =>
  (pV (upM M16 (g + 2) (.inl (1, (24, .inr (.inl (fun _ => 0)))))) a0 7 7 (.ref (g + 2))).bind fun M24 =>
  (alM M24 (g + 3) (.inl (0, (24, .inl (fun _ => 0))))).bind fun M30 =>
  (pV (upM M24 (g + 3) (.inl (0, (24, .inl (fun _ => 0))))) a0 7 8 (.ref (g + 3))).bind fun M32 =>
  (alM M32 (g + 4) (.inl (0, (24, .inl (fun _ => 0))))).bind fun M38 =>
  (pV (upM M32 (g + 4) (.inl (0, (24, .inl (fun _ => 0))))) a0 7 9 (.ref (g + 4))).bind fun M40 =>
  (alM M40 (g + 5) (.inl (0, (24, .inl (fun _ => 0))))).bind fun M46 =>
  (pV (upM M40 (g + 5) (.inl (0, (24, .inl (fun _ => 0))))) a0 7 10 (.ref (g + 5))).bind fun M48 =>
  (alM M48 (g + 6) (.inl (1, (216600, .inr (.inl (fun _ => 0)))))).bind fun M54 =>
  (pV (upM M48 (g + 6) (.inl (1, (216600, .inr (.inl (fun _ => 0)))))) a0 7 11 (.ref (g + 6))).bind fun M56 =>
  (alM M56 (g + 7) (.inl (2, (216600, .inl (fun _ => 0))))).bind fun M62 =>
  (pV (upM M56 (g + 7) (.inl (2, (216600, .inl (fun _ => 0))))) a0 7 12 (.ref (g + 7))).bind fun M64 =>
  (alM M64 (g + 8) (.inl (1, (25, .inr (.inl (fun _ => 0)))))).bind fun M70 =>
  (pV (upM M64 (g + 8) (.inl (1, (25, .inr (.inl (fun _ => 0)))))) a0 7 13 (.ref (g + 8))).bind fun M72 =>
  (alM M72 (g + 9) (.inl (0, (4, .inl (fun _ => 0))))).bind fun M77 =>
  (pV (upM M72 (g + 9) (.inl (0, (4, .inl (fun _ => 0))))) a0 7 17 (.ref (g + 9))).bind fun M79 =>
  (alM M79 (g + 10) (.inl (1, (400, .inr (.inl (fun _ => 0)))))).bind fun M86 =>
  (pV (upM M79 (g + 10) (.inl (1, (400, .inr (.inl (fun _ => 0)))))) a0 7 18 (.ref (g + 10))).bind fun M88 =>
  (alM M88 (g + 11) (.inl (0, (400, .inl (fun _ => 0))))).bind fun M95 =>
  (pV (upM M88 (g + 11) (.inl (0, (400, .inl (fun _ => 0))))) a0 7 19 (.ref (g + 11))).bind fun M97 =>
  (alM M97 (g + 12) (.inl (0, (400, .inl (fun _ => 0))))).bind fun M104 =>
  (pV (upM M97 (g + 12) (.inl (0, (400, .inl (fun _ => 0))))) a0 7 20 (.ref (g + 12))).bind fun M106 =>
  (alM M106 (g + 13) (.inl (0, (400, .inl (fun _ => 0))))).bind fun M113 =>
  (pV (upM M106 (g + 13) (.inl (0, (400, .inl (fun _ => 0))))) a0 7 22 (.ref (g + 13))).bind fun M115 =>
  (alM M115 (g + 14) (.inl (0, (24, .inl (fun _ => 0))))).bind fun M121 =>
  (pV (upM M115 (g + 14) (.inl (0, (24, .inl (fun _ => 0))))) a0 7 24 (.ref (g + 14))).bind fun M123 =>
  (alM M123 (g + 15) (.inl (1, (576, .inr (.inl (fun _ => 0)))))).bind fun M130 =>
  (pV (upM M123 (g + 15) (.inl (1, (576, .inr (.inl (fun _ => 0)))))) a0 7 27 (.ref (g + 15))).bind fun M132 =>
  (alM M132 (g + 16) (.inl (1, (150, .inr (.inl (fun _ => 0)))))).bind fun M139 =>
  (pV (upM M132 (g + 16) (.inl (1, (150, .inr (.inl (fun _ => 0)))))) a0 7 28 (.ref (g + 16))).bind fun M141 =>
  (alM M141 (g + 17) (.inl (0, (100, .inl (fun _ => 0))))).bind fun M147 =>
  (pV (upM M141 (g + 17) (.inl (0, (100, .inl (fun _ => 0))))) a0 7 29 (.ref (g + 17))).bind fun M149 =>
  (alM M149 (g + 18) (.inl (0, (100, .inl (fun _ => 0))))).bind fun M155 =>
  (pV (upM M149 (g + 18) (.inl (0, (100, .inl (fun _ => 0))))) a0 7 30 (.ref (g + 18))).bind fun M157 =>
  (alM M157 (g + 19) (.inl (1, (100, .inr (.inl (fun _ => 0)))))).bind fun M163 =>
  (pV (upM M157 (g + 19) (.inl (1, (100, .inr (.inl (fun _ => 0)))))) a0 7 31 (.ref (g + 19))).bind fun M165 =>
  (alM M165 (g + 20) (.inl (0, (100, .inl (fun _ => 0))))).bind fun M171 =>
  (pV (upM M165 (g + 20) (.inl (0, (100, .inl (fun _ => 0))))) a0 7 32 (.ref (g + 20))).bind fun M173 =>
  (alM M173 (g + 21) (.inl (1, (24, .inr (.inl (fun _ => 0)))))).bind fun M179 =>
  (pV (upM M173 (g + 21) (.inl (1, (24, .inr (.inl (fun _ => 0)))))) a0 7 34 (.ref (g + 21))).bind fun M181 =>
  (alM M181 (g + 22) (.inl (0, (24, .inl (fun _ => 0))))).bind fun M187 =>
  (pV (upM M181 (g + 22) (.inl (0, (24, .inl (fun _ => 0))))) a0 7 35 (.ref (g + 22))).bind fun M189 =>
  (pV M189 a0 7 36 (.int (-6 : Int32))).bind fun M195 =>
  (pV M195 a0 7 37 (.int (-6 : Int32))).bind fun M201 =>
  (alM M201 (g + 23) (.inl (1, (600, .inr (.inl (fun _ => 0)))))).bind fun M208 =>
  (pV (upM M201 (g + 23) (.inl (1, (600, .inr (.inl (fun _ => 0)))))) a0 7 38 (.ref (g + 23))).bind fun M210 =>
  (alM M210 (g + 24) (.inl (0, (600, .inl (fun _ => 0))))).bind fun M217 =>
  (pV (upM M210 (g + 24) (.inl (0, (600, .inl (fun _ => 0))))) a0 7 39 (.ref (g + 24))).bind fun M219 =>
  (alM M219 (g + 25) (.inl (0, (2400, .inl (fun _ => 0))))).bind fun M226 =>
  (pV (upM M219 (g + 25) (.inl (0, (2400, .inl (fun _ => 0))))) a0 7 41 (.ref (g + 25))).bind fun M228 =>
  (alM M228 (g + 26) (.inl (0, (24, .inl (fun _ => 0))))).bind fun M234 =>
  (pV (upM M228 (g + 26) (.inl (0, (24, .inl (fun _ => 0))))) a0 7 42 (.ref (g + 26))).bind fun M236 =>
  (alM M236 (g + 27) (.inl (0, (200, .inl (fun _ => 0))))).bind fun M243 =>
  (pV (upM M236 (g + 27) (.inl (0, (200, .inl (fun _ => 0))))) a0 7 43 (.ref (g + 27))).bind fun M245 =>
  (alM M245 (g + 28) (.inl (0, (200, .inl (fun _ => 0))))).bind fun M252 =>
  (pV (upM M245 (g + 28) (.inl (0, (200, .inl (fun _ => 0))))) a0 7 45 (.ref (g + 28))).bind fun M254 =>
  (alM M254 (g + 29) (.inl (1, (18000, .inr (.inl (fun _ => 0)))))).bind fun M261 =>
  (pV (upM M254 (g + 29) (.inl (1, (18000, .inr (.inl (fun _ => 0)))))) a0 7 47 (.ref (g + 29))).bind fun M263 =>
  (alM M263 (g + 30) (.inl (0, (2000, .inl (fun _ => 0))))).bind fun M270 =>
  (pV (upM M263 (g + 30) (.inl (0, (2000, .inl (fun _ => 0))))) a0 7 48 (.ref (g + 30))).bind fun M272 =>
  (alM M272 (g + 31) (.inl (0, (2000, .inl (fun _ => 0))))).bind fun M279 =>
  (pV (upM M272 (g + 31) (.inl (0, (2000, .inl (fun _ => 0))))) a0 7 49 (.ref (g + 31))).bind fun M281 =>
  (alM M281 (g + 32) (.inl (1, (9, .inr (.inl (fun _ => 0)))))).bind fun M287 =>
  (pV (upM M281 (g + 32) (.inl (1, (9, .inr (.inl (fun _ => 0)))))) a0 7 51 (.ref (g + 32))).bind fun M289 =>
  (alM M289 (g + 33) (.inl (0, (2000, .inl (fun _ => 0))))).bind fun M296 =>
  (pV (upM M289 (g + 33) (.inl (0, (2000, .inl (fun _ => 0))))) a0 7 52 (.ref (g + 33))).bind fun M298 =>
  (alM M298 (g + 34) (.inl (1, (192, .inr (.inl (fun _ => 0)))))).bind fun M305 =>
  (pV (upM M298 (g + 34) (.inl (1, (192, .inr (.inl (fun _ => 0)))))) a0 7 54 (.ref (g + 34))).bind fun M307 =>
  (alM M307 (g + 35) (.inl (0, (192, .inl (fun _ => 0))))).bind fun M314 =>
  (pV (upM M307 (g + 35) (.inl (0, (192, .inl (fun _ => 0))))) a0 7 55 (.ref (g + 35))).bind fun M316 =>
  (alM M316 (g + 36) (.inl (0, (8, .inl (fun _ => 0))))).bind fun M322 =>
  (pV (upM M316 (g + 36) (.inl (0, (8, .inl (fun _ => 0))))) a0 7 56 (.ref (g + 36))).bind fun M324 =>
  some M324
set_option maxHeartbeats 4000000 in
set_option maxRecDepth 100000 in
theorem ok_X7_init (N : Nat) {g : Nat} {a0 : Nat} {M : A_M} {M' : A_M} (h : f_X7_init N g a0 M = some M') : Runs yX7_init cX7_init 1 none 1 20 37 464576 [.ref a0] M none M' := by
  refine Runs.intro (by decide) (Nat.le_of_ble_eq_true rfl) (fun X C hnm hMC hMS => ?_)
  have C : Cx X cX7_init RX7 1 none 1 20 := C
  have hini : (xmeth X).name = "<init>" := hnm
  show J X 1 0 [(0, .ref a0)] [] M 0 0 none M'
  unfold f_X7_init at h
  refine J_aload_n (pc' := 1) C 0 dX7_init_0 rfl rfl rfl ?_
  refine J_objInit (pc' := 4) C wq_877 wq_112 wq_113 dX7_init_1 rfl (Nat.le_of_ble_eq_true rfl) (by decide) (by decide) ?_
  refine J_aload_n (pc' := 5) C 0 dX7_init_4 rfl rfl rfl ?_
  refine J_iconst (pc' := 6) (v := (4 : Int32)) C dX7_init_5 rfl (by decide) ?_
  obtain ⟨M6, e6, h⟩ := bd h
  obtain ⟨n6, rfl⟩ := alM_some e6
  refine J_newI (pc' := 8) (N := 4) C g wq_140 n6 (by decide) (by decide) (by decide) (by rw [hMC]; decide) (by rw [hMS]; decide) dX7_init_6 rfl ?_
  obtain ⟨M8, e8, h⟩ := bd h
  refine jpF_879 (pc' := 11) C hini (fun _ => ⟨rfl, rfl⟩) dX7_init_8 rfl e8 ?_
  refine J_aload_n (pc' := 12) C 0 dX7_init_11 rfl rfl rfl ?_
  refine J_bipush (pc' := 14) (v := (24 : Int32)) C dX7_init_12 rfl (by decide) ?_
  obtain ⟨M14, e14, h⟩ := bd h
  obtain ⟨n14, rfl⟩ := alM_some e14
  refine J_newI (pc' := 16) (N := 24) C (g + 1) wq_140 n14 (by decide) (by decide) (by decide) (by rw [hMC]; decide) (by rw [hMS]; decide) dX7_init_14 rfl ?_
  obtain ⟨M16, e16, h⟩ := bd h
  refine jpF_881 (pc' := 19) C hini (fun _ => ⟨rfl, rfl⟩) dX7_init_16 rfl e16 ?_
  refine J_aload_n (pc' := 20) C 0 dX7_init_19 rfl rfl rfl ?_
  refine J_bipush (pc' := 22) (v := (24 : Int32)) C dX7_init_20 rfl (by decide) ?_
  obtain ⟨M22, e22, h⟩ := bd h
  obtain ⟨n22, rfl⟩ := alM_some e22
  refine J_newJ (pc' := 24) (N := 24) C (g + 2) wq_163 n22 (by decide) (by decide) (by decide) (by rw [hMC]; decide) (by rw [hMS]; decide) dX7_init_22 rfl ?_
  obtain ⟨M24, e24, h⟩ := bd h
  refine jpF_886 (pc' := 27) C hini (fun _ => ⟨rfl, rfl⟩) dX7_init_24 rfl e24 ?_
  refine J_aload_n (pc' := 28) C 0 dX7_init_27 rfl rfl rfl ?_
  refine J_bipush (pc' := 30) (v := (24 : Int32)) C dX7_init_28 rfl (by decide) ?_
  obtain ⟨M30, e30, h⟩ := bd h
  obtain ⟨n30, rfl⟩ := alM_some e30
  refine J_newI (pc' := 32) (N := 24) C (g + 3) wq_140 n30 (by decide) (by decide) (by decide) (by rw [hMC]; decide) (by rw [hMS]; decide) dX7_init_30 rfl ?_
  obtain ⟨M32, e32, h⟩ := bd h
  refine jpF_887 (pc' := 35) C hini (fun _ => ⟨rfl, rfl⟩) dX7_init_32 rfl e32 ?_
  refine J_aload_n (pc' := 36) C 0 dX7_init_35 rfl rfl rfl ?_
  refine J_bipush (pc' := 38) (v := (24 : Int32)) C dX7_init_36 rfl (by decide) ?_
  obtain ⟨M38, e38, h⟩ := bd h
  obtain ⟨n38, rfl⟩ := alM_some e38
  refine J_newI (pc' := 40) (N := 24) C (g + 4) wq_140 n38 (by decide) (by decide) (by decide) (by rw [hMC]; decide) (by rw [hMS]; decide) dX7_init_38 rfl ?_
  obtain ⟨M40, e40, h⟩ := bd h
  refine jpF_888 (pc' := 43) C hini (fun _ => ⟨rfl, rfl⟩) dX7_init_40 rfl e40 ?_
  refine J_aload_n (pc' := 44) C 0 dX7_init_43 rfl rfl rfl ?_
  refine J_bipush (pc' := 46) (v := (24 : Int32)) C dX7_init_44 rfl (by decide) ?_
  obtain ⟨M46, e46, h⟩ := bd h
  obtain ⟨n46, rfl⟩ := alM_some e46
  refine J_newI (pc' := 48) (N := 24) C (g + 5) wq_140 n46 (by decide) (by decide) (by decide) (by rw [hMC]; decide) (by rw [hMS]; decide) dX7_init_46 rfl ?_
  obtain ⟨M48, e48, h⟩ := bd h
  refine jpF_889 (pc' := 51) C hini (fun _ => ⟨rfl, rfl⟩) dX7_init_48 rfl e48 ?_
  refine J_aload_n (pc' := 52) C 0 dX7_init_51 rfl rfl rfl ?_
  refine J_ldc (pc' := 54) C dX7_init_52 rfl wq_878 ?_
  obtain ⟨M54, e54, h⟩ := bd h
  obtain ⟨n54, rfl⟩ := alM_some e54
  refine J_newJ (pc' := 56) (N := 216600) C (g + 6) wq_163 n54 (by decide) (by decide) (by decide) (by rw [hMC]; decide) (by rw [hMS]; decide) dX7_init_54 rfl ?_
  obtain ⟨M56, e56, h⟩ := bd h
  refine jpF_890 (pc' := 59) C hini (fun _ => ⟨rfl, rfl⟩) dX7_init_56 rfl e56 ?_
  refine J_aload_n (pc' := 60) C 0 dX7_init_59 rfl rfl rfl ?_
  refine J_ldc (pc' := 62) C dX7_init_60 rfl wq_878 ?_
  obtain ⟨M62, e62, h⟩ := bd h
  obtain ⟨n62, rfl⟩ := alM_some e62
  refine J_newZ (pc' := 64) (N := 216600) C (g + 7) wq_1051 n62 (by decide) (by decide) (by decide) (by rw [hMC]; decide) (by rw [hMS]; decide) dX7_init_62 rfl ?_
  obtain ⟨M64, e64, h⟩ := bd h
  refine jpF_891 (pc' := 67) C hini (fun _ => ⟨rfl, rfl⟩) dX7_init_64 rfl e64 ?_
  refine J_aload_n (pc' := 68) C 0 dX7_init_67 rfl rfl rfl ?_
  refine J_bipush (pc' := 70) (v := (25 : Int32)) C dX7_init_68 rfl (by decide) ?_
  obtain ⟨M70, e70, h⟩ := bd h
  obtain ⟨n70, rfl⟩ := alM_some e70
  refine J_newJ (pc' := 72) (N := 25) C (g + 8) wq_163 n70 (by decide) (by decide) (by decide) (by rw [hMC]; decide) (by rw [hMS]; decide) dX7_init_70 rfl ?_
  obtain ⟨M72, e72, h⟩ := bd h
  refine jpF_892 (pc' := 75) C hini (fun _ => ⟨rfl, rfl⟩) dX7_init_72 rfl e72 ?_
  refine J_aload_n (pc' := 76) C 0 dX7_init_75 rfl rfl rfl ?_
  refine J_iconst (pc' := 77) (v := (4 : Int32)) C dX7_init_76 rfl (by decide) ?_
  obtain ⟨M77, e77, h⟩ := bd h
  obtain ⟨n77, rfl⟩ := alM_some e77
  refine J_newI (pc' := 79) (N := 4) C (g + 9) wq_140 n77 (by decide) (by decide) (by decide) (by rw [hMC]; decide) (by rw [hMS]; decide) dX7_init_77 rfl ?_
  obtain ⟨M79, e79, h⟩ := bd h
  refine jpF_896 (pc' := 82) C hini (fun _ => ⟨rfl, rfl⟩) dX7_init_79 rfl e79 ?_
  refine J_aload_n (pc' := 83) C 0 dX7_init_82 rfl rfl rfl ?_
  refine J_sipush (pc' := 86) (v := (400 : Int32)) C dX7_init_83 rfl (by decide) ?_
  obtain ⟨M86, e86, h⟩ := bd h
  obtain ⟨n86, rfl⟩ := alM_some e86
  refine J_newJ (pc' := 88) (N := 400) C (g + 10) wq_163 n86 (by decide) (by decide) (by decide) (by rw [hMC]; decide) (by rw [hMS]; decide) dX7_init_86 rfl ?_
  obtain ⟨M88, e88, h⟩ := bd h
  refine jpF_897 (pc' := 91) C hini (fun _ => ⟨rfl, rfl⟩) dX7_init_88 rfl e88 ?_
  refine J_aload_n (pc' := 92) C 0 dX7_init_91 rfl rfl rfl ?_
  refine J_sipush (pc' := 95) (v := (400 : Int32)) C dX7_init_92 rfl (by decide) ?_
  obtain ⟨M95, e95, h⟩ := bd h
  obtain ⟨n95, rfl⟩ := alM_some e95
  refine J_newI (pc' := 97) (N := 400) C (g + 11) wq_140 n95 (by decide) (by decide) (by decide) (by rw [hMC]; decide) (by rw [hMS]; decide) dX7_init_95 rfl ?_
  obtain ⟨M97, e97, h⟩ := bd h
  refine jpF_898 (pc' := 100) C hini (fun _ => ⟨rfl, rfl⟩) dX7_init_97 rfl e97 ?_
  refine J_aload_n (pc' := 101) C 0 dX7_init_100 rfl rfl rfl ?_
  refine J_sipush (pc' := 104) (v := (400 : Int32)) C dX7_init_101 rfl (by decide) ?_
  obtain ⟨M104, e104, h⟩ := bd h
  obtain ⟨n104, rfl⟩ := alM_some e104
  refine J_newI (pc' := 106) (N := 400) C (g + 12) wq_140 n104 (by decide) (by decide) (by decide) (by rw [hMC]; decide) (by rw [hMS]; decide) dX7_init_104 rfl ?_
  obtain ⟨M106, e106, h⟩ := bd h
  refine jpF_899 (pc' := 109) C hini (fun _ => ⟨rfl, rfl⟩) dX7_init_106 rfl e106 ?_
  refine J_aload_n (pc' := 110) C 0 dX7_init_109 rfl rfl rfl ?_
  refine J_sipush (pc' := 113) (v := (400 : Int32)) C dX7_init_110 rfl (by decide) ?_
  obtain ⟨M113, e113, h⟩ := bd h
  obtain ⟨n113, rfl⟩ := alM_some e113
  refine J_newI (pc' := 115) (N := 400) C (g + 13) wq_140 n113 (by decide) (by decide) (by decide) (by rw [hMC]; decide) (by rw [hMS]; decide) dX7_init_113 rfl ?_
  obtain ⟨M115, e115, h⟩ := bd h
  refine jpF_901 (pc' := 118) C hini (fun _ => ⟨rfl, rfl⟩) dX7_init_115 rfl e115 ?_
  refine J_aload_n (pc' := 119) C 0 dX7_init_118 rfl rfl rfl ?_
  refine J_bipush (pc' := 121) (v := (24 : Int32)) C dX7_init_119 rfl (by decide) ?_
  obtain ⟨M121, e121, h⟩ := bd h
  obtain ⟨n121, rfl⟩ := alM_some e121
  refine J_newI (pc' := 123) (N := 24) C (g + 14) wq_140 n121 (by decide) (by decide) (by decide) (by rw [hMC]; decide) (by rw [hMS]; decide) dX7_init_121 rfl ?_
  obtain ⟨M123, e123, h⟩ := bd h
  refine jpF_903 (pc' := 126) C hini (fun _ => ⟨rfl, rfl⟩) dX7_init_123 rfl e123 ?_
  refine J_aload_n (pc' := 127) C 0 dX7_init_126 rfl rfl rfl ?_
  refine J_sipush (pc' := 130) (v := (576 : Int32)) C dX7_init_127 rfl (by decide) ?_
  obtain ⟨M130, e130, h⟩ := bd h
  obtain ⟨n130, rfl⟩ := alM_some e130
  refine J_newJ (pc' := 132) (N := 576) C (g + 15) wq_163 n130 (by decide) (by decide) (by decide) (by rw [hMC]; decide) (by rw [hMS]; decide) dX7_init_130 rfl ?_
  obtain ⟨M132, e132, h⟩ := bd h
  refine jpF_906 (pc' := 135) C hini (fun _ => ⟨rfl, rfl⟩) dX7_init_132 rfl e132 ?_
  refine J_aload_n (pc' := 136) C 0 dX7_init_135 rfl rfl rfl ?_
  refine J_sipush (pc' := 139) (v := (150 : Int32)) C dX7_init_136 rfl (by decide) ?_
  obtain ⟨M139, e139, h⟩ := bd h
  obtain ⟨n139, rfl⟩ := alM_some e139
  refine J_newJ (pc' := 141) (N := 150) C (g + 16) wq_163 n139 (by decide) (by decide) (by decide) (by rw [hMC]; decide) (by rw [hMS]; decide) dX7_init_139 rfl ?_
  obtain ⟨M141, e141, h⟩ := bd h
  refine jpF_907 (pc' := 144) C hini (fun _ => ⟨rfl, rfl⟩) dX7_init_141 rfl e141 ?_
  refine J_aload_n (pc' := 145) C 0 dX7_init_144 rfl rfl rfl ?_
  refine J_bipush (pc' := 147) (v := (100 : Int32)) C dX7_init_145 rfl (by decide) ?_
  obtain ⟨M147, e147, h⟩ := bd h
  obtain ⟨n147, rfl⟩ := alM_some e147
  refine J_newI (pc' := 149) (N := 100) C (g + 17) wq_140 n147 (by decide) (by decide) (by decide) (by rw [hMC]; decide) (by rw [hMS]; decide) dX7_init_147 rfl ?_
  obtain ⟨M149, e149, h⟩ := bd h
  refine jpF_908 (pc' := 152) C hini (fun _ => ⟨rfl, rfl⟩) dX7_init_149 rfl e149 ?_
  refine J_aload_n (pc' := 153) C 0 dX7_init_152 rfl rfl rfl ?_
  refine J_bipush (pc' := 155) (v := (100 : Int32)) C dX7_init_153 rfl (by decide) ?_
  obtain ⟨M155, e155, h⟩ := bd h
  obtain ⟨n155, rfl⟩ := alM_some e155
  refine J_newI (pc' := 157) (N := 100) C (g + 18) wq_140 n155 (by decide) (by decide) (by decide) (by rw [hMC]; decide) (by rw [hMS]; decide) dX7_init_155 rfl ?_
  obtain ⟨M157, e157, h⟩ := bd h
  refine jpF_909 (pc' := 160) C hini (fun _ => ⟨rfl, rfl⟩) dX7_init_157 rfl e157 ?_
  refine J_aload_n (pc' := 161) C 0 dX7_init_160 rfl rfl rfl ?_
  refine J_bipush (pc' := 163) (v := (100 : Int32)) C dX7_init_161 rfl (by decide) ?_
  obtain ⟨M163, e163, h⟩ := bd h
  obtain ⟨n163, rfl⟩ := alM_some e163
  refine J_newJ (pc' := 165) (N := 100) C (g + 19) wq_163 n163 (by decide) (by decide) (by decide) (by rw [hMC]; decide) (by rw [hMS]; decide) dX7_init_163 rfl ?_
  obtain ⟨M165, e165, h⟩ := bd h
  refine jpF_910 (pc' := 168) C hini (fun _ => ⟨rfl, rfl⟩) dX7_init_165 rfl e165 ?_
  refine J_aload_n (pc' := 169) C 0 dX7_init_168 rfl rfl rfl ?_
  refine J_bipush (pc' := 171) (v := (100 : Int32)) C dX7_init_169 rfl (by decide) ?_
  obtain ⟨M171, e171, h⟩ := bd h
  obtain ⟨n171, rfl⟩ := alM_some e171
  refine J_newI (pc' := 173) (N := 100) C (g + 20) wq_140 n171 (by decide) (by decide) (by decide) (by rw [hMC]; decide) (by rw [hMS]; decide) dX7_init_171 rfl ?_
  obtain ⟨M173, e173, h⟩ := bd h
  refine jpF_911 (pc' := 176) C hini (fun _ => ⟨rfl, rfl⟩) dX7_init_173 rfl e173 ?_
  refine J_aload_n (pc' := 177) C 0 dX7_init_176 rfl rfl rfl ?_
  refine J_bipush (pc' := 179) (v := (24 : Int32)) C dX7_init_177 rfl (by decide) ?_
  obtain ⟨M179, e179, h⟩ := bd h
  obtain ⟨n179, rfl⟩ := alM_some e179
  refine J_newJ (pc' := 181) (N := 24) C (g + 21) wq_163 n179 (by decide) (by decide) (by decide) (by rw [hMC]; decide) (by rw [hMS]; decide) dX7_init_179 rfl ?_
  obtain ⟨M181, e181, h⟩ := bd h
  refine jpF_913 (pc' := 184) C hini (fun _ => ⟨rfl, rfl⟩) dX7_init_181 rfl e181 ?_
  refine J_aload_n (pc' := 185) C 0 dX7_init_184 rfl rfl rfl ?_
  refine J_bipush (pc' := 187) (v := (24 : Int32)) C dX7_init_185 rfl (by decide) ?_
  obtain ⟨M187, e187, h⟩ := bd h
  obtain ⟨n187, rfl⟩ := alM_some e187
  refine J_newI (pc' := 189) (N := 24) C (g + 22) wq_140 n187 (by decide) (by decide) (by decide) (by rw [hMC]; decide) (by rw [hMS]; decide) dX7_init_187 rfl ?_
  obtain ⟨M189, e189, h⟩ := bd h
  refine jpF_914 (pc' := 192) C hini (fun _ => ⟨rfl, rfl⟩) dX7_init_189 rfl e189 ?_
  refine J_aload_n (pc' := 193) C 0 dX7_init_192 rfl rfl rfl ?_
  refine J_bipush (pc' := 195) (v := (-6 : Int32)) C dX7_init_193 rfl (by decide) ?_
  obtain ⟨M195, e195, h⟩ := bd h
  refine jp_915 (pc' := 198) C (fun _ => ⟨rfl, rfl⟩) dX7_init_195 rfl e195 ?_
  refine J_aload_n (pc' := 199) C 0 dX7_init_198 rfl rfl rfl ?_
  refine J_bipush (pc' := 201) (v := (-6 : Int32)) C dX7_init_199 rfl (by decide) ?_
  obtain ⟨M201, e201, h⟩ := bd h
  refine jp_916 (pc' := 204) C (fun _ => ⟨rfl, rfl⟩) dX7_init_201 rfl e201 ?_
  refine J_aload_n (pc' := 205) C 0 dX7_init_204 rfl rfl rfl ?_
  refine J_sipush (pc' := 208) (v := (600 : Int32)) C dX7_init_205 rfl (by decide) ?_
  obtain ⟨M208, e208, h⟩ := bd h
  obtain ⟨n208, rfl⟩ := alM_some e208
  refine J_newJ (pc' := 210) (N := 600) C (g + 23) wq_163 n208 (by decide) (by decide) (by decide) (by rw [hMC]; decide) (by rw [hMS]; decide) dX7_init_208 rfl ?_
  obtain ⟨M210, e210, h⟩ := bd h
  refine jpF_917 (pc' := 213) C hini (fun _ => ⟨rfl, rfl⟩) dX7_init_210 rfl e210 ?_
  refine J_aload_n (pc' := 214) C 0 dX7_init_213 rfl rfl rfl ?_
  refine J_sipush (pc' := 217) (v := (600 : Int32)) C dX7_init_214 rfl (by decide) ?_
  obtain ⟨M217, e217, h⟩ := bd h
  obtain ⟨n217, rfl⟩ := alM_some e217
  refine J_newI (pc' := 219) (N := 600) C (g + 24) wq_140 n217 (by decide) (by decide) (by decide) (by rw [hMC]; decide) (by rw [hMS]; decide) dX7_init_217 rfl ?_
  obtain ⟨M219, e219, h⟩ := bd h
  refine jpF_918 (pc' := 222) C hini (fun _ => ⟨rfl, rfl⟩) dX7_init_219 rfl e219 ?_
  refine J_aload_n (pc' := 223) C 0 dX7_init_222 rfl rfl rfl ?_
  refine J_sipush (pc' := 226) (v := (2400 : Int32)) C dX7_init_223 rfl (by decide) ?_
  obtain ⟨M226, e226, h⟩ := bd h
  obtain ⟨n226, rfl⟩ := alM_some e226
  refine J_newI (pc' := 228) (N := 2400) C (g + 25) wq_140 n226 (by decide) (by decide) (by decide) (by rw [hMC]; decide) (by rw [hMS]; decide) dX7_init_226 rfl ?_
  obtain ⟨M228, e228, h⟩ := bd h
  refine jpF_920 (pc' := 231) C hini (fun _ => ⟨rfl, rfl⟩) dX7_init_228 rfl e228 ?_
  refine J_aload_n (pc' := 232) C 0 dX7_init_231 rfl rfl rfl ?_
  refine J_bipush (pc' := 234) (v := (24 : Int32)) C dX7_init_232 rfl (by decide) ?_
  obtain ⟨M234, e234, h⟩ := bd h
  obtain ⟨n234, rfl⟩ := alM_some e234
  refine J_newI (pc' := 236) (N := 24) C (g + 26) wq_140 n234 (by decide) (by decide) (by decide) (by rw [hMC]; decide) (by rw [hMS]; decide) dX7_init_234 rfl ?_
  obtain ⟨M236, e236, h⟩ := bd h
  refine jpF_921 (pc' := 239) C hini (fun _ => ⟨rfl, rfl⟩) dX7_init_236 rfl e236 ?_
  refine J_aload_n (pc' := 240) C 0 dX7_init_239 rfl rfl rfl ?_
  refine J_sipush (pc' := 243) (v := (200 : Int32)) C dX7_init_240 rfl (by decide) ?_
  obtain ⟨M243, e243, h⟩ := bd h
  obtain ⟨n243, rfl⟩ := alM_some e243
  refine J_newI (pc' := 245) (N := 200) C (g + 27) wq_140 n243 (by decide) (by decide) (by decide) (by rw [hMC]; decide) (by rw [hMS]; decide) dX7_init_243 rfl ?_
  obtain ⟨M245, e245, h⟩ := bd h
  refine jpF_922 (pc' := 248) C hini (fun _ => ⟨rfl, rfl⟩) dX7_init_245 rfl e245 ?_
  refine J_aload_n (pc' := 249) C 0 dX7_init_248 rfl rfl rfl ?_
  refine J_sipush (pc' := 252) (v := (200 : Int32)) C dX7_init_249 rfl (by decide) ?_
  obtain ⟨M252, e252, h⟩ := bd h
  obtain ⟨n252, rfl⟩ := alM_some e252
  refine J_newI (pc' := 254) (N := 200) C (g + 28) wq_140 n252 (by decide) (by decide) (by decide) (by rw [hMC]; decide) (by rw [hMS]; decide) dX7_init_252 rfl ?_
  obtain ⟨M254, e254, h⟩ := bd h
  refine jpF_924 (pc' := 257) C hini (fun _ => ⟨rfl, rfl⟩) dX7_init_254 rfl e254 ?_
  refine J_aload_n (pc' := 258) C 0 dX7_init_257 rfl rfl rfl ?_
  refine J_sipush (pc' := 261) (v := (18000 : Int32)) C dX7_init_258 rfl (by decide) ?_
  obtain ⟨M261, e261, h⟩ := bd h
  obtain ⟨n261, rfl⟩ := alM_some e261
  refine J_newJ (pc' := 263) (N := 18000) C (g + 29) wq_163 n261 (by decide) (by decide) (by decide) (by rw [hMC]; decide) (by rw [hMS]; decide) dX7_init_261 rfl ?_
  obtain ⟨M263, e263, h⟩ := bd h
  refine jpF_926 (pc' := 266) C hini (fun _ => ⟨rfl, rfl⟩) dX7_init_263 rfl e263 ?_
  refine J_aload_n (pc' := 267) C 0 dX7_init_266 rfl rfl rfl ?_
  refine J_sipush (pc' := 270) (v := (2000 : Int32)) C dX7_init_267 rfl (by decide) ?_
  obtain ⟨M270, e270, h⟩ := bd h
  obtain ⟨n270, rfl⟩ := alM_some e270
  refine J_newI (pc' := 272) (N := 2000) C (g + 30) wq_140 n270 (by decide) (by decide) (by decide) (by rw [hMC]; decide) (by rw [hMS]; decide) dX7_init_270 rfl ?_
  obtain ⟨M272, e272, h⟩ := bd h
  refine jpF_927 (pc' := 275) C hini (fun _ => ⟨rfl, rfl⟩) dX7_init_272 rfl e272 ?_
  refine J_aload_n (pc' := 276) C 0 dX7_init_275 rfl rfl rfl ?_
  refine J_sipush (pc' := 279) (v := (2000 : Int32)) C dX7_init_276 rfl (by decide) ?_
  obtain ⟨M279, e279, h⟩ := bd h
  obtain ⟨n279, rfl⟩ := alM_some e279
  refine J_newI (pc' := 281) (N := 2000) C (g + 31) wq_140 n279 (by decide) (by decide) (by decide) (by rw [hMC]; decide) (by rw [hMS]; decide) dX7_init_279 rfl ?_
  obtain ⟨M281, e281, h⟩ := bd h
  refine jpF_928 (pc' := 284) C hini (fun _ => ⟨rfl, rfl⟩) dX7_init_281 rfl e281 ?_
  refine J_aload_n (pc' := 285) C 0 dX7_init_284 rfl rfl rfl ?_
  refine J_bipush (pc' := 287) (v := (9 : Int32)) C dX7_init_285 rfl (by decide) ?_
  obtain ⟨M287, e287, h⟩ := bd h
  obtain ⟨n287, rfl⟩ := alM_some e287
  refine J_newJ (pc' := 289) (N := 9) C (g + 32) wq_163 n287 (by decide) (by decide) (by decide) (by rw [hMC]; decide) (by rw [hMS]; decide) dX7_init_287 rfl ?_
  obtain ⟨M289, e289, h⟩ := bd h
  refine jpF_930 (pc' := 292) C hini (fun _ => ⟨rfl, rfl⟩) dX7_init_289 rfl e289 ?_
  refine J_aload_n (pc' := 293) C 0 dX7_init_292 rfl rfl rfl ?_
  refine J_sipush (pc' := 296) (v := (2000 : Int32)) C dX7_init_293 rfl (by decide) ?_
  obtain ⟨M296, e296, h⟩ := bd h
  obtain ⟨n296, rfl⟩ := alM_some e296
  refine J_newI (pc' := 298) (N := 2000) C (g + 33) wq_140 n296 (by decide) (by decide) (by decide) (by rw [hMC]; decide) (by rw [hMS]; decide) dX7_init_296 rfl ?_
  obtain ⟨M298, e298, h⟩ := bd h
  refine jpF_931 (pc' := 301) C hini (fun _ => ⟨rfl, rfl⟩) dX7_init_298 rfl e298 ?_
  refine J_aload_n (pc' := 302) C 0 dX7_init_301 rfl rfl rfl ?_
  refine J_sipush (pc' := 305) (v := (192 : Int32)) C dX7_init_302 rfl (by decide) ?_
  obtain ⟨M305, e305, h⟩ := bd h
  obtain ⟨n305, rfl⟩ := alM_some e305
  refine J_newJ (pc' := 307) (N := 192) C (g + 34) wq_163 n305 (by decide) (by decide) (by decide) (by rw [hMC]; decide) (by rw [hMS]; decide) dX7_init_305 rfl ?_
  obtain ⟨M307, e307, h⟩ := bd h
  refine jpF_933 (pc' := 310) C hini (fun _ => ⟨rfl, rfl⟩) dX7_init_307 rfl e307 ?_
  refine J_aload_n (pc' := 311) C 0 dX7_init_310 rfl rfl rfl ?_
  refine J_sipush (pc' := 314) (v := (192 : Int32)) C dX7_init_311 rfl (by decide) ?_
  obtain ⟨M314, e314, h⟩ := bd h
  obtain ⟨n314, rfl⟩ := alM_some e314
  refine J_newI (pc' := 316) (N := 192) C (g + 35) wq_140 n314 (by decide) (by decide) (by decide) (by rw [hMC]; decide) (by rw [hMS]; decide) dX7_init_314 rfl ?_
  obtain ⟨M316, e316, h⟩ := bd h
  refine jpF_934 (pc' := 319) C hini (fun _ => ⟨rfl, rfl⟩) dX7_init_316 rfl e316 ?_
  refine J_aload_n (pc' := 320) C 0 dX7_init_319 rfl rfl rfl ?_
  refine J_bipush (pc' := 322) (v := (8 : Int32)) C dX7_init_320 rfl (by decide) ?_
  obtain ⟨M322, e322, h⟩ := bd h
  obtain ⟨n322, rfl⟩ := alM_some e322
  refine J_newI (pc' := 324) (N := 8) C (g + 36) wq_140 n322 (by decide) (by decide) (by decide) (by rw [hMC]; decide) (by rw [hMS]; decide) dX7_init_322 rfl ?_
  obtain ⟨M324, e324, h⟩ := bd h
  refine jpF_935 (pc' := 327) C hini (fun _ => ⟨rfl, rfl⟩) dX7_init_324 rfl e324 ?_
  obtain rfl := rt1 h
  exact J_vret C dX7_init_327 (by rw [hMC]; decide) (by rw [hMS]; decide)
