def f_X0_init (N : Nat) (g : Nat) (a0 : Nat) (M : A_M) : Option A_M :=
  (alM M g (.inl (1, (24, .inr (.inl (fun _ => 0)))))).bind fun M7 =>
  (pV (upM M g (.inl (1, (24, .inr (.inl (fun _ => 0)))))) a0 0 0 (.ref g)).bind fun M9 =>
  (alM M9 (g + 1) (.inl (0, (24, .inl (fun _ => 0))))).bind fun M15 =>
  (pV (upM M9 (g + 1) (.inl (0, (24, .inl (fun _ => 0))))) a0 0 1 (.ref (g + 1))).bind fun M17 =>
  some M17
set_option maxHeartbeats 4000000 in
set_option maxRecDepth 100000 in
theorem ok_X0_init (N : Nat) {g : Nat} {a0 : Nat} {M : A_M} {M' : A_M} (h : f_X0_init N g a0 M = some M') : Runs yX0_init cX0_init 1 none 1 20 2 48 [.ref a0] M none M' := by
  refine Runs.intro (by decide) (Nat.le_of_ble_eq_true rfl) (fun X C hnm hMC hMS => ?_)
  have C : Cx X cX0_init RX0 1 none 1 20 := C
  have hini : (xmeth X).name = "<init>" := hnm
  show J X 1 0 [(0, .ref a0)] [] M 0 0 none M'
  unfold f_X0_init at h
  refine J_aload_n (pc' := 1) C 0 dX0_init_0 rfl rfl rfl ?_
  refine J_objInit (pc' := 4) C wq_169 wq_112 wq_113 dX0_init_1 rfl (Nat.le_of_ble_eq_true rfl) (by decide) (by decide) ?_
  refine J_aload_n (pc' := 5) C 0 dX0_init_4 rfl rfl rfl ?_
  refine J_bipush (pc' := 7) (v := (24 : Int32)) C dX0_init_5 rfl (by decide) ?_
  obtain ⟨M7, e7, h⟩ := bd h
  obtain ⟨n7, rfl⟩ := alM_some e7
  refine J_newJ (pc' := 9) (N := 24) C g wq_163 n7 (by decide) (by decide) (by decide) (by rw [hMC]; decide) (by rw [hMS]; decide) dX0_init_7 rfl ?_
  obtain ⟨M9, e9, h⟩ := bd h
  refine jpF_170 (pc' := 12) C hini (fun _ => ⟨rfl, rfl⟩) dX0_init_9 rfl e9 ?_
  refine J_aload_n (pc' := 13) C 0 dX0_init_12 rfl rfl rfl ?_
  refine J_bipush (pc' := 15) (v := (24 : Int32)) C dX0_init_13 rfl (by decide) ?_
  obtain ⟨M15, e15, h⟩ := bd h
  obtain ⟨n15, rfl⟩ := alM_some e15
  refine J_newI (pc' := 17) (N := 24) C (g + 1) wq_140 n15 (by decide) (by decide) (by decide) (by rw [hMC]; decide) (by rw [hMS]; decide) dX0_init_15 rfl ?_
  obtain ⟨M17, e17, h⟩ := bd h
  refine jpF_174 (pc' := 20) C hini (fun _ => ⟨rfl, rfl⟩) dX0_init_17 rfl e17 ?_
  obtain rfl := rt1 h
  exact J_vret C dX0_init_20 (by rw [hMC]; decide) (by rw [hMS]; decide)
def f_X3_init (N : Nat) (g : Nat) (a0 : Nat) (M : A_M) : Option A_M :=
  (alM M g (.inl (1, (97, .inr (.inl (fun _ => 0)))))).bind fun M7 =>
  (pV (upM M g (.inl (1, (97, .inr (.inl (fun _ => 0)))))) a0 3 0 (.ref g)).bind fun M9 =>
  (alM M9 (g + 1) (.inl (0, (97, .inl (fun _ => 0))))).bind fun M15 =>
  (pV (upM M9 (g + 1) (.inl (0, (97, .inl (fun _ => 0))))) a0 3 1 (.ref (g + 1))).bind fun M17 =>
  (alM M17 (g + 2) (.inl (0, (97, .inl (fun _ => 0))))).bind fun M23 =>
  (pV (upM M17 (g + 2) (.inl (0, (97, .inl (fun _ => 0))))) a0 3 2 (.ref (g + 2))).bind fun M25 =>
  some M25
set_option maxHeartbeats 4000000 in
set_option maxRecDepth 100000 in
theorem ok_X3_init (N : Nat) {g : Nat} {a0 : Nat} {M : A_M} {M' : A_M} (h : f_X3_init N g a0 M = some M') : Runs yX3_init cX3_init 1 none 1 20 3 291 [.ref a0] M none M' := by
  refine Runs.intro (by decide) (Nat.le_of_ble_eq_true rfl) (fun X C hnm hMC hMS => ?_)
  have C : Cx X cX3_init RX3 1 none 1 20 := C
  have hini : (xmeth X).name = "<init>" := hnm
  show J X 1 0 [(0, .ref a0)] [] M 0 0 none M'
  unfold f_X3_init at h
  refine J_aload_n (pc' := 1) C 0 dX3_init_0 rfl rfl rfl ?_
  refine J_objInit (pc' := 4) C wq_146 wq_112 wq_113 dX3_init_1 rfl (Nat.le_of_ble_eq_true rfl) (by decide) (by decide) ?_
  refine J_aload_n (pc' := 5) C 0 dX3_init_4 rfl rfl rfl ?_
  refine J_bipush (pc' := 7) (v := (97 : Int32)) C dX3_init_5 rfl (by decide) ?_
  obtain ⟨M7, e7, h⟩ := bd h
  obtain ⟨n7, rfl⟩ := alM_some e7
  refine J_newJ (pc' := 9) (N := 97) C g wq_163 n7 (by decide) (by decide) (by decide) (by rw [hMC]; decide) (by rw [hMS]; decide) dX3_init_7 rfl ?_
  obtain ⟨M9, e9, h⟩ := bd h
  refine jpF_147 (pc' := 12) C hini (fun _ => ⟨rfl, rfl⟩) dX3_init_9 rfl e9 ?_
  refine J_aload_n (pc' := 13) C 0 dX3_init_12 rfl rfl rfl ?_
  refine J_bipush (pc' := 15) (v := (97 : Int32)) C dX3_init_13 rfl (by decide) ?_
  obtain ⟨M15, e15, h⟩ := bd h
  obtain ⟨n15, rfl⟩ := alM_some e15
  refine J_newI (pc' := 17) (N := 97) C (g + 1) wq_140 n15 (by decide) (by decide) (by decide) (by rw [hMC]; decide) (by rw [hMS]; decide) dX3_init_15 rfl ?_
  obtain ⟨M17, e17, h⟩ := bd h
  refine jpF_148 (pc' := 20) C hini (fun _ => ⟨rfl, rfl⟩) dX3_init_17 rfl e17 ?_
  refine J_aload_n (pc' := 21) C 0 dX3_init_20 rfl rfl rfl ?_
  refine J_bipush (pc' := 23) (v := (97 : Int32)) C dX3_init_21 rfl (by decide) ?_
  obtain ⟨M23, e23, h⟩ := bd h
  obtain ⟨n23, rfl⟩ := alM_some e23
  refine J_newI (pc' := 25) (N := 97) C (g + 2) wq_140 n23 (by decide) (by decide) (by decide) (by rw [hMC]; decide) (by rw [hMS]; decide) dX3_init_23 rfl ?_
  obtain ⟨M25, e25, h⟩ := bd h
  refine jpF_149 (pc' := 28) C hini (fun _ => ⟨rfl, rfl⟩) dX3_init_25 rfl e25 ?_
  obtain rfl := rt1 h
  exact J_vret C dX3_init_28 (by rw [hMC]; decide) (by rw [hMS]; decide)
def f_X1_init (N : Nat) (g : Nat) (a0 : Nat) (M : A_M) : Option A_M :=
  (alM M g (.inl (1, (7200, .inr (.inl (fun _ => 0)))))).bind fun M8 =>
  (pV (upM M g (.inl (1, (7200, .inr (.inl (fun _ => 0)))))) a0 1 0 (.ref g)).bind fun M10 =>
  (alM M10 (g + 1) (.inl (0, (7200, .inl (fun _ => 0))))).bind fun M17 =>
  (pV (upM M10 (g + 1) (.inl (0, (7200, .inl (fun _ => 0))))) a0 1 1 (.ref (g + 1))).bind fun M19 =>
  (alM M19 (g + 2) (.inl (1, (25, .inr (.inl (fun _ => 0)))))).bind fun M25 =>
  (pV (upM M19 (g + 2) (.inl (1, (25, .inr (.inl (fun _ => 0)))))) a0 1 2 (.ref (g + 2))).bind fun M27 =>
  (alM M27 (g + 3) (.inl (0, (24, .inl (fun _ => 0))))).bind fun M33 =>
  (pV (upM M27 (g + 3) (.inl (0, (24, .inl (fun _ => 0))))) a0 1 3 (.ref (g + 3))).bind fun M35 =>
  (alM M35 (g + 4) (.inl (0, (4, .inl (fun _ => 0))))).bind fun M40 =>
  (pV (upM M35 (g + 4) (.inl (0, (4, .inl (fun _ => 0))))) a0 1 4 (.ref (g + 4))).bind fun M42 =>
  (alM M42 (g + 5) (.inl (0, (4, .inl (fun _ => 0))))).bind fun M47 =>
  (pV (upM M42 (g + 5) (.inl (0, (4, .inl (fun _ => 0))))) a0 1 5 (.ref (g + 5))).bind fun M49 =>
  (alM M49 (g + 6) (.inr (3, [.null, .null, .null, .int 0, .int 0]))).bind fun M53 =>
  (f_X3_init N (g + 7) (g + 6) (upM M49 (g + 6) (.inr (3, [.null, .null, .null, .int 0, .int 0])))).bind fun M57 =>
  (pV M57 a0 1 6 (.ref (g + 6))).bind fun M60 =>
  some M60
set_option maxHeartbeats 4000000 in
set_option maxRecDepth 100000 in
theorem ok_X1_init (N : Nat) {g : Nat} {a0 : Nat} {M : A_M} {M' : A_M} (h : f_X1_init N g a0 M = some M') : Runs yX1_init cX1_init 1 none 2 40 10 14753 [.ref a0] M none M' := by
  refine Runs.intro (by decide) (Nat.le_of_ble_eq_true rfl) (fun X C hnm hMC hMS => ?_)
  have C : Cx X cX1_init RX1 1 none 2 40 := C
  have hini : (xmeth X).name = "<init>" := hnm
  show J X 1 0 [(0, .ref a0)] [] M 0 0 none M'
  unfold f_X1_init at h
  refine J_aload_n (pc' := 1) C 0 dX1_init_0 rfl rfl rfl ?_
  refine J_objInit (pc' := 4) C wq_324 wq_112 wq_113 dX1_init_1 rfl (Nat.le_of_ble_eq_true rfl) (by decide) (by decide) ?_
  refine J_aload_n (pc' := 5) C 0 dX1_init_4 rfl rfl rfl ?_
  refine J_sipush (pc' := 8) (v := (7200 : Int32)) C dX1_init_5 rfl (by decide) ?_
  obtain ⟨M8, e8, h⟩ := bd h
  obtain ⟨n8, rfl⟩ := alM_some e8
  refine J_newJ (pc' := 10) (N := 7200) C g wq_163 n8 (by decide) (by decide) (by decide) (by rw [hMC]; decide) (by rw [hMS]; decide) dX1_init_8 rfl ?_
  obtain ⟨M10, e10, h⟩ := bd h
  refine jpF_327 (pc' := 13) C hini (fun _ => ⟨rfl, rfl⟩) dX1_init_10 rfl e10 ?_
  refine J_aload_n (pc' := 14) C 0 dX1_init_13 rfl rfl rfl ?_
  refine J_sipush (pc' := 17) (v := (7200 : Int32)) C dX1_init_14 rfl (by decide) ?_
  obtain ⟨M17, e17, h⟩ := bd h
  obtain ⟨n17, rfl⟩ := alM_some e17
  refine J_newI (pc' := 19) (N := 7200) C (g + 1) wq_140 n17 (by decide) (by decide) (by decide) (by rw [hMC]; decide) (by rw [hMS]; decide) dX1_init_17 rfl ?_
  obtain ⟨M19, e19, h⟩ := bd h
  refine jpF_328 (pc' := 22) C hini (fun _ => ⟨rfl, rfl⟩) dX1_init_19 rfl e19 ?_
  refine J_aload_n (pc' := 23) C 0 dX1_init_22 rfl rfl rfl ?_
  refine J_bipush (pc' := 25) (v := (25 : Int32)) C dX1_init_23 rfl (by decide) ?_
  obtain ⟨M25, e25, h⟩ := bd h
  obtain ⟨n25, rfl⟩ := alM_some e25
  refine J_newJ (pc' := 27) (N := 25) C (g + 2) wq_163 n25 (by decide) (by decide) (by decide) (by rw [hMC]; decide) (by rw [hMS]; decide) dX1_init_25 rfl ?_
  obtain ⟨M27, e27, h⟩ := bd h
  refine jpF_329 (pc' := 30) C hini (fun _ => ⟨rfl, rfl⟩) dX1_init_27 rfl e27 ?_
  refine J_aload_n (pc' := 31) C 0 dX1_init_30 rfl rfl rfl ?_
  refine J_bipush (pc' := 33) (v := (24 : Int32)) C dX1_init_31 rfl (by decide) ?_
  obtain ⟨M33, e33, h⟩ := bd h
  obtain ⟨n33, rfl⟩ := alM_some e33
  refine J_newI (pc' := 35) (N := 24) C (g + 3) wq_140 n33 (by decide) (by decide) (by decide) (by rw [hMC]; decide) (by rw [hMS]; decide) dX1_init_33 rfl ?_
  obtain ⟨M35, e35, h⟩ := bd h
  refine jpF_330 (pc' := 38) C hini (fun _ => ⟨rfl, rfl⟩) dX1_init_35 rfl e35 ?_
  refine J_aload_n (pc' := 39) C 0 dX1_init_38 rfl rfl rfl ?_
  refine J_iconst (pc' := 40) (v := (4 : Int32)) C dX1_init_39 rfl (by decide) ?_
  obtain ⟨M40, e40, h⟩ := bd h
  obtain ⟨n40, rfl⟩ := alM_some e40
  refine J_newI (pc' := 42) (N := 4) C (g + 4) wq_140 n40 (by decide) (by decide) (by decide) (by rw [hMC]; decide) (by rw [hMS]; decide) dX1_init_40 rfl ?_
  obtain ⟨M42, e42, h⟩ := bd h
  refine jpF_331 (pc' := 45) C hini (fun _ => ⟨rfl, rfl⟩) dX1_init_42 rfl e42 ?_
  refine J_aload_n (pc' := 46) C 0 dX1_init_45 rfl rfl rfl ?_
  refine J_iconst (pc' := 47) (v := (4 : Int32)) C dX1_init_46 rfl (by decide) ?_
  obtain ⟨M47, e47, h⟩ := bd h
  obtain ⟨n47, rfl⟩ := alM_some e47
  refine J_newI (pc' := 49) (N := 4) C (g + 5) wq_140 n47 (by decide) (by decide) (by decide) (by rw [hMC]; decide) (by rw [hMS]; decide) dX1_init_47 rfl ?_
  obtain ⟨M49, e49, h⟩ := bd h
  refine jpF_332 (pc' := 52) C hini (fun _ => ⟨rfl, rfl⟩) dX1_init_49 rfl e49 ?_
  refine J_aload_n (pc' := 53) C 0 dX1_init_52 rfl rfl rfl ?_
  obtain ⟨M53, e53, h⟩ := bd h
  obtain ⟨n53, rfl⟩ := alM_some e53
  refine J_new (pc' := 56) (fs := [.null, .null, .null, .int 0, .int 0]) C 3 (g + 6) rfl inA3 tyX3 tyX3_ok wq_325 wq_142 wq_93 (by decide +kernel) rfl n53 (by rw [hMC]; decide) (by rw [hMS]; decide) dX1_init_53 rfl ?_
  refine J_dup (pc' := 57) C dX1_init_56 rfl rfl ?_
  obtain ⟨M57, e57, h⟩ := bd h
  refine J_cIN (pc' := 60) (st := [.ref (g + 6), .ref a0]) (st2 := [.ref (g + 6), .ref a0]) (cs2 := 10) (sl2 := 14753) C (ok_X3_init N e57) mw_X3_init wn_326 rfl dX1_init_57 rfl rfl (Nat.le_of_ble_eq_true rfl) (by decide) (by decide) rfl rfl rfl (by rw [hMC]; decide) (by rw [hMS]; decide) ?_
  obtain ⟨M60, e60, h⟩ := bd h
  refine jpF_333 (pc' := 63) C hini (fun _ => ⟨rfl, rfl⟩) dX1_init_60 rfl e60 ?_
  obtain rfl := rt1 h
  exact J_vret C dX1_init_63 (by rw [hMC]; decide) (by rw [hMS]; decide)
def f_X2_init (N : Nat) (g : Nat) (a0 : Nat) (M : A_M) : Option A_M :=
  (alM M g (.inl (0, (200, .inl (fun _ => 0))))).bind fun M8 =>
  (pV (upM M g (.inl (0, (200, .inl (fun _ => 0))))) a0 2 0 (.ref g)).bind fun M10 =>
  (alM M10 (g + 1) (.inl (0, (200, .inl (fun _ => 0))))).bind fun M17 =>
  (pV (upM M10 (g + 1) (.inl (0, (200, .inl (fun _ => 0))))) a0 2 1 (.ref (g + 1))).bind fun M19 =>
  some M19
set_option maxHeartbeats 4000000 in
set_option maxRecDepth 100000 in
theorem ok_X2_init (N : Nat) {g : Nat} {a0 : Nat} {M : A_M} {M' : A_M} (h : f_X2_init N g a0 M = some M') : Runs yX2_init cX2_init 1 none 1 20 2 400 [.ref a0] M none M' := by
  refine Runs.intro (by decide) (Nat.le_of_ble_eq_true rfl) (fun X C hnm hMC hMS => ?_)
  have C : Cx X cX2_init RX2 1 none 1 20 := C
  have hini : (xmeth X).name = "<init>" := hnm
  show J X 1 0 [(0, .ref a0)] [] M 0 0 none M'
  unfold f_X2_init at h
  refine J_aload_n (pc' := 1) C 0 dX2_init_0 rfl rfl rfl ?_
  refine J_objInit (pc' := 4) C wq_119 wq_112 wq_113 dX2_init_1 rfl (Nat.le_of_ble_eq_true rfl) (by decide) (by decide) ?_
  refine J_aload_n (pc' := 5) C 0 dX2_init_4 rfl rfl rfl ?_
  refine J_sipush (pc' := 8) (v := (200 : Int32)) C dX2_init_5 rfl (by decide) ?_
  obtain ⟨M8, e8, h⟩ := bd h
  obtain ⟨n8, rfl⟩ := alM_some e8
  refine J_newI (pc' := 10) (N := 200) C g wq_140 n8 (by decide) (by decide) (by decide) (by rw [hMC]; decide) (by rw [hMS]; decide) dX2_init_8 rfl ?_
  obtain ⟨M10, e10, h⟩ := bd h
  refine jpF_120 (pc' := 13) C hini (fun _ => ⟨rfl, rfl⟩) dX2_init_10 rfl e10 ?_
  refine J_aload_n (pc' := 14) C 0 dX2_init_13 rfl rfl rfl ?_
  refine J_sipush (pc' := 17) (v := (200 : Int32)) C dX2_init_14 rfl (by decide) ?_
  obtain ⟨M17, e17, h⟩ := bd h
  obtain ⟨n17, rfl⟩ := alM_some e17
  refine J_newI (pc' := 19) (N := 200) C (g + 1) wq_140 n17 (by decide) (by decide) (by decide) (by rw [hMC]; decide) (by rw [hMS]; decide) dX2_init_17 rfl ?_
  obtain ⟨M19, e19, h⟩ := bd h
  refine jpF_122 (pc' := 22) C hini (fun _ => ⟨rfl, rfl⟩) dX2_init_19 rfl e19 ?_
  obtain rfl := rt1 h
  exact J_vret C dX2_init_22 (by rw [hMC]; decide) (by rw [hMS]; decide)
def f_X4_init (N : Nat) (g : Nat) (a0 : Nat) (M : A_M) : Option A_M :=
  (alM M g (.inl (1, (576, .inr (.inl (fun _ => 0)))))).bind fun M8 =>
  (pV (upM M g (.inl (1, (576, .inr (.inl (fun _ => 0)))))) a0 4 0 (.ref g)).bind fun M10 =>
  (alM M10 (g + 1) (.inl (1, (2880, .inr (.inl (fun _ => 0)))))).bind fun M17 =>
  (pV (upM M10 (g + 1) (.inl (1, (2880, .inr (.inl (fun _ => 0)))))) a0 4 1 (.ref (g + 1))).bind fun M19 =>
  (alM M19 (g + 2) (.inl (1, (25, .inr (.inl (fun _ => 0)))))).bind fun M25 =>
  (pV (upM M19 (g + 2) (.inl (1, (25, .inr (.inl (fun _ => 0)))))) a0 4 2 (.ref (g + 2))).bind fun M27 =>
  (alM M27 (g + 3) (.inl (0, (4, .inl (fun _ => 0))))).bind fun M32 =>
  (pV (upM M27 (g + 3) (.inl (0, (4, .inl (fun _ => 0))))) a0 4 3 (.ref (g + 3))).bind fun M34 =>
  some M34
set_option maxHeartbeats 4000000 in
set_option maxRecDepth 100000 in
theorem ok_X4_init (N : Nat) {g : Nat} {a0 : Nat} {M : A_M} {M' : A_M} (h : f_X4_init N g a0 M = some M') : Runs yX4_init cX4_init 1 none 1 20 4 3485 [.ref a0] M none M' := by
  refine Runs.intro (by decide) (Nat.le_of_ble_eq_true rfl) (fun X C hnm hMC hMS => ?_)
  have C : Cx X cX4_init RX4 1 none 1 20 := C
  have hini : (xmeth X).name = "<init>" := hnm
  show J X 1 0 [(0, .ref a0)] [] M 0 0 none M'
  unfold f_X4_init at h
  refine J_aload_n (pc' := 1) C 0 dX4_init_0 rfl rfl rfl ?_
  refine J_objInit (pc' := 4) C wq_459 wq_112 wq_113 dX4_init_1 rfl (Nat.le_of_ble_eq_true rfl) (by decide) (by decide) ?_
  refine J_aload_n (pc' := 5) C 0 dX4_init_4 rfl rfl rfl ?_
  refine J_sipush (pc' := 8) (v := (576 : Int32)) C dX4_init_5 rfl (by decide) ?_
  obtain ⟨M8, e8, h⟩ := bd h
  obtain ⟨n8, rfl⟩ := alM_some e8
  refine J_newJ (pc' := 10) (N := 576) C g wq_163 n8 (by decide) (by decide) (by decide) (by rw [hMC]; decide) (by rw [hMS]; decide) dX4_init_8 rfl ?_
  obtain ⟨M10, e10, h⟩ := bd h
  refine jpF_460 (pc' := 13) C hini (fun _ => ⟨rfl, rfl⟩) dX4_init_10 rfl e10 ?_
  refine J_aload_n (pc' := 14) C 0 dX4_init_13 rfl rfl rfl ?_
  refine J_sipush (pc' := 17) (v := (2880 : Int32)) C dX4_init_14 rfl (by decide) ?_
  obtain ⟨M17, e17, h⟩ := bd h
  obtain ⟨n17, rfl⟩ := alM_some e17
  refine J_newJ (pc' := 19) (N := 2880) C (g + 1) wq_163 n17 (by decide) (by decide) (by decide) (by rw [hMC]; decide) (by rw [hMS]; decide) dX4_init_17 rfl ?_
  obtain ⟨M19, e19, h⟩ := bd h
  refine jpF_461 (pc' := 22) C hini (fun _ => ⟨rfl, rfl⟩) dX4_init_19 rfl e19 ?_
  refine J_aload_n (pc' := 23) C 0 dX4_init_22 rfl rfl rfl ?_
  refine J_bipush (pc' := 25) (v := (25 : Int32)) C dX4_init_23 rfl (by decide) ?_
  obtain ⟨M25, e25, h⟩ := bd h
  obtain ⟨n25, rfl⟩ := alM_some e25
  refine J_newJ (pc' := 27) (N := 25) C (g + 2) wq_163 n25 (by decide) (by decide) (by decide) (by rw [hMC]; decide) (by rw [hMS]; decide) dX4_init_25 rfl ?_
  obtain ⟨M27, e27, h⟩ := bd h
  refine jpF_462 (pc' := 30) C hini (fun _ => ⟨rfl, rfl⟩) dX4_init_27 rfl e27 ?_
  refine J_aload_n (pc' := 31) C 0 dX4_init_30 rfl rfl rfl ?_
  refine J_iconst (pc' := 32) (v := (4 : Int32)) C dX4_init_31 rfl (by decide) ?_
  obtain ⟨M32, e32, h⟩ := bd h
  obtain ⟨n32, rfl⟩ := alM_some e32
  refine J_newI (pc' := 34) (N := 4) C (g + 3) wq_140 n32 (by decide) (by decide) (by decide) (by rw [hMC]; decide) (by rw [hMS]; decide) dX4_init_32 rfl ?_
  obtain ⟨M34, e34, h⟩ := bd h
  refine jpF_463 (pc' := 37) C hini (fun _ => ⟨rfl, rfl⟩) dX4_init_34 rfl e34 ?_
  obtain rfl := rt1 h
  exact J_vret C dX4_init_37 (by rw [hMC]; decide) (by rw [hMS]; decide)
def f_X5_init (N : Nat) (g : Nat) (a0 : Nat) (M : A_M) : Option A_M :=
  (alM M g (.inl (0, (2212, .inl (fun _ => 0))))).bind fun M8 =>
  (pV (upM M g (.inl (0, (2212, .inl (fun _ => 0))))) a0 5 0 (.ref g)).bind fun M10 =>
  (alM M10 (g + 1) (.inl (1, (18000, .inr (.inl (fun _ => 0)))))).bind fun M17 =>
  (pV (upM M10 (g + 1) (.inl (1, (18000, .inr (.inl (fun _ => 0)))))) a0 5 1 (.ref (g + 1))).bind fun M19 =>
  (alM M19 (g + 2) (.inl (0, (2000, .inl (fun _ => 0))))).bind fun M26 =>
  (pV (upM M19 (g + 2) (.inl (0, (2000, .inl (fun _ => 0))))) a0 5 2 (.ref (g + 2))).bind fun M28 =>
  (alM M28 (g + 3) (.inl (0, (2000, .inl (fun _ => 0))))).bind fun M35 =>
  (pV (upM M28 (g + 3) (.inl (0, (2000, .inl (fun _ => 0))))) a0 5 3 (.ref (g + 3))).bind fun M37 =>
  (alM M37 (g + 4) (.inl (0, (4096, .inl (fun _ => 0))))).bind fun M44 =>
  (pV (upM M37 (g + 4) (.inl (0, (4096, .inl (fun _ => 0))))) a0 5 4 (.ref (g + 4))).bind fun M46 =>
  (alM M46 (g + 5) (.inl (1, (9, .inr (.inl (fun _ => 0)))))).bind fun M52 =>
  (pV (upM M46 (g + 5) (.inl (1, (9, .inr (.inl (fun _ => 0)))))) a0 5 5 (.ref (g + 5))).bind fun M54 =>
  (pV M54 a0 5 9 (.int (-1 : Int32))).bind fun M59 =>
  some M59
set_option maxHeartbeats 4000000 in
set_option maxRecDepth 100000 in
theorem ok_X5_init (N : Nat) {g : Nat} {a0 : Nat} {M : A_M} {M' : A_M} (h : f_X5_init N g a0 M = some M') : Runs yX5_init cX5_init 1 none 1 20 6 28317 [.ref a0] M none M' := by
  refine Runs.intro (by decide) (Nat.le_of_ble_eq_true rfl) (fun X C hnm hMC hMS => ?_)
  have C : Cx X cX5_init RX5 1 none 1 20 := C
  have hini : (xmeth X).name = "<init>" := hnm
  show J X 1 0 [(0, .ref a0)] [] M 0 0 none M'
  unfold f_X5_init at h
  refine J_aload_n (pc' := 1) C 0 dX5_init_0 rfl rfl rfl ?_
  refine J_objInit (pc' := 4) C wq_738 wq_112 wq_113 dX5_init_1 rfl (Nat.le_of_ble_eq_true rfl) (by decide) (by decide) ?_
  refine J_aload_n (pc' := 5) C 0 dX5_init_4 rfl rfl rfl ?_
  refine J_sipush (pc' := 8) (v := (2212 : Int32)) C dX5_init_5 rfl (by decide) ?_
  obtain ⟨M8, e8, h⟩ := bd h
  obtain ⟨n8, rfl⟩ := alM_some e8
  refine J_newI (pc' := 10) (N := 2212) C g wq_140 n8 (by decide) (by decide) (by decide) (by rw [hMC]; decide) (by rw [hMS]; decide) dX5_init_8 rfl ?_
  obtain ⟨M10, e10, h⟩ := bd h
  refine jpF_739 (pc' := 13) C hini (fun _ => ⟨rfl, rfl⟩) dX5_init_10 rfl e10 ?_
  refine J_aload_n (pc' := 14) C 0 dX5_init_13 rfl rfl rfl ?_
  refine J_sipush (pc' := 17) (v := (18000 : Int32)) C dX5_init_14 rfl (by decide) ?_
  obtain ⟨M17, e17, h⟩ := bd h
  obtain ⟨n17, rfl⟩ := alM_some e17
  refine J_newJ (pc' := 19) (N := 18000) C (g + 1) wq_163 n17 (by decide) (by decide) (by decide) (by rw [hMC]; decide) (by rw [hMS]; decide) dX5_init_17 rfl ?_
  obtain ⟨M19, e19, h⟩ := bd h
  refine jpF_740 (pc' := 22) C hini (fun _ => ⟨rfl, rfl⟩) dX5_init_19 rfl e19 ?_
  refine J_aload_n (pc' := 23) C 0 dX5_init_22 rfl rfl rfl ?_
  refine J_sipush (pc' := 26) (v := (2000 : Int32)) C dX5_init_23 rfl (by decide) ?_
  obtain ⟨M26, e26, h⟩ := bd h
  obtain ⟨n26, rfl⟩ := alM_some e26
  refine J_newI (pc' := 28) (N := 2000) C (g + 2) wq_140 n26 (by decide) (by decide) (by decide) (by rw [hMC]; decide) (by rw [hMS]; decide) dX5_init_26 rfl ?_
  obtain ⟨M28, e28, h⟩ := bd h
  refine jpF_741 (pc' := 31) C hini (fun _ => ⟨rfl, rfl⟩) dX5_init_28 rfl e28 ?_
  refine J_aload_n (pc' := 32) C 0 dX5_init_31 rfl rfl rfl ?_
  refine J_sipush (pc' := 35) (v := (2000 : Int32)) C dX5_init_32 rfl (by decide) ?_
  obtain ⟨M35, e35, h⟩ := bd h
  obtain ⟨n35, rfl⟩ := alM_some e35
  refine J_newI (pc' := 37) (N := 2000) C (g + 3) wq_140 n35 (by decide) (by decide) (by decide) (by rw [hMC]; decide) (by rw [hMS]; decide) dX5_init_35 rfl ?_
  obtain ⟨M37, e37, h⟩ := bd h
  refine jpF_742 (pc' := 40) C hini (fun _ => ⟨rfl, rfl⟩) dX5_init_37 rfl e37 ?_
  refine J_aload_n (pc' := 41) C 0 dX5_init_40 rfl rfl rfl ?_
  refine J_sipush (pc' := 44) (v := (4096 : Int32)) C dX5_init_41 rfl (by decide) ?_
  obtain ⟨M44, e44, h⟩ := bd h
  obtain ⟨n44, rfl⟩ := alM_some e44
  refine J_newI (pc' := 46) (N := 4096) C (g + 4) wq_140 n44 (by decide) (by decide) (by decide) (by rw [hMC]; decide) (by rw [hMS]; decide) dX5_init_44 rfl ?_
  obtain ⟨M46, e46, h⟩ := bd h
  refine jpF_743 (pc' := 49) C hini (fun _ => ⟨rfl, rfl⟩) dX5_init_46 rfl e46 ?_
  refine J_aload_n (pc' := 50) C 0 dX5_init_49 rfl rfl rfl ?_
  refine J_bipush (pc' := 52) (v := (9 : Int32)) C dX5_init_50 rfl (by decide) ?_
  obtain ⟨M52, e52, h⟩ := bd h
  obtain ⟨n52, rfl⟩ := alM_some e52
  refine J_newJ (pc' := 54) (N := 9) C (g + 5) wq_163 n52 (by decide) (by decide) (by decide) (by rw [hMC]; decide) (by rw [hMS]; decide) dX5_init_52 rfl ?_
  obtain ⟨M54, e54, h⟩ := bd h
  refine jpF_744 (pc' := 57) C hini (fun _ => ⟨rfl, rfl⟩) dX5_init_54 rfl e54 ?_
  refine J_aload_n (pc' := 58) C 0 dX5_init_57 rfl rfl rfl ?_
  refine J_iconst (pc' := 59) (v := (-1 : Int32)) C dX5_init_58 rfl (by decide) ?_
  obtain ⟨M59, e59, h⟩ := bd h
  refine jp_748 (pc' := 62) C (fun _ => ⟨rfl, rfl⟩) dX5_init_59 rfl e59 ?_
  obtain rfl := rt1 h
  exact J_vret C dX5_init_62 (by rw [hMC]; decide) (by rw [hMS]; decide)
def f_X6_init (N : Nat) (g : Nat) (a0 : Nat) (M : A_M) : Option A_M :=
  (alM M g (.inl (0, (4, .inl (fun _ => 0))))).bind fun M6 =>
  (pV (upM M g (.inl (0, (4, .inl (fun _ => 0))))) a0 6 0 (.ref g)).bind fun M8 =>
  (alM M8 (g + 1) (.inl (0, (24, .inl (fun _ => 0))))).bind fun M14 =>
  (pV (upM M8 (g + 1) (.inl (0, (24, .inl (fun _ => 0))))) a0 6 1 (.ref (g + 1))).bind fun M16 =>
  (alM M16 (g + 2) (.inl (0, (24, .inl (fun _ => 0))))).bind fun M22 =>
  (pV (upM M16 (g + 2) (.inl (0, (24, .inl (fun _ => 0))))) a0 6 2 (.ref (g + 2))).bind fun M24 =>
  (alM M24 (g + 3) (.inl (0, (24, .inl (fun _ => 0))))).bind fun M30 =>
  (pV (upM M24 (g + 3) (.inl (0, (24, .inl (fun _ => 0))))) a0 6 3 (.ref (g + 3))).bind fun M32 =>
  (alM M32 (g + 4) (.inl (0, (24, .inl (fun _ => 0))))).bind fun M38 =>
  (pV (upM M32 (g + 4) (.inl (0, (24, .inl (fun _ => 0))))) a0 6 4 (.ref (g + 4))).bind fun M40 =>
  (alM M40 (g + 5) (.inr (2, [.null, .null, .int 0, .int 0, .int 0]))).bind fun M44 =>
  (f_X2_init N (g + 6) (g + 5) (upM M40 (g + 5) (.inr (2, [.null, .null, .int 0, .int 0, .int 0])))).bind fun M48 =>
  (pV M48 a0 6 5 (.ref (g + 5))).bind fun M51 =>
  (alM M51 (g + 8) (.inr (3, [.null, .null, .null, .int 0, .int 0]))).bind fun M55 =>
  (f_X3_init N (g + 9) (g + 8) (upM M51 (g + 8) (.inr (3, [.null, .null, .null, .int 0, .int 0])))).bind fun M59 =>
  (pV M59 a0 6 6 (.ref (g + 8))).bind fun M62 =>
  (alM M62 (g + 12) (.inr (0, [.null, .null, .int 0]))).bind fun M66 =>
  (f_X0_init N (g + 13) (g + 12) (upM M62 (g + 12) (.inr (0, [.null, .null, .int 0])))).bind fun M70 =>
  (pV M70 a0 6 7 (.ref (g + 12))).bind fun M73 =>
  (alM M73 (g + 15) (.inr (0, [.null, .null, .int 0]))).bind fun M77 =>
  (f_X0_init N (g + 16) (g + 15) (upM M73 (g + 15) (.inr (0, [.null, .null, .int 0])))).bind fun M81 =>
  (pV M81 a0 6 8 (.ref (g + 15))).bind fun M84 =>
  (alM M84 (g + 18) (.inl (3, (8, .inr (.inr (.inr (.inr (fun _ => none)))))))).bind fun M90 =>
  (pV (upM M84 (g + 18) (.inl (3, (8, .inr (.inr (.inr (.inr (fun _ => none)))))))) a0 6 9 (.ref (g + 18))).bind fun M93 =>
  (pV M93 a0 6 13 (.int (-6 : Int32))).bind fun M99 =>
  (pV M99 a0 6 14 (.int (-6 : Int32))).bind fun M105 =>
  (gR M105 a0 6 9).bind fun v117 =>
  (alM M105 (g + 19) (.inr (0, [.null, .null, .int 0]))).bind fun M121 =>
  (f_X0_init N (g + 20) (g + 19) (upM M105 (g + 19) (.inr (0, [.null, .null, .int 0])))).bind fun M125 =>
  (stA M125 v117 (0 : Int32) (g + 19)).bind fun M128 =>
  (gR M128 a0 6 9).bind fun v117 =>
  (alM M128 (g + 22) (.inr (0, [.null, .null, .int 0]))).bind fun M121 =>
  (f_X0_init N (g + 23) (g + 22) (upM M128 (g + 22) (.inr (0, [.null, .null, .int 0])))).bind fun M125 =>
  (stA M125 v117 (1 : Int32) (g + 22)).bind fun M128 =>
  (gR M128 a0 6 9).bind fun v117 =>
  (alM M128 (g + 25) (.inr (0, [.null, .null, .int 0]))).bind fun M121 =>
  (f_X0_init N (g + 26) (g + 25) (upM M128 (g + 25) (.inr (0, [.null, .null, .int 0])))).bind fun M125 =>
  (stA M125 v117 (2 : Int32) (g + 25)).bind fun M128 =>
  (gR M128 a0 6 9).bind fun v117 =>
  (alM M128 (g + 28) (.inr (0, [.null, .null, .int 0]))).bind fun M121 =>
  (f_X0_init N (g + 29) (g + 28) (upM M128 (g + 28) (.inr (0, [.null, .null, .int 0])))).bind fun M125 =>
  (stA M125 v117 (3 : Int32) (g + 28)).bind fun M128 =>
  (gR M128 a0 6 9).bind fun v117 =>
  (alM M128 (g + 31) (.inr (0, [.null, .null, .int 0]))).bind fun M121 =>
  (f_X0_init N (g + 32) (g + 31) (upM M128 (g + 31) (.inr (0, [.null, .null, .int 0])))).bind fun M125 =>
  (stA M125 v117 (4 : Int32) (g + 31)).bind fun M128 =>
  (gR M128 a0 6 9).bind fun v117 =>
  (alM M128 (g + 34) (.inr (0, [.null, .null, .int 0]))).bind fun M121 =>
  (f_X0_init N (g + 35) (g + 34) (upM M128 (g + 34) (.inr (0, [.null, .null, .int 0])))).bind fun M125 =>
  (stA M125 v117 (5 : Int32) (g + 34)).bind fun M128 =>
  (gR M128 a0 6 9).bind fun v117 =>
  (alM M128 (g + 37) (.inr (0, [.null, .null, .int 0]))).bind fun M121 =>
  (f_X0_init N (g + 38) (g + 37) (upM M128 (g + 37) (.inr (0, [.null, .null, .int 0])))).bind fun M125 =>
  (stA M125 v117 (6 : Int32) (g + 37)).bind fun M128 =>
  (gR M128 a0 6 9).bind fun v117 =>
  (alM M128 (g + 40) (.inr (0, [.null, .null, .int 0]))).bind fun M121 =>
  (f_X0_init N (g + 41) (g + 40) (upM M128 (g + 40) (.inr (0, [.null, .null, .int 0])))).bind fun M125 =>
  (stA M125 v117 (7 : Int32) (g + 40)).bind fun M128 =>
  some M128
set_option maxHeartbeats 4000000 in
set_option maxRecDepth 100000 in
theorem ok_X6_init (N : Nat) {g : Nat} {a0 : Nat} {M : A_M} {M' : A_M} (h : f_X6_init N g a0 M = some M') : Runs yX6_init cX6_init 2 none 2 40 43 1319 [.ref a0] M none M' := by
  refine Runs.intro (by decide) (Nat.le_of_ble_eq_true rfl) (fun X C hnm hMC hMS => ?_)
  have C : Cx X cX6_init RX6 2 none 2 40 := C
  have hini : (xmeth X).name = "<init>" := hnm
  show J X 2 0 [(0, .ref a0)] [] M 0 0 none M'
  unfold f_X6_init at h
  refine J_aload_n (pc' := 1) C 0 dX6_init_0 rfl rfl rfl ?_
  refine J_objInit (pc' := 4) C wq_111 wq_112 wq_113 dX6_init_1 rfl (Nat.le_of_ble_eq_true rfl) (by decide) (by decide) ?_
  refine J_aload_n (pc' := 5) C 0 dX6_init_4 rfl rfl rfl ?_
  refine J_iconst (pc' := 6) (v := (4 : Int32)) C dX6_init_5 rfl (by decide) ?_
  obtain ⟨M6, e6, h⟩ := bd h
  obtain ⟨n6, rfl⟩ := alM_some e6
  refine J_newI (pc' := 8) (N := 4) C g wq_140 n6 (by decide) (by decide) (by decide) (by rw [hMC]; decide) (by rw [hMS]; decide) dX6_init_6 rfl ?_
  obtain ⟨M8, e8, h⟩ := bd h
  refine jpF_190 (pc' := 11) C hini (fun _ => ⟨rfl, rfl⟩) dX6_init_8 rfl e8 ?_
  refine J_aload_n (pc' := 12) C 0 dX6_init_11 rfl rfl rfl ?_
  refine J_bipush (pc' := 14) (v := (24 : Int32)) C dX6_init_12 rfl (by decide) ?_
  obtain ⟨M14, e14, h⟩ := bd h
  obtain ⟨n14, rfl⟩ := alM_some e14
  refine J_newI (pc' := 16) (N := 24) C (g + 1) wq_140 n14 (by decide) (by decide) (by decide) (by rw [hMC]; decide) (by rw [hMS]; decide) dX6_init_14 rfl ?_
  obtain ⟨M16, e16, h⟩ := bd h
  refine jpF_191 (pc' := 19) C hini (fun _ => ⟨rfl, rfl⟩) dX6_init_16 rfl e16 ?_
  refine J_aload_n (pc' := 20) C 0 dX6_init_19 rfl rfl rfl ?_
  refine J_bipush (pc' := 22) (v := (24 : Int32)) C dX6_init_20 rfl (by decide) ?_
  obtain ⟨M22, e22, h⟩ := bd h
  obtain ⟨n22, rfl⟩ := alM_some e22
  refine J_newI (pc' := 24) (N := 24) C (g + 2) wq_140 n22 (by decide) (by decide) (by decide) (by rw [hMC]; decide) (by rw [hMS]; decide) dX6_init_22 rfl ?_
  obtain ⟨M24, e24, h⟩ := bd h
  refine jpF_192 (pc' := 27) C hini (fun _ => ⟨rfl, rfl⟩) dX6_init_24 rfl e24 ?_
  refine J_aload_n (pc' := 28) C 0 dX6_init_27 rfl rfl rfl ?_
  refine J_bipush (pc' := 30) (v := (24 : Int32)) C dX6_init_28 rfl (by decide) ?_
  obtain ⟨M30, e30, h⟩ := bd h
  obtain ⟨n30, rfl⟩ := alM_some e30
  refine J_newI (pc' := 32) (N := 24) C (g + 3) wq_140 n30 (by decide) (by decide) (by decide) (by rw [hMC]; decide) (by rw [hMS]; decide) dX6_init_30 rfl ?_
  obtain ⟨M32, e32, h⟩ := bd h
  refine jpF_193 (pc' := 35) C hini (fun _ => ⟨rfl, rfl⟩) dX6_init_32 rfl e32 ?_
  refine J_aload_n (pc' := 36) C 0 dX6_init_35 rfl rfl rfl ?_
  refine J_bipush (pc' := 38) (v := (24 : Int32)) C dX6_init_36 rfl (by decide) ?_
  obtain ⟨M38, e38, h⟩ := bd h
  obtain ⟨n38, rfl⟩ := alM_some e38
  refine J_newI (pc' := 40) (N := 24) C (g + 4) wq_140 n38 (by decide) (by decide) (by decide) (by rw [hMC]; decide) (by rw [hMS]; decide) dX6_init_38 rfl ?_
  obtain ⟨M40, e40, h⟩ := bd h
  refine jpF_194 (pc' := 43) C hini (fun _ => ⟨rfl, rfl⟩) dX6_init_40 rfl e40 ?_
  refine J_aload_n (pc' := 44) C 0 dX6_init_43 rfl rfl rfl ?_
  obtain ⟨M44, e44, h⟩ := bd h
  obtain ⟨n44, rfl⟩ := alM_some e44
  refine J_new (pc' := 47) (fs := [.null, .null, .int 0, .int 0, .int 0]) C 2 (g + 5) rfl inA2 tyX2 tyX2_ok wq_114 wq_115 wq_92 (by decide +kernel) rfl n44 (by rw [hMC]; decide) (by rw [hMS]; decide) dX6_init_44 rfl ?_
  refine J_dup (pc' := 48) C dX6_init_47 rfl rfl ?_
  obtain ⟨M48, e48, h⟩ := bd h
  refine J_cIN (pc' := 51) (st := [.ref (g + 5), .ref a0]) (st2 := [.ref (g + 5), .ref a0]) (cs2 := 8) (sl2 := 505) C (ok_X2_init N e48) mw_X2_init wn_116 rfl dX6_init_48 rfl rfl (Nat.le_of_ble_eq_true rfl) (by decide) (by decide) rfl rfl rfl (by rw [hMC]; decide) (by rw [hMS]; decide) ?_
  obtain ⟨M51, e51, h⟩ := bd h
  refine jpF_195 (pc' := 54) C hini (fun _ => ⟨rfl, rfl⟩) dX6_init_51 rfl e51 ?_
  refine J_aload_n (pc' := 55) C 0 dX6_init_54 rfl rfl rfl ?_
  obtain ⟨M55, e55, h⟩ := bd h
  obtain ⟨n55, rfl⟩ := alM_some e55
  refine J_new (pc' := 58) (fs := [.null, .null, .null, .int 0, .int 0]) C 3 (g + 8) rfl inA3 tyX3 tyX3_ok wq_141 wq_142 wq_93 (by decide +kernel) rfl n55 (by rw [hMC]; decide) (by rw [hMS]; decide) dX6_init_55 rfl ?_
  refine J_dup (pc' := 59) C dX6_init_58 rfl rfl ?_
  obtain ⟨M59, e59, h⟩ := bd h
  refine J_cIN (pc' := 62) (st := [.ref (g + 8), .ref a0]) (st2 := [.ref (g + 8), .ref a0]) (cs2 := 12) (sl2 := 801) C (ok_X3_init N e59) mw_X3_init wn_143 rfl dX6_init_59 rfl rfl (Nat.le_of_ble_eq_true rfl) (by decide) (by decide) rfl rfl rfl (by rw [hMC]; decide) (by rw [hMS]; decide) ?_
  obtain ⟨M62, e62, h⟩ := bd h
  refine jpF_196 (pc' := 65) C hini (fun _ => ⟨rfl, rfl⟩) dX6_init_62 rfl e62 ?_
  refine J_aload_n (pc' := 66) C 0 dX6_init_65 rfl rfl rfl ?_
  obtain ⟨M66, e66, h⟩ := bd h
  obtain ⟨n66, rfl⟩ := alM_some e66
  refine J_new (pc' := 69) (fs := [.null, .null, .int 0]) C 0 (g + 12) rfl inA0 tyX0 tyX0_ok wq_164 wq_165 wq_94 (by decide +kernel) rfl n66 (by rw [hMC]; decide) (by rw [hMS]; decide) dX6_init_66 rfl ?_
  refine J_dup (pc' := 70) C dX6_init_69 rfl rfl ?_
  obtain ⟨M70, e70, h⟩ := bd h
  refine J_cIN (pc' := 73) (st := [.ref (g + 12), .ref a0]) (st2 := [.ref (g + 12), .ref a0]) (cs2 := 15) (sl2 := 852) C (ok_X0_init N e70) mw_X0_init wn_166 rfl dX6_init_70 rfl rfl (Nat.le_of_ble_eq_true rfl) (by decide) (by decide) rfl rfl rfl (by rw [hMC]; decide) (by rw [hMS]; decide) ?_
  obtain ⟨M73, e73, h⟩ := bd h
  refine jpF_197 (pc' := 76) C hini (fun _ => ⟨rfl, rfl⟩) dX6_init_73 rfl e73 ?_
  refine J_aload_n (pc' := 77) C 0 dX6_init_76 rfl rfl rfl ?_
  obtain ⟨M77, e77, h⟩ := bd h
  obtain ⟨n77, rfl⟩ := alM_some e77
  refine J_new (pc' := 80) (fs := [.null, .null, .int 0]) C 0 (g + 15) rfl inA0 tyX0 tyX0_ok wq_164 wq_165 wq_94 (by decide +kernel) rfl n77 (by rw [hMC]; decide) (by rw [hMS]; decide) dX6_init_77 rfl ?_
  refine J_dup (pc' := 81) C dX6_init_80 rfl rfl ?_
  obtain ⟨M81, e81, h⟩ := bd h
  refine J_cIN (pc' := 84) (st := [.ref (g + 15), .ref a0]) (st2 := [.ref (g + 15), .ref a0]) (cs2 := 18) (sl2 := 903) C (ok_X0_init N e81) mw_X0_init wn_166 rfl dX6_init_81 rfl rfl (Nat.le_of_ble_eq_true rfl) (by decide) (by decide) rfl rfl rfl (by rw [hMC]; decide) (by rw [hMS]; decide) ?_
  obtain ⟨M84, e84, h⟩ := bd h
  refine jpF_198 (pc' := 87) C hini (fun _ => ⟨rfl, rfl⟩) dX6_init_84 rfl e84 ?_
  refine J_aload_n (pc' := 88) C 0 dX6_init_87 rfl rfl rfl ?_
  refine J_bipush (pc' := 90) (v := (8 : Int32)) C dX6_init_88 rfl (by decide) ?_
  obtain ⟨M90, e90, h⟩ := bd h
  obtain ⟨n90, rfl⟩ := alM_some e90
  refine J_anew (pc' := 93) (N := 8) C (g + 18) wq_164 n90 (by decide) (by decide) (by decide) (by rw [hMC]; decide) (by rw [hMS]; decide) dX6_init_90 rfl ?_
  obtain ⟨M93, e93, h⟩ := bd h
  refine jpF_199 (pc' := 96) C hini (fun _ => ⟨rfl, rfl⟩) dX6_init_93 rfl e93 ?_
  refine J_aload_n (pc' := 97) C 0 dX6_init_96 rfl rfl rfl ?_
  refine J_bipush (pc' := 99) (v := (-6 : Int32)) C dX6_init_97 rfl (by decide) ?_
  obtain ⟨M99, e99, h⟩ := bd h
  refine jp_203 (pc' := 102) C (fun _ => ⟨rfl, rfl⟩) dX6_init_99 rfl e99 ?_
  refine J_aload_n (pc' := 103) C 0 dX6_init_102 rfl rfl rfl ?_
  refine J_bipush (pc' := 105) (v := (-6 : Int32)) C dX6_init_103 rfl (by decide) ?_
  obtain ⟨M105, e105, h⟩ := bd h
  refine jp_204 (pc' := 108) C (fun _ => ⟨rfl, rfl⟩) dX6_init_105 rfl e105 ?_
  refine J_iconst (pc' := 109) (v := (0 : Int32)) C dX6_init_108 rfl (by decide) ?_
  refine J_istore_n (pc' := 110) (lv' := [(1, .int (0 : Int32)), (0, .ref a0)]) C dX6_init_109 rfl rfl (by decide) rfl ?_
  refine J_iload_n (pc' := 111) C 0 dX6_init_110 rfl rfl rfl ?_
  refine J_bipush (pc' := 113) (v := (8 : Int32)) C dX6_init_111 rfl (by decide) ?_
  refine J_icmp_ge (tgt := 135) (pc' := 116) C dX6_init_113 (by decide) rfl (fun c113 => absurd c113 (by decide)) (fun c113 => ?_)
  refine J_aload_n (pc' := 117) C 1 dX6_init_116 rfl rfl rfl ?_
  obtain ⟨v117, e117, h⟩ := bd h
  refine jg_199 (pc' := 120) C dX6_init_117 rfl (gR_some e117) ?_
  refine J_iload_n (pc' := 121) C 0 dX6_init_120 rfl rfl rfl ?_
  obtain ⟨M121, e121, h⟩ := bd h
  obtain ⟨n121, rfl⟩ := alM_some e121
  refine J_new (pc' := 124) (fs := [.null, .null, .int 0]) C 0 (g + 19) rfl inA0 tyX0 tyX0_ok wq_164 wq_165 wq_94 (by decide +kernel) rfl n121 (by rw [hMC]; decide) (by rw [hMS]; decide) dX6_init_121 rfl ?_
  refine J_dup (pc' := 125) C dX6_init_124 rfl rfl ?_
  obtain ⟨M125, e125, h⟩ := bd h
  refine J_cIN (pc' := 128) (st := [.ref (g + 19), .int (0 : Int32), .ref v117]) (st2 := [.ref (g + 19), .int (0 : Int32), .ref v117]) (cs2 := 22) (sl2 := 962) C (ok_X0_init N e125) mw_X0_init wn_166 rfl dX6_init_125 rfl rfl (Nat.le_of_ble_eq_true rfl) (by decide) (by decide) rfl rfl rfl (by rw [hMC]; decide) (by rw [hMS]; decide) ?_
  obtain ⟨M128, e128, h⟩ := bd h
  refine J_aast (pc' := 129) C dX6_init_128 rfl e128 ?_
  refine J_iinc (pc' := 132) (v := (1 : Int32)) (lv' := [(1, .int (1 : Int32)), (0, .ref a0)]) C 0 dX6_init_129 rfl rfl (by decide) (by decide) rfl ?_
  refine J_goto (tgt := 110) C dX6_init_132 (by decide) ?_
  refine J_iload_n (pc' := 111) C 0 dX6_init_110 rfl rfl rfl ?_
  refine J_bipush (pc' := 113) (v := (8 : Int32)) C dX6_init_111 rfl (by decide) ?_
  refine J_icmp_ge (tgt := 135) (pc' := 116) C dX6_init_113 (by decide) rfl (fun c113 => absurd c113 (by decide)) (fun c113 => ?_)
  refine J_aload_n (pc' := 117) C 1 dX6_init_116 rfl rfl rfl ?_
  obtain ⟨v117, e117, h⟩ := bd h
  refine jg_199 (pc' := 120) C dX6_init_117 rfl (gR_some e117) ?_
  refine J_iload_n (pc' := 121) C 0 dX6_init_120 rfl rfl rfl ?_
  obtain ⟨M121, e121, h⟩ := bd h
  obtain ⟨n121, rfl⟩ := alM_some e121
  refine J_new (pc' := 124) (fs := [.null, .null, .int 0]) C 0 (g + 22) rfl inA0 tyX0 tyX0_ok wq_164 wq_165 wq_94 (by decide +kernel) rfl n121 (by rw [hMC]; decide) (by rw [hMS]; decide) dX6_init_121 rfl ?_
  refine J_dup (pc' := 125) C dX6_init_124 rfl rfl ?_
  obtain ⟨M125, e125, h⟩ := bd h
  refine J_cIN (pc' := 128) (st := [.ref (g + 22), .int (1 : Int32), .ref v117]) (st2 := [.ref (g + 22), .int (1 : Int32), .ref v117]) (cs2 := 25) (sl2 := 1013) C (ok_X0_init N e125) mw_X0_init wn_166 rfl dX6_init_125 rfl rfl (Nat.le_of_ble_eq_true rfl) (by decide) (by decide) rfl rfl rfl (by rw [hMC]; decide) (by rw [hMS]; decide) ?_
  obtain ⟨M128, e128, h⟩ := bd h
  refine J_aast (pc' := 129) C dX6_init_128 rfl e128 ?_
  refine J_iinc (pc' := 132) (v := (2 : Int32)) (lv' := [(1, .int (2 : Int32)), (0, .ref a0)]) C 0 dX6_init_129 rfl rfl (by decide) (by decide) rfl ?_
  refine J_goto (tgt := 110) C dX6_init_132 (by decide) ?_
  refine J_iload_n (pc' := 111) C 0 dX6_init_110 rfl rfl rfl ?_
  refine J_bipush (pc' := 113) (v := (8 : Int32)) C dX6_init_111 rfl (by decide) ?_
  refine J_icmp_ge (tgt := 135) (pc' := 116) C dX6_init_113 (by decide) rfl (fun c113 => absurd c113 (by decide)) (fun c113 => ?_)
  refine J_aload_n (pc' := 117) C 1 dX6_init_116 rfl rfl rfl ?_
  obtain ⟨v117, e117, h⟩ := bd h
  refine jg_199 (pc' := 120) C dX6_init_117 rfl (gR_some e117) ?_
  refine J_iload_n (pc' := 121) C 0 dX6_init_120 rfl rfl rfl ?_
  obtain ⟨M121, e121, h⟩ := bd h
  obtain ⟨n121, rfl⟩ := alM_some e121
  refine J_new (pc' := 124) (fs := [.null, .null, .int 0]) C 0 (g + 25) rfl inA0 tyX0 tyX0_ok wq_164 wq_165 wq_94 (by decide +kernel) rfl n121 (by rw [hMC]; decide) (by rw [hMS]; decide) dX6_init_121 rfl ?_
  refine J_dup (pc' := 125) C dX6_init_124 rfl rfl ?_
  obtain ⟨M125, e125, h⟩ := bd h
  refine J_cIN (pc' := 128) (st := [.ref (g + 25), .int (2 : Int32), .ref v117]) (st2 := [.ref (g + 25), .int (2 : Int32), .ref v117]) (cs2 := 28) (sl2 := 1064) C (ok_X0_init N e125) mw_X0_init wn_166 rfl dX6_init_125 rfl rfl (Nat.le_of_ble_eq_true rfl) (by decide) (by decide) rfl rfl rfl (by rw [hMC]; decide) (by rw [hMS]; decide) ?_
  obtain ⟨M128, e128, h⟩ := bd h
  refine J_aast (pc' := 129) C dX6_init_128 rfl e128 ?_
  refine J_iinc (pc' := 132) (v := (3 : Int32)) (lv' := [(1, .int (3 : Int32)), (0, .ref a0)]) C 0 dX6_init_129 rfl rfl (by decide) (by decide) rfl ?_
  refine J_goto (tgt := 110) C dX6_init_132 (by decide) ?_
  refine J_iload_n (pc' := 111) C 0 dX6_init_110 rfl rfl rfl ?_
  refine J_bipush (pc' := 113) (v := (8 : Int32)) C dX6_init_111 rfl (by decide) ?_
  refine J_icmp_ge (tgt := 135) (pc' := 116) C dX6_init_113 (by decide) rfl (fun c113 => absurd c113 (by decide)) (fun c113 => ?_)
  refine J_aload_n (pc' := 117) C 1 dX6_init_116 rfl rfl rfl ?_
  obtain ⟨v117, e117, h⟩ := bd h
  refine jg_199 (pc' := 120) C dX6_init_117 rfl (gR_some e117) ?_
  refine J_iload_n (pc' := 121) C 0 dX6_init_120 rfl rfl rfl ?_
  obtain ⟨M121, e121, h⟩ := bd h
  obtain ⟨n121, rfl⟩ := alM_some e121
  refine J_new (pc' := 124) (fs := [.null, .null, .int 0]) C 0 (g + 28) rfl inA0 tyX0 tyX0_ok wq_164 wq_165 wq_94 (by decide +kernel) rfl n121 (by rw [hMC]; decide) (by rw [hMS]; decide) dX6_init_121 rfl ?_
  refine J_dup (pc' := 125) C dX6_init_124 rfl rfl ?_
  obtain ⟨M125, e125, h⟩ := bd h
  refine J_cIN (pc' := 128) (st := [.ref (g + 28), .int (3 : Int32), .ref v117]) (st2 := [.ref (g + 28), .int (3 : Int32), .ref v117]) (cs2 := 31) (sl2 := 1115) C (ok_X0_init N e125) mw_X0_init wn_166 rfl dX6_init_125 rfl rfl (Nat.le_of_ble_eq_true rfl) (by decide) (by decide) rfl rfl rfl (by rw [hMC]; decide) (by rw [hMS]; decide) ?_
  obtain ⟨M128, e128, h⟩ := bd h
  refine J_aast (pc' := 129) C dX6_init_128 rfl e128 ?_
  refine J_iinc (pc' := 132) (v := (4 : Int32)) (lv' := [(1, .int (4 : Int32)), (0, .ref a0)]) C 0 dX6_init_129 rfl rfl (by decide) (by decide) rfl ?_
  refine J_goto (tgt := 110) C dX6_init_132 (by decide) ?_
  refine J_iload_n (pc' := 111) C 0 dX6_init_110 rfl rfl rfl ?_
  refine J_bipush (pc' := 113) (v := (8 : Int32)) C dX6_init_111 rfl (by decide) ?_
  refine J_icmp_ge (tgt := 135) (pc' := 116) C dX6_init_113 (by decide) rfl (fun c113 => absurd c113 (by decide)) (fun c113 => ?_)
  refine J_aload_n (pc' := 117) C 1 dX6_init_116 rfl rfl rfl ?_
  obtain ⟨v117, e117, h⟩ := bd h
  refine jg_199 (pc' := 120) C dX6_init_117 rfl (gR_some e117) ?_
  refine J_iload_n (pc' := 121) C 0 dX6_init_120 rfl rfl rfl ?_
  obtain ⟨M121, e121, h⟩ := bd h
  obtain ⟨n121, rfl⟩ := alM_some e121
  refine J_new (pc' := 124) (fs := [.null, .null, .int 0]) C 0 (g + 31) rfl inA0 tyX0 tyX0_ok wq_164 wq_165 wq_94 (by decide +kernel) rfl n121 (by rw [hMC]; decide) (by rw [hMS]; decide) dX6_init_121 rfl ?_
  refine J_dup (pc' := 125) C dX6_init_124 rfl rfl ?_
  obtain ⟨M125, e125, h⟩ := bd h
  refine J_cIN (pc' := 128) (st := [.ref (g + 31), .int (4 : Int32), .ref v117]) (st2 := [.ref (g + 31), .int (4 : Int32), .ref v117]) (cs2 := 34) (sl2 := 1166) C (ok_X0_init N e125) mw_X0_init wn_166 rfl dX6_init_125 rfl rfl (Nat.le_of_ble_eq_true rfl) (by decide) (by decide) rfl rfl rfl (by rw [hMC]; decide) (by rw [hMS]; decide) ?_
  obtain ⟨M128, e128, h⟩ := bd h
  refine J_aast (pc' := 129) C dX6_init_128 rfl e128 ?_
  refine J_iinc (pc' := 132) (v := (5 : Int32)) (lv' := [(1, .int (5 : Int32)), (0, .ref a0)]) C 0 dX6_init_129 rfl rfl (by decide) (by decide) rfl ?_
  refine J_goto (tgt := 110) C dX6_init_132 (by decide) ?_
  refine J_iload_n (pc' := 111) C 0 dX6_init_110 rfl rfl rfl ?_
  refine J_bipush (pc' := 113) (v := (8 : Int32)) C dX6_init_111 rfl (by decide) ?_
  refine J_icmp_ge (tgt := 135) (pc' := 116) C dX6_init_113 (by decide) rfl (fun c113 => absurd c113 (by decide)) (fun c113 => ?_)
  refine J_aload_n (pc' := 117) C 1 dX6_init_116 rfl rfl rfl ?_
  obtain ⟨v117, e117, h⟩ := bd h
  refine jg_199 (pc' := 120) C dX6_init_117 rfl (gR_some e117) ?_
  refine J_iload_n (pc' := 121) C 0 dX6_init_120 rfl rfl rfl ?_
  obtain ⟨M121, e121, h⟩ := bd h
  obtain ⟨n121, rfl⟩ := alM_some e121
  refine J_new (pc' := 124) (fs := [.null, .null, .int 0]) C 0 (g + 34) rfl inA0 tyX0 tyX0_ok wq_164 wq_165 wq_94 (by decide +kernel) rfl n121 (by rw [hMC]; decide) (by rw [hMS]; decide) dX6_init_121 rfl ?_
  refine J_dup (pc' := 125) C dX6_init_124 rfl rfl ?_
  obtain ⟨M125, e125, h⟩ := bd h
  refine J_cIN (pc' := 128) (st := [.ref (g + 34), .int (5 : Int32), .ref v117]) (st2 := [.ref (g + 34), .int (5 : Int32), .ref v117]) (cs2 := 37) (sl2 := 1217) C (ok_X0_init N e125) mw_X0_init wn_166 rfl dX6_init_125 rfl rfl (Nat.le_of_ble_eq_true rfl) (by decide) (by decide) rfl rfl rfl (by rw [hMC]; decide) (by rw [hMS]; decide) ?_
  obtain ⟨M128, e128, h⟩ := bd h
  refine J_aast (pc' := 129) C dX6_init_128 rfl e128 ?_
  refine J_iinc (pc' := 132) (v := (6 : Int32)) (lv' := [(1, .int (6 : Int32)), (0, .ref a0)]) C 0 dX6_init_129 rfl rfl (by decide) (by decide) rfl ?_
  refine J_goto (tgt := 110) C dX6_init_132 (by decide) ?_
  refine J_iload_n (pc' := 111) C 0 dX6_init_110 rfl rfl rfl ?_
  refine J_bipush (pc' := 113) (v := (8 : Int32)) C dX6_init_111 rfl (by decide) ?_
  refine J_icmp_ge (tgt := 135) (pc' := 116) C dX6_init_113 (by decide) rfl (fun c113 => absurd c113 (by decide)) (fun c113 => ?_)
  refine J_aload_n (pc' := 117) C 1 dX6_init_116 rfl rfl rfl ?_
  obtain ⟨v117, e117, h⟩ := bd h
  refine jg_199 (pc' := 120) C dX6_init_117 rfl (gR_some e117) ?_
  refine J_iload_n (pc' := 121) C 0 dX6_init_120 rfl rfl rfl ?_
  obtain ⟨M121, e121, h⟩ := bd h
  obtain ⟨n121, rfl⟩ := alM_some e121
  refine J_new (pc' := 124) (fs := [.null, .null, .int 0]) C 0 (g + 37) rfl inA0 tyX0 tyX0_ok wq_164 wq_165 wq_94 (by decide +kernel) rfl n121 (by rw [hMC]; decide) (by rw [hMS]; decide) dX6_init_121 rfl ?_
  refine J_dup (pc' := 125) C dX6_init_124 rfl rfl ?_
  obtain ⟨M125, e125, h⟩ := bd h
  refine J_cIN (pc' := 128) (st := [.ref (g + 37), .int (6 : Int32), .ref v117]) (st2 := [.ref (g + 37), .int (6 : Int32), .ref v117]) (cs2 := 40) (sl2 := 1268) C (ok_X0_init N e125) mw_X0_init wn_166 rfl dX6_init_125 rfl rfl (Nat.le_of_ble_eq_true rfl) (by decide) (by decide) rfl rfl rfl (by rw [hMC]; decide) (by rw [hMS]; decide) ?_
  obtain ⟨M128, e128, h⟩ := bd h
  refine J_aast (pc' := 129) C dX6_init_128 rfl e128 ?_
  refine J_iinc (pc' := 132) (v := (7 : Int32)) (lv' := [(1, .int (7 : Int32)), (0, .ref a0)]) C 0 dX6_init_129 rfl rfl (by decide) (by decide) rfl ?_
  refine J_goto (tgt := 110) C dX6_init_132 (by decide) ?_
  refine J_iload_n (pc' := 111) C 0 dX6_init_110 rfl rfl rfl ?_
  refine J_bipush (pc' := 113) (v := (8 : Int32)) C dX6_init_111 rfl (by decide) ?_
  refine J_icmp_ge (tgt := 135) (pc' := 116) C dX6_init_113 (by decide) rfl (fun c113 => absurd c113 (by decide)) (fun c113 => ?_)
  refine J_aload_n (pc' := 117) C 1 dX6_init_116 rfl rfl rfl ?_
  obtain ⟨v117, e117, h⟩ := bd h
  refine jg_199 (pc' := 120) C dX6_init_117 rfl (gR_some e117) ?_
  refine J_iload_n (pc' := 121) C 0 dX6_init_120 rfl rfl rfl ?_
  obtain ⟨M121, e121, h⟩ := bd h
  obtain ⟨n121, rfl⟩ := alM_some e121
  refine J_new (pc' := 124) (fs := [.null, .null, .int 0]) C 0 (g + 40) rfl inA0 tyX0 tyX0_ok wq_164 wq_165 wq_94 (by decide +kernel) rfl n121 (by rw [hMC]; decide) (by rw [hMS]; decide) dX6_init_121 rfl ?_
  refine J_dup (pc' := 125) C dX6_init_124 rfl rfl ?_
  obtain ⟨M125, e125, h⟩ := bd h
  refine J_cIN (pc' := 128) (st := [.ref (g + 40), .int (7 : Int32), .ref v117]) (st2 := [.ref (g + 40), .int (7 : Int32), .ref v117]) (cs2 := 43) (sl2 := 1319) C (ok_X0_init N e125) mw_X0_init wn_166 rfl dX6_init_125 rfl rfl (Nat.le_of_ble_eq_true rfl) (by decide) (by decide) rfl rfl rfl (by rw [hMC]; decide) (by rw [hMS]; decide) ?_
  obtain ⟨M128, e128, h⟩ := bd h
  refine J_aast (pc' := 129) C dX6_init_128 rfl e128 ?_
  refine J_iinc (pc' := 132) (v := (8 : Int32)) (lv' := [(1, .int (8 : Int32)), (0, .ref a0)]) C 0 dX6_init_129 rfl rfl (by decide) (by decide) rfl ?_
  refine J_goto (tgt := 110) C dX6_init_132 (by decide) ?_
  refine J_iload_n (pc' := 111) C 0 dX6_init_110 rfl rfl rfl ?_
  refine J_bipush (pc' := 113) (v := (8 : Int32)) C dX6_init_111 rfl (by decide) ?_
  refine J_icmp_ge (tgt := 135) (pc' := 116) C dX6_init_113 (by decide) rfl (fun c113 => ?_) (fun c113 => absurd c113 (by decide))
  obtain rfl := rt1 h
  exact J_vret C dX6_init_135 (by rw [hMC]; decide) (by rw [hMS]; decide)
def f_X6_makeByLevels_A_K18 (N : Nat) (x0 : Nat) (x1 : Nat) (x2 : Nat) (x3 : Int32) (M : A_M) : Option (Int32 × A_M) :=
  (gR M x0 6 15).bind fun v19 =>
  (gR M x0 6 0).bind fun v23 =>
  (gI M x0 6 10).bind fun v27 =>
  (chk M x0 6).bind fun _ =>
  bnd2 (f_X6_pricesUnlike N x0 M) fun v31 M31 =>
  (chk M31 v19 1).bind fun _ =>
  (f_X1_prepare N v19 v23 v27 v31 x3 M31).bind fun M35 =>
  (gR M35 x0 6 15).bind fun v39 =>
  (gI M35 x0 6 11).bind fun v45 =>
  (chk M35 v39 1).bind fun _ =>
  bnd2 (f_X1_make N v39 x1 x2 v45 M35) fun v48 M48 =>
  (zb v48).bind fun _ =>
  some (v48, M48)
set_option maxHeartbeats 4000000 in
set_option maxRecDepth 100000 in
theorem ok_X6_makeByLevels_A_K18 {X : JX} (C : Cx X cX6_makeByLevels RX6 4 (some .boolean) 100 2999) (N : Nat) : ∀ (x0 : Nat) (x1 : Nat) (x2 : Nat) (x3 : Int32) (M : A_M) (r : Int32) (M' : A_M), f_X6_makeByLevels_A_K18 N x0 x1 x2 x3 M = some (r, M') → J X 4 18 [(0, .ref x0), (1, .ref x1), (2, .ref x2), (3, .int x3)] [] M 0 0 (some (.int r)) M' := by
  intro x0 x1 x2 x3 M r M' h
  unfold f_X6_makeByLevels_A_K18 at h
  refine J_aload_n (pc' := 19) C 0 dX6_makeByLevels_18 rfl rfl rfl ?_
  obtain ⟨v19, e19, h⟩ := bd h
  refine jg_205 (pc' := 22) C dX6_makeByLevels_19 rfl (gR_some e19) ?_
  refine J_aload_n (pc' := 23) C 0 dX6_makeByLevels_22 rfl rfl rfl ?_
  obtain ⟨v23, e23, h⟩ := bd h
  refine jg_190 (pc' := 26) C dX6_makeByLevels_23 rfl (gR_some e23) ?_
  refine J_aload_n (pc' := 27) C 0 dX6_makeByLevels_26 rfl rfl rfl ?_
  obtain ⟨v27, e27, h⟩ := bd h
  refine jg_200 (pc' := 30) C dX6_makeByLevels_27 rfl (gI_some e27) ?_
  refine J_aload_n (pc' := 31) C 0 dX6_makeByLevels_30 rfl rfl rfl ?_
  obtain ⟨_, q31, h⟩ := bd h
  obtain ⟨v31, M31, e31, h⟩ := bd2 h
  refine J_cV (pc' := 34) (st := [.int v27, .ref v23, .ref v19]) (st2 := [.int v31, .int v27, .ref v23, .ref v19]) (cs2 := 0) (sl2 := 0) C 6 rfl rfl q31 (ok_X6_pricesUnlike N e31) mw_X6_pricesUnlike wq_303 rfl dX6_makeByLevels_31 rfl rfl (Nat.le_of_ble_eq_true rfl) (by decide) (by decide) rfl rfl rfl (Nat.zero_le _) (Nat.zero_le _) ?_
  refine J_iload_n (pc' := 35) C 3 dX6_makeByLevels_34 rfl rfl rfl ?_
  obtain ⟨_, q35, h⟩ := bd h
  obtain ⟨M35, e35, h⟩ := bd h
  refine J_cV (pc' := 38) (st := []) (st2 := []) (cs2 := 0) (sl2 := 0) C 1 rfl rfl q35 (ok_X1_prepare N e35) mw_X1_prepare wq_361 rfl dX6_makeByLevels_35 rfl rfl (Nat.le_of_ble_eq_true rfl) (by decide) (by decide) rfl rfl rfl (Nat.zero_le _) (Nat.zero_le _) ?_
  refine J_aload_n (pc' := 39) C 0 dX6_makeByLevels_38 rfl rfl rfl ?_
  obtain ⟨v39, e39, h⟩ := bd h
  refine jg_205 (pc' := 42) C dX6_makeByLevels_39 rfl (gR_some e39) ?_
  refine J_aload_n (pc' := 43) C 1 dX6_makeByLevels_42 rfl rfl rfl ?_
  refine J_aload_n (pc' := 44) C 2 dX6_makeByLevels_43 rfl rfl rfl ?_
  refine J_aload_n (pc' := 45) C 0 dX6_makeByLevels_44 rfl rfl rfl ?_
  obtain ⟨v45, e45, h⟩ := bd h
  refine jg_201 (pc' := 48) C dX6_makeByLevels_45 rfl (gI_some e45) ?_
  obtain ⟨_, q48, h⟩ := bd h
  obtain ⟨v48, M48, e48, h⟩ := bd2 h
  refine J_cV (pc' := 51) (st := []) (st2 := [.int v48]) (cs2 := 0) (sl2 := 0) C 1 rfl rfl q48 (ok_X1_make N e48) mw_X1_make wq_369 rfl dX6_makeByLevels_48 rfl rfl (Nat.le_of_ble_eq_true rfl) (by decide) (by decide) rfl rfl rfl (Nat.zero_le _) (Nat.zero_le _) ?_
  obtain ⟨_, z51, h⟩ := bd h
  obtain ⟨rfl, rfl⟩ := rt2 h
  exact J_zret C (zb_n (zb_some z51)) dX6_makeByLevels_51 (Nat.zero_le _) (Nat.zero_le _)
def f_X6_makeByLevels_A (N : Nat) (a0 : Nat) (a1 : Nat) (a2 : Nat) (a3 : Int32) (M : A_M) : Option (Int32 × A_M) :=
  (gR M a0 6 15).bind fun v1 =>
  f_X6_makeByLevels_A_K18 N a0 a1 a2 a3 M
set_option maxHeartbeats 4000000 in
set_option maxRecDepth 100000 in
theorem ok_X6_makeByLevels_A (N : Nat) {a0 : Nat} {a1 : Nat} {a2 : Nat} {a3 : Int32} {M : A_M} {r : Int32} {M' : A_M} (h : f_X6_makeByLevels_A N a0 a1 a2 a3 M = some (r, M')) : Runs yX6_makeByLevels cX6_makeByLevels 4 (some .boolean) 100 2999 0 0 [.ref a0, .ref a1, .ref a2, .int a3] M (some (.int r)) M' := by
  refine Runs.intro (by decide) (Nat.le_of_ble_eq_true rfl) (fun X C hnm hMC hMS => ?_)
  have C : Cx X cX6_makeByLevels RX6 4 (some .boolean) 100 2999 := C
  show J X 4 0 [(0, .ref a0), (1, .ref a1), (2, .ref a2), (3, .int a3)] [] M 0 0 (some (.int r)) M'
  unfold f_X6_makeByLevels_A at h
  refine J_aload_n (pc' := 1) C 0 dX6_makeByLevels_0 rfl rfl rfl ?_
  obtain ⟨v1, e1, h⟩ := bd h
  refine jg_205 (pc' := 4) C dX6_makeByLevels_1 rfl (gR_some e1) ?_
  refine J_ifnonnull (tgt := 18) C dX6_makeByLevels_4 (by decide) ?_
  refine J_sub (lv' := [(0, .ref a0), (1, .ref a1), (2, .ref a2), (3, .int a3)]) [0, 1, 2, 3] rfl ?_
  exact ok_X6_makeByLevels_A_K18 C N _ _ _ _ _ _ _ h
def f_X6_makeByLevels_B_K18 (N : Nat) (x0 : Nat) (x1 : Nat) (x2 : Nat) (x3 : Int32) (M : A_M) : Option (Int32 × A_M) :=
  (gR M x0 6 15).bind fun v19 =>
  (gR M x0 6 0).bind fun v23 =>
  (gI M x0 6 10).bind fun v27 =>
  (chk M x0 6).bind fun _ =>
  bnd2 (f_X6_pricesUnlike N x0 M) fun v31 M31 =>
  (chk M31 v19 1).bind fun _ =>
  (f_X1_prepare N v19 v23 v27 v31 x3 M31).bind fun M35 =>
  (gR M35 x0 6 15).bind fun v39 =>
  (gI M35 x0 6 11).bind fun v45 =>
  (chk M35 v39 1).bind fun _ =>
  bnd2 (f_X1_make N v39 x1 x2 v45 M35) fun v48 M48 =>
  (zb v48).bind fun _ =>
  some (v48, M48)
set_option maxHeartbeats 4000000 in
set_option maxRecDepth 100000 in
theorem ok_X6_makeByLevels_B_K18 {X : JX} (C : Cx X cX6_makeByLevels RX6 4 (some .boolean) 100 2999) (hMC : xMC X = 11) (hMS : xMS X = 14764) (N : Nat) : ∀ (x0 : Nat) (x1 : Nat) (x2 : Nat) (x3 : Int32) (M : A_M) (r : Int32) (M' : A_M), f_X6_makeByLevels_B_K18 N x0 x1 x2 x3 M = some (r, M') → J X 4 18 [(0, .ref x0), (1, .ref x1), (2, .ref x2), (3, .int x3)] [] M 11 14764 (some (.int r)) M' := by
  intro x0 x1 x2 x3 M r M' h
  unfold f_X6_makeByLevels_B_K18 at h
  refine J_aload_n (pc' := 19) C 0 dX6_makeByLevels_18 rfl rfl rfl ?_
  obtain ⟨v19, e19, h⟩ := bd h
  refine jg_205 (pc' := 22) C dX6_makeByLevels_19 rfl (gR_some e19) ?_
  refine J_aload_n (pc' := 23) C 0 dX6_makeByLevels_22 rfl rfl rfl ?_
  obtain ⟨v23, e23, h⟩ := bd h
  refine jg_190 (pc' := 26) C dX6_makeByLevels_23 rfl (gR_some e23) ?_
  refine J_aload_n (pc' := 27) C 0 dX6_makeByLevels_26 rfl rfl rfl ?_
  obtain ⟨v27, e27, h⟩ := bd h
  refine jg_200 (pc' := 30) C dX6_makeByLevels_27 rfl (gI_some e27) ?_
  refine J_aload_n (pc' := 31) C 0 dX6_makeByLevels_30 rfl rfl rfl ?_
  obtain ⟨_, q31, h⟩ := bd h
  obtain ⟨v31, M31, e31, h⟩ := bd2 h
  refine J_cV (pc' := 34) (st := [.int v27, .ref v23, .ref v19]) (st2 := [.int v31, .int v27, .ref v23, .ref v19]) (cs2 := 11) (sl2 := 14764) C 6 rfl rfl q31 (ok_X6_pricesUnlike N e31) mw_X6_pricesUnlike wq_303 rfl dX6_makeByLevels_31 rfl rfl (Nat.le_of_ble_eq_true rfl) (by decide) (by decide) rfl rfl rfl (by rw [hMC]; decide) (by rw [hMS]; decide) ?_
  refine J_iload_n (pc' := 35) C 3 dX6_makeByLevels_34 rfl rfl rfl ?_
  obtain ⟨_, q35, h⟩ := bd h
  obtain ⟨M35, e35, h⟩ := bd h
  refine J_cV (pc' := 38) (st := []) (st2 := []) (cs2 := 11) (sl2 := 14764) C 1 rfl rfl q35 (ok_X1_prepare N e35) mw_X1_prepare wq_361 rfl dX6_makeByLevels_35 rfl rfl (Nat.le_of_ble_eq_true rfl) (by decide) (by decide) rfl rfl rfl (by rw [hMC]; decide) (by rw [hMS]; decide) ?_
  refine J_aload_n (pc' := 39) C 0 dX6_makeByLevels_38 rfl rfl rfl ?_
  obtain ⟨v39, e39, h⟩ := bd h
  refine jg_205 (pc' := 42) C dX6_makeByLevels_39 rfl (gR_some e39) ?_
  refine J_aload_n (pc' := 43) C 1 dX6_makeByLevels_42 rfl rfl rfl ?_
  refine J_aload_n (pc' := 44) C 2 dX6_makeByLevels_43 rfl rfl rfl ?_
  refine J_aload_n (pc' := 45) C 0 dX6_makeByLevels_44 rfl rfl rfl ?_
  obtain ⟨v45, e45, h⟩ := bd h
  refine jg_201 (pc' := 48) C dX6_makeByLevels_45 rfl (gI_some e45) ?_
  obtain ⟨_, q48, h⟩ := bd h
  obtain ⟨v48, M48, e48, h⟩ := bd2 h
  refine J_cV (pc' := 51) (st := []) (st2 := [.int v48]) (cs2 := 11) (sl2 := 14764) C 1 rfl rfl q48 (ok_X1_make N e48) mw_X1_make wq_369 rfl dX6_makeByLevels_48 rfl rfl (Nat.le_of_ble_eq_true rfl) (by decide) (by decide) rfl rfl rfl (by rw [hMC]; decide) (by rw [hMS]; decide) ?_
  obtain ⟨_, z51, h⟩ := bd h
  obtain ⟨rfl, rfl⟩ := rt2 h
  exact J_zret C (zb_n (zb_some z51)) dX6_makeByLevels_51 (by rw [hMC]; decide) (by rw [hMS]; decide)
def f_X6_makeByLevels_B (N : Nat) (a0 : Nat) (a1 : Nat) (a2 : Nat) (a3 : Int32) (M : A_M) : Option (Int32 × A_M) :=
  (gZ M a0 6 15).bind fun _ =>
  (alM M 82 (.inr (1, [.null, .null, .null, .null, .null, .null, .null, .int 0, .int 0, .int 0, .int 0]))).bind fun M8 =>
  (f_X1_init N 83 82 (upM M 82 (.inr (1, [.null, .null, .null, .null, .null, .null, .null, .int 0, .int 0, .int 0, .int 0])))).bind fun M12 =>
  (pV M12 a0 6 15 (.ref 82)).bind fun M15 =>
  f_X6_makeByLevels_B_K18 N a0 a1 a2 a3 M15
set_option maxHeartbeats 4000000 in
set_option maxRecDepth 100000 in
theorem ok_X6_makeByLevels_B (N : Nat) {a0 : Nat} {a1 : Nat} {a2 : Nat} {a3 : Int32} {M : A_M} {r : Int32} {M' : A_M} (h : f_X6_makeByLevels_B N a0 a1 a2 a3 M = some (r, M')) : Runs yX6_makeByLevels cX6_makeByLevels 4 (some .boolean) 100 2999 11 14764 [.ref a0, .ref a1, .ref a2, .int a3] M (some (.int r)) M' := by
  refine Runs.intro (by decide) (Nat.le_of_ble_eq_true rfl) (fun X C hnm hMC hMS => ?_)
  have C : Cx X cX6_makeByLevels RX6 4 (some .boolean) 100 2999 := C
  show J X 4 0 [(0, .ref a0), (1, .ref a1), (2, .ref a2), (3, .int a3)] [] M 0 0 (some (.int r)) M'
  unfold f_X6_makeByLevels_B at h
  refine J_aload_n (pc' := 1) C 0 dX6_makeByLevels_0 rfl rfl rfl ?_
  obtain ⟨_, e1, h⟩ := bd h
  refine jg_205 (pc' := 4) C dX6_makeByLevels_1 rfl (gZ_some e1) ?_
  refine J_ifnonnullN (pc' := 7) C dX6_makeByLevels_4 rfl ?_
  refine J_aload_n (pc' := 8) C 0 dX6_makeByLevels_7 rfl rfl rfl ?_
  obtain ⟨M8, e8, h⟩ := bd h
  obtain ⟨n8, rfl⟩ := alM_some e8
  refine J_new (pc' := 11) (fs := [.null, .null, .null, .null, .null, .null, .null, .int 0, .int 0, .int 0, .int 0]) C 1 82 rfl inA1 tyX1 tyX1_ok wq_319 wq_320 wq_98 (by decide +kernel) rfl n8 (by rw [hMC]; decide) (by rw [hMS]; decide) dX6_makeByLevels_8 rfl ?_
  refine J_dup (pc' := 12) C dX6_makeByLevels_11 rfl rfl ?_
  obtain ⟨M12, e12, h⟩ := bd h
  refine J_cIN (pc' := 15) (st := [.ref 82, .ref a0]) (st2 := [.ref 82, .ref a0]) (cs2 := 11) (sl2 := 14764) C (ok_X1_init N e12) mw_X1_init wn_321 rfl dX6_makeByLevels_12 rfl rfl (Nat.le_of_ble_eq_true rfl) (by decide) (by decide) rfl rfl rfl (by rw [hMC]; decide) (by rw [hMS]; decide) ?_
  obtain ⟨M15, e15, h⟩ := bd h
  refine jp_205 (pc' := 18) C (fun _ => ⟨rfl, rfl⟩) dX6_makeByLevels_15 rfl e15 ?_
  refine J_sub (lv' := [(0, .ref a0), (1, .ref a1), (2, .ref a2), (3, .int a3)]) [0, 1, 2, 3] rfl ?_
  exact ok_X6_makeByLevels_B_K18 C hMC hMS N _ _ _ _ _ _ _ h
def f_X6_orders_A (N : Nat) (a0 : Nat) (M : A_M) : Option (Nat × A_M) :=
  (gR M a0 6 16).bind fun v1 =>
  (gR M a0 6 16).bind fun v19 =>
  some (v19, M)
set_option maxHeartbeats 4000000 in
set_option maxRecDepth 100000 in
theorem ok_X6_orders_A (N : Nat) {a0 : Nat} {M : A_M} {r : Nat} {M' : A_M} (h : f_X6_orders_A N a0 M = some (r, M')) : Runs yX6_orders cX6_orders 1 (some (.object "WordChest$OrderMaker")) 2 40 0 0 [.ref a0] M (some (.ref r)) M' := by
  refine Runs.intro (by decide) (Nat.le_of_ble_eq_true rfl) (fun X C hnm hMC hMS => ?_)
  have C : Cx X cX6_orders RX6 1 (some (.object "WordChest$OrderMaker")) 2 40 := C
  show J X 1 0 [(0, .ref a0)] [] M 0 0 (some (.ref r)) M'
  unfold f_X6_orders_A at h
  refine J_aload_n (pc' := 1) C 0 dX6_orders_0 rfl rfl rfl ?_
  obtain ⟨v1, e1, h⟩ := bd h
  refine jg_206 (pc' := 4) C dX6_orders_1 rfl (gR_some e1) ?_
  refine J_ifnonnull (tgt := 18) C dX6_orders_4 (by decide) ?_
  refine J_aload_n (pc' := 19) C 0 dX6_orders_18 rfl rfl rfl ?_
  obtain ⟨v19, e19, h⟩ := bd h
  refine jg_206 (pc' := 22) C dX6_orders_19 rfl (gR_some e19) ?_
  obtain ⟨rfl, rfl⟩ := rt2 h
  exact J_aret C rfl (Or.inl ⟨_, rfl⟩) dX6_orders_22 (Nat.zero_le _) (Nat.zero_le _)
def f_X6_orders_B (N : Nat) (a0 : Nat) (M : A_M) : Option (Nat × A_M) :=
  (gZ M a0 6 16).bind fun _ =>
  (alM M 93 (.inr (4, [.null, .null, .null, .null, .int 0]))).bind fun M8 =>
  (f_X4_init N 94 93 (upM M 93 (.inr (4, [.null, .null, .null, .null, .int 0])))).bind fun M12 =>
  (pV M12 a0 6 16 (.ref 93)).bind fun M15 =>
  (gR M15 a0 6 16).bind fun v19 =>
  some (v19, M15)
set_option maxHeartbeats 4000000 in
set_option maxRecDepth 100000 in
theorem ok_X6_orders_B (N : Nat) {a0 : Nat} {M : A_M} {r : Nat} {M' : A_M} (h : f_X6_orders_B N a0 M = some (r, M')) : Runs yX6_orders cX6_orders 1 (some (.object "WordChest$OrderMaker")) 2 40 5 3490 [.ref a0] M (some (.ref r)) M' := by
  refine Runs.intro (by decide) (Nat.le_of_ble_eq_true rfl) (fun X C hnm hMC hMS => ?_)
  have C : Cx X cX6_orders RX6 1 (some (.object "WordChest$OrderMaker")) 2 40 := C
  show J X 1 0 [(0, .ref a0)] [] M 0 0 (some (.ref r)) M'
  unfold f_X6_orders_B at h
  refine J_aload_n (pc' := 1) C 0 dX6_orders_0 rfl rfl rfl ?_
  obtain ⟨_, e1, h⟩ := bd h
  refine jg_206 (pc' := 4) C dX6_orders_1 rfl (gZ_some e1) ?_
  refine J_ifnonnullN (pc' := 7) C dX6_orders_4 rfl ?_
  refine J_aload_n (pc' := 8) C 0 dX6_orders_7 rfl rfl rfl ?_
  obtain ⟨M8, e8, h⟩ := bd h
  obtain ⟨n8, rfl⟩ := alM_some e8
  refine J_new (pc' := 11) (fs := [.null, .null, .null, .null, .int 0]) C 4 93 rfl inA4 tyX4 tyX4_ok wq_454 wq_455 wq_99 (by decide +kernel) rfl n8 (by rw [hMC]; decide) (by rw [hMS]; decide) dX6_orders_8 rfl ?_
  refine J_dup (pc' := 12) C dX6_orders_11 rfl rfl ?_
  obtain ⟨M12, e12, h⟩ := bd h
  refine J_cIN (pc' := 15) (st := [.ref 93, .ref a0]) (st2 := [.ref 93, .ref a0]) (cs2 := 5) (sl2 := 3490) C (ok_X4_init N e12) mw_X4_init wn_456 rfl dX6_orders_12 rfl rfl (Nat.le_of_ble_eq_true rfl) (by decide) (by decide) rfl rfl rfl (by rw [hMC]; decide) (by rw [hMS]; decide) ?_
  obtain ⟨M15, e15, h⟩ := bd h
  refine jp_206 (pc' := 18) C (fun _ => ⟨rfl, rfl⟩) dX6_orders_15 rfl e15 ?_
  refine J_aload_n (pc' := 19) C 0 dX6_orders_18 rfl rfl rfl ?_
  obtain ⟨v19, e19, h⟩ := bd h
  refine jg_206 (pc' := 22) C dX6_orders_19 rfl (gR_some e19) ?_
  obtain ⟨rfl, rfl⟩ := rt2 h
  exact J_aret C rfl (Or.inl ⟨_, rfl⟩) dX6_orders_22 (by rw [hMC]; decide) (by rw [hMS]; decide)
def f_X6_build_AA_K53 (N : Nat) (x0 : Nat) (s0 : Int32) (s1 : Nat) (s2 : Nat) (s3 : Nat) (M : A_M) : Option (Int64 × A_M) :=
  (chk M s3 6).bind fun _ =>
  bnd2 (f_X6_makeByLevels_A N s3 s2 s1 s0 M) fun v53 M53 =>
  if v53 = 0 then
  (some ((-5 : Int64), M53))
  else
  ((gR M53 x0 6 8).bind fun v109 =>
  (chk M53 x0 6).bind fun _ =>
  (f_X6_handOver N x0 v109 M53).bind fun M112 =>
  (chk M112 x0 6).bind fun _ =>
  bnd2 (f_X6_costAtHand N x0 M112) fun v116 M116 =>
  some (v116, M116))
set_option maxHeartbeats 4000000 in
set_option maxRecDepth 100000 in
theorem ok_X6_build_AA_K53 {X : JX} (C : Cx X cX6_build RX6 3 (some .long) 146 3562) (N : Nat) : ∀ (x0 : Nat) (s0 : Int32) (s1 : Nat) (s2 : Nat) (s3 : Nat) (M : A_M) (r : Int64) (M' : A_M), f_X6_build_AA_K53 N x0 s0 s1 s2 s3 M = some (r, M') → J X 3 53 [(0, .ref x0)] [.int s0, .ref s1, .ref s2, .ref s3] M 0 0 (some (.long r)) M' := by
  intro x0 s0 s1 s2 s3 M r M' h
  unfold f_X6_build_AA_K53 at h
  obtain ⟨_, q53, h⟩ := bd h
  obtain ⟨v53, M53, e53, h⟩ := bd2 h
  refine J_cV (pc' := 56) (st := []) (st2 := [.int v53]) (cs2 := 0) (sl2 := 0) C 6 rfl rfl q53 (ok_X6_makeByLevels_A N e53) mw_X6_makeByLevels wq_315 rfl dX6_build_53 rfl rfl (Nat.le_of_ble_eq_true rfl) (by decide) (by decide) rfl rfl rfl (Nat.zero_le _) (Nat.zero_le _) ?_
  refine J_if_ne (tgt := 107) (pc' := 59) C dX6_build_56 (by decide) rfl (fun c56 => ?_) (fun c56 => ?_)
  · rw [if_neg c56] at h
    refine J_aload_n (pc' := 108) C 0 dX6_build_107 rfl rfl rfl ?_
    refine J_aload_n (pc' := 109) C 0 dX6_build_108 rfl rfl rfl ?_
    obtain ⟨v109, e109, h⟩ := bd h
    refine jg_198 (pc' := 112) C dX6_build_109 rfl (gR_some e109) ?_
    obtain ⟨_, q112, h⟩ := bd h
    obtain ⟨M112, e112, h⟩ := bd h
    refine J_cV (pc' := 115) (st := []) (st2 := []) (cs2 := 0) (sl2 := 0) C 6 rfl rfl q112 (ok_X6_handOver N e112) mw_X6_handOver wq_538 rfl dX6_build_112 rfl rfl (Nat.le_of_ble_eq_true rfl) (by decide) (by decide) rfl rfl rfl (Nat.zero_le _) (Nat.zero_le _) ?_
    refine J_aload_n (pc' := 116) C 0 dX6_build_115 rfl rfl rfl ?_
    obtain ⟨_, q116, h⟩ := bd h
    obtain ⟨v116, M116, e116, h⟩ := bd2 h
    refine J_cV (pc' := 119) (st := []) (st2 := [.long v116]) (cs2 := 0) (sl2 := 0) C 6 rfl rfl q116 (ok_X6_costAtHand N e116) mw_X6_costAtHand wq_547 rfl dX6_build_116 rfl rfl (Nat.le_of_ble_eq_true rfl) (by decide) (by decide) rfl rfl rfl (Nat.zero_le _) (Nat.zero_le _) ?_
    obtain ⟨rfl, rfl⟩ := rt2 h
    exact J_lret C dX6_build_119 (Nat.zero_le _) (Nat.zero_le _)
  · rw [if_pos c56] at h
    refine J_ldc2 (pc' := 62) C dX6_build_59 rfl wq_449 ?_
    obtain ⟨rfl, rfl⟩ := rt2 h
    exact J_lret C dX6_build_62 (Nat.zero_le _) (Nat.zero_le _)
def f_X6_build_AA_K34 (N : Nat) (x0 : Nat) (x1 : Int32) (x2 : Int32) (M : A_M) : Option (Int64 × A_M) :=
  (gR M x0 6 8).bind fun v36 =>
  (gR M x0 6 1).bind fun v40 =>
  if x1 = (1 : Int32) then
  (f_X6_build_AA_K53 N x0 x2 v40 v36 x0 M)
  else
  (f_X6_build_AA_K53 N x0 (0 : Int32) v40 v36 x0 M)
set_option maxHeartbeats 4000000 in
set_option maxRecDepth 100000 in
theorem ok_X6_build_AA_K34 {X : JX} (C : Cx X cX6_build RX6 3 (some .long) 146 3562) (N : Nat) : ∀ (x0 : Nat) (x1 : Int32) (x2 : Int32) (M : A_M) (r : Int64) (M' : A_M), f_X6_build_AA_K34 N x0 x1 x2 M = some (r, M') → J X 3 34 [(0, .ref x0), (1, .int x1), (2, .int x2)] [] M 0 0 (some (.long r)) M' := by
  intro x0 x1 x2 M r M' h
  unfold f_X6_build_AA_K34 at h
  refine J_aload_n (pc' := 35) C 0 dX6_build_34 rfl rfl rfl ?_
  refine J_aload_n (pc' := 36) C 0 dX6_build_35 rfl rfl rfl ?_
  obtain ⟨v36, e36, h⟩ := bd h
  refine jg_198 (pc' := 39) C dX6_build_36 rfl (gR_some e36) ?_
  refine J_aload_n (pc' := 40) C 0 dX6_build_39 rfl rfl rfl ?_
  obtain ⟨v40, e40, h⟩ := bd h
  refine jg_191 (pc' := 43) C dX6_build_40 rfl (gR_some e40) ?_
  refine J_iload_n (pc' := 44) C 1 dX6_build_43 rfl rfl rfl ?_
  refine J_iconst (pc' := 45) (v := (1 : Int32)) C dX6_build_44 rfl (by decide) ?_
  refine J_icmp_ne (tgt := 52) (pc' := 48) C dX6_build_45 (by decide) rfl (fun c45 => ?_) (fun c45 => ?_)
  · rw [if_neg c45] at h
    refine J_iconst (pc' := 53) (v := (0 : Int32)) C dX6_build_52 rfl (by decide) ?_
    refine J_sub (lv' := [(0, .ref x0)]) [0] rfl ?_
    exact ok_X6_build_AA_K53 C N _ _ _ _ _ _ _ _ h
  · rw [if_pos c45] at h
    refine J_iload_n (pc' := 49) C 2 dX6_build_48 rfl rfl rfl ?_
    refine J_goto (tgt := 53) C dX6_build_49 (by decide) ?_
    refine J_sub (lv' := [(0, .ref x0)]) [0] rfl ?_
    exact ok_X6_build_AA_K53 C N _ _ _ _ _ _ _ _ h
def f_X6_build_AA (N : Nat) (a0 : Nat) (a1 : Int32) (a2 : Int32) (M : A_M) : Option (Int64 × A_M) :=
  (chk M a0 6).bind fun _ =>
  bnd2 (f_X6_isKind N a0 a1 a2 M) fun v3 M3 =>
  if v3 = 0 then
  (some ((-2 : Int64), M3))
  else
  ((chk M3 a0 6).bind fun _ =>
  bnd2 (f_X6_canBuild N a0 a1 M3) fun v15 M15 =>
  if v15 = 0 then
  (some ((-3 : Int64), M15))
  else
  (if a1 = 0 then
  (f_X6_build_AA_K34 N a0 a1 a2 M15)
  else
  (if a1 = (1 : Int32) then
  (f_X6_build_AA_K34 N a0 a1 a2 M15)
  else
  (if a1 = (2 : Int32) then
  ((chk M15 a0 6).bind fun _ =>
  bnd2 (f_X6_orders_A N a0 M15) fun v69 M69 =>
  (gR M69 a0 6 8).bind fun v73 =>
  (gR M69 a0 6 1).bind fun v77 =>
  (gI M69 a0 6 11).bind fun v81 =>
  (gR M69 a0 6 0).bind fun v85 =>
  (gI M69 a0 6 10).bind fun v89 =>
  (chk M69 v69 4).bind fun _ =>
  (f_X4_make N v69 v73 v77 v81 v85 v89 M69).bind fun M92 =>
  (gR M92 a0 6 8).bind fun v109 =>
  (chk M92 a0 6).bind fun _ =>
  (f_X6_handOver N a0 v109 M92).bind fun M112 =>
  (chk M112 a0 6).bind fun _ =>
  bnd2 (f_X6_costAtHand N a0 M112) fun v116 M116 =>
  some (v116, M116))
  else
  ((gR M15 a0 6 8).bind fun v100 =>
  (chk M15 a0 6).bind fun _ =>
  (f_X6_makeEnded N a0 v100 a2 M15).bind fun M104 =>
  (gR M104 a0 6 8).bind fun v109 =>
  (chk M104 a0 6).bind fun _ =>
  (f_X6_handOver N a0 v109 M104).bind fun M112 =>
  (chk M112 a0 6).bind fun _ =>
  bnd2 (f_X6_costAtHand N a0 M112) fun v116 M116 =>
  some (v116, M116))))))
set_option maxHeartbeats 4000000 in
set_option maxRecDepth 100000 in
theorem ok_X6_build_AA (N : Nat) {a0 : Nat} {a1 : Int32} {a2 : Int32} {M : A_M} {r : Int64} {M' : A_M} (h : f_X6_build_AA N a0 a1 a2 M = some (r, M')) : Runs yX6_build cX6_build 3 (some .long) 146 3562 0 0 [.ref a0, .int a1, .int a2] M (some (.long r)) M' := by
  refine Runs.intro (by decide) (Nat.le_of_ble_eq_true rfl) (fun X C hnm hMC hMS => ?_)
  have C : Cx X cX6_build RX6 3 (some .long) 146 3562 := C
  show J X 3 0 [(0, .ref a0), (1, .int a1), (2, .int a2)] [] M 0 0 (some (.long r)) M'
  unfold f_X6_build_AA at h
  refine J_aload_n (pc' := 1) C 0 dX6_build_0 rfl rfl rfl ?_
  refine J_iload_n (pc' := 2) C 1 dX6_build_1 rfl rfl rfl ?_
  refine J_iload_n (pc' := 3) C 2 dX6_build_2 rfl rfl rfl ?_
  obtain ⟨_, q3, h⟩ := bd h
  obtain ⟨v3, M3, e3, h⟩ := bd2 h
  refine J_cV (pc' := 6) (st := []) (st2 := [.int v3]) (cs2 := 0) (sl2 := 0) C 6 rfl rfl q3 (ok_X6_isKind N e3) mw_X6_isKind wq_286 rfl dX6_build_3 rfl rfl (Nat.le_of_ble_eq_true rfl) (by decide) (by decide) rfl rfl rfl (Nat.zero_le _) (Nat.zero_le _) ?_
  refine J_if_ne (tgt := 13) (pc' := 9) C dX6_build_6 (by decide) rfl (fun c6 => ?_) (fun c6 => ?_)
  · rw [if_neg c6] at h
    refine J_aload_n (pc' := 14) C 0 dX6_build_13 rfl rfl rfl ?_
    refine J_iload_n (pc' := 15) C 1 dX6_build_14 rfl rfl rfl ?_
    obtain ⟨_, q15, h⟩ := bd h
    obtain ⟨v15, M15, e15, h⟩ := bd2 h
    refine J_cV (pc' := 18) (st := []) (st2 := [.int v15]) (cs2 := 0) (sl2 := 0) C 6 rfl rfl q15 (ok_X6_canBuild N e15) mw_X6_canBuild wq_295 rfl dX6_build_15 rfl rfl (Nat.le_of_ble_eq_true rfl) (by decide) (by decide) rfl rfl rfl (Nat.zero_le _) (Nat.zero_le _) ?_
    refine J_if_ne (tgt := 25) (pc' := 21) C dX6_build_18 (by decide) rfl (fun c18 => ?_) (fun c18 => ?_)
    · rw [if_neg c18] at h
      refine J_iload_n (pc' := 26) C 1 dX6_build_25 rfl rfl rfl ?_
      refine J_if_eq (tgt := 34) (pc' := 29) C dX6_build_26 (by decide) rfl (fun c26 => ?_) (fun c26 => ?_)
      · rw [if_pos c26] at h
        refine J_sub (lv' := [(0, .ref a0), (1, .int a1), (2, .int a2)]) [0, 1, 2] rfl ?_
        exact ok_X6_build_AA_K34 C N _ _ _ _ _ _ h
      · rw [if_neg c26] at h
        refine J_iload_n (pc' := 30) C 1 dX6_build_29 rfl rfl rfl ?_
        refine J_iconst (pc' := 31) (v := (1 : Int32)) C dX6_build_30 rfl (by decide) ?_
        refine J_icmp_ne (tgt := 63) (pc' := 34) C dX6_build_31 (by decide) rfl (fun c31 => ?_) (fun c31 => ?_)
        · rw [if_neg c31] at h
          refine J_iload_n (pc' := 64) C 1 dX6_build_63 rfl rfl rfl ?_
          refine J_iconst (pc' := 65) (v := (2 : Int32)) C dX6_build_64 rfl (by decide) ?_
          refine J_icmp_ne (tgt := 98) (pc' := 68) C dX6_build_65 (by decide) rfl (fun c65 => ?_) (fun c65 => ?_)
          · rw [if_neg c65] at h
            refine J_aload_n (pc' := 99) C 0 dX6_build_98 rfl rfl rfl ?_
            refine J_aload_n (pc' := 100) C 0 dX6_build_99 rfl rfl rfl ?_
            obtain ⟨v100, e100, h⟩ := bd h
            refine jg_198 (pc' := 103) C dX6_build_100 rfl (gR_some e100) ?_
            refine J_iload_n (pc' := 104) C 2 dX6_build_103 rfl rfl rfl ?_
            obtain ⟨_, q104, h⟩ := bd h
            obtain ⟨M104, e104, h⟩ := bd h
            refine J_cV (pc' := 107) (st := []) (st2 := []) (cs2 := 0) (sl2 := 0) C 6 rfl rfl q104 (ok_X6_makeEnded N e104) mw_X6_makeEnded wq_524 rfl dX6_build_104 rfl rfl (Nat.le_of_ble_eq_true rfl) (by decide) (by decide) rfl rfl rfl (Nat.zero_le _) (Nat.zero_le _) ?_
            refine J_aload_n (pc' := 108) C 0 dX6_build_107 rfl rfl rfl ?_
            refine J_aload_n (pc' := 109) C 0 dX6_build_108 rfl rfl rfl ?_
            obtain ⟨v109, e109, h⟩ := bd h
            refine jg_198 (pc' := 112) C dX6_build_109 rfl (gR_some e109) ?_
            obtain ⟨_, q112, h⟩ := bd h
            obtain ⟨M112, e112, h⟩ := bd h
            refine J_cV (pc' := 115) (st := []) (st2 := []) (cs2 := 0) (sl2 := 0) C 6 rfl rfl q112 (ok_X6_handOver N e112) mw_X6_handOver wq_538 rfl dX6_build_112 rfl rfl (Nat.le_of_ble_eq_true rfl) (by decide) (by decide) rfl rfl rfl (Nat.zero_le _) (Nat.zero_le _) ?_
            refine J_aload_n (pc' := 116) C 0 dX6_build_115 rfl rfl rfl ?_
            obtain ⟨_, q116, h⟩ := bd h
            obtain ⟨v116, M116, e116, h⟩ := bd2 h
            refine J_cV (pc' := 119) (st := []) (st2 := [.long v116]) (cs2 := 0) (sl2 := 0) C 6 rfl rfl q116 (ok_X6_costAtHand N e116) mw_X6_costAtHand wq_547 rfl dX6_build_116 rfl rfl (Nat.le_of_ble_eq_true rfl) (by decide) (by decide) rfl rfl rfl (Nat.zero_le _) (Nat.zero_le _) ?_
            obtain ⟨rfl, rfl⟩ := rt2 h
            exact J_lret C dX6_build_119 (Nat.zero_le _) (Nat.zero_le _)
          · rw [if_pos c65] at h
            refine J_aload_n (pc' := 69) C 0 dX6_build_68 rfl rfl rfl ?_
            obtain ⟨_, q69, h⟩ := bd h
            obtain ⟨v69, M69, e69, h⟩ := bd2 h
            refine J_cV (pc' := 72) (st := []) (st2 := [.ref v69]) (cs2 := 0) (sl2 := 0) C 6 rfl rfl q69 (ok_X6_orders_A N e69) mw_X6_orders wq_450 rfl dX6_build_69 rfl rfl (Nat.le_of_ble_eq_true rfl) (by decide) (by decide) rfl rfl rfl (Nat.zero_le _) (Nat.zero_le _) ?_
            refine J_aload_n (pc' := 73) C 0 dX6_build_72 rfl rfl rfl ?_
            obtain ⟨v73, e73, h⟩ := bd h
            refine jg_198 (pc' := 76) C dX6_build_73 rfl (gR_some e73) ?_
            refine J_aload_n (pc' := 77) C 0 dX6_build_76 rfl rfl rfl ?_
            obtain ⟨v77, e77, h⟩ := bd h
            refine jg_191 (pc' := 80) C dX6_build_77 rfl (gR_some e77) ?_
            refine J_aload_n (pc' := 81) C 0 dX6_build_80 rfl rfl rfl ?_
            obtain ⟨v81, e81, h⟩ := bd h
            refine jg_201 (pc' := 84) C dX6_build_81 rfl (gI_some e81) ?_
            refine J_aload_n (pc' := 85) C 0 dX6_build_84 rfl rfl rfl ?_
            obtain ⟨v85, e85, h⟩ := bd h
            refine jg_190 (pc' := 88) C dX6_build_85 rfl (gR_some e85) ?_
            refine J_aload_n (pc' := 89) C 0 dX6_build_88 rfl rfl rfl ?_
            obtain ⟨v89, e89, h⟩ := bd h
            refine jg_200 (pc' := 92) C dX6_build_89 rfl (gI_some e89) ?_
            obtain ⟨_, q92, h⟩ := bd h
            obtain ⟨M92, e92, h⟩ := bd h
            refine J_cV (pc' := 95) (st := []) (st2 := []) (cs2 := 0) (sl2 := 0) C 4 rfl rfl q92 (ok_X4_make N e92) mw_X4_make wq_476 rfl dX6_build_92 rfl rfl (Nat.le_of_ble_eq_true rfl) (by decide) (by decide) rfl rfl rfl (Nat.zero_le _) (Nat.zero_le _) ?_
            refine J_goto (tgt := 107) C dX6_build_95 (by decide) ?_
            refine J_aload_n (pc' := 108) C 0 dX6_build_107 rfl rfl rfl ?_
            refine J_aload_n (pc' := 109) C 0 dX6_build_108 rfl rfl rfl ?_
            obtain ⟨v109, e109, h⟩ := bd h
            refine jg_198 (pc' := 112) C dX6_build_109 rfl (gR_some e109) ?_
            obtain ⟨_, q112, h⟩ := bd h
            obtain ⟨M112, e112, h⟩ := bd h
            refine J_cV (pc' := 115) (st := []) (st2 := []) (cs2 := 0) (sl2 := 0) C 6 rfl rfl q112 (ok_X6_handOver N e112) mw_X6_handOver wq_538 rfl dX6_build_112 rfl rfl (Nat.le_of_ble_eq_true rfl) (by decide) (by decide) rfl rfl rfl (Nat.zero_le _) (Nat.zero_le _) ?_
            refine J_aload_n (pc' := 116) C 0 dX6_build_115 rfl rfl rfl ?_
            obtain ⟨_, q116, h⟩ := bd h
            obtain ⟨v116, M116, e116, h⟩ := bd2 h
            refine J_cV (pc' := 119) (st := []) (st2 := [.long v116]) (cs2 := 0) (sl2 := 0) C 6 rfl rfl q116 (ok_X6_costAtHand N e116) mw_X6_costAtHand wq_547 rfl dX6_build_116 rfl rfl (Nat.le_of_ble_eq_true rfl) (by decide) (by decide) rfl rfl rfl (Nat.zero_le _) (Nat.zero_le _) ?_
            obtain ⟨rfl, rfl⟩ := rt2 h
            exact J_lret C dX6_build_119 (Nat.zero_le _) (Nat.zero_le _)
        · rw [if_pos c31] at h
          refine J_sub (lv' := [(0, .ref a0), (1, .int a1), (2, .int a2)]) [0, 1, 2] rfl ?_
          exact ok_X6_build_AA_K34 C N _ _ _ _ _ _ h
    · rw [if_pos c18] at h
      refine J_ldc2 (pc' := 24) C dX6_build_21 rfl wq_314 ?_
      obtain ⟨rfl, rfl⟩ := rt2 h
      exact J_lret C dX6_build_24 (Nat.zero_le _) (Nat.zero_le _)
  · rw [if_pos c6] at h
    refine J_ldc2 (pc' := 12) C dX6_build_9 rfl wq_294 ?_
    obtain ⟨rfl, rfl⟩ := rt2 h
    exact J_lret C dX6_build_12 (Nat.zero_le _) (Nat.zero_le _)
def f_X6_build_AB_K53 (N : Nat) (x0 : Nat) (s0 : Int32) (s1 : Nat) (s2 : Nat) (s3 : Nat) (M : A_M) : Option (Int64 × A_M) :=
  (chk M s3 6).bind fun _ =>
  bnd2 (f_X6_makeByLevels_A N s3 s2 s1 s0 M) fun v53 M53 =>
  if v53 = 0 then
  (some ((-5 : Int64), M53))
  else
  ((gR M53 x0 6 8).bind fun v109 =>
  (chk M53 x0 6).bind fun _ =>
  (f_X6_handOver N x0 v109 M53).bind fun M112 =>
  (chk M112 x0 6).bind fun _ =>
  bnd2 (f_X6_costAtHand N x0 M112) fun v116 M116 =>
  some (v116, M116))
set_option maxHeartbeats 4000000 in
set_option maxRecDepth 100000 in
theorem ok_X6_build_AB_K53 {X : JX} (C : Cx X cX6_build RX6 3 (some .long) 146 3562) (hMC : xMC X = 5) (hMS : xMS X = 3490) (N : Nat) : ∀ (x0 : Nat) (s0 : Int32) (s1 : Nat) (s2 : Nat) (s3 : Nat) (M : A_M) (r : Int64) (M' : A_M), f_X6_build_AB_K53 N x0 s0 s1 s2 s3 M = some (r, M') → J X 3 53 [(0, .ref x0)] [.int s0, .ref s1, .ref s2, .ref s3] M 0 0 (some (.long r)) M' := by
  intro x0 s0 s1 s2 s3 M r M' h
  unfold f_X6_build_AB_K53 at h
  obtain ⟨_, q53, h⟩ := bd h
  obtain ⟨v53, M53, e53, h⟩ := bd2 h
  refine J_cV (pc' := 56) (st := []) (st2 := [.int v53]) (cs2 := 0) (sl2 := 0) C 6 rfl rfl q53 (ok_X6_makeByLevels_A N e53) mw_X6_makeByLevels wq_315 rfl dX6_build_53 rfl rfl (Nat.le_of_ble_eq_true rfl) (by decide) (by decide) rfl rfl rfl (Nat.zero_le _) (Nat.zero_le _) ?_
  refine J_if_ne (tgt := 107) (pc' := 59) C dX6_build_56 (by decide) rfl (fun c56 => ?_) (fun c56 => ?_)
  · rw [if_neg c56] at h
    refine J_aload_n (pc' := 108) C 0 dX6_build_107 rfl rfl rfl ?_
    refine J_aload_n (pc' := 109) C 0 dX6_build_108 rfl rfl rfl ?_
    obtain ⟨v109, e109, h⟩ := bd h
    refine jg_198 (pc' := 112) C dX6_build_109 rfl (gR_some e109) ?_
    obtain ⟨_, q112, h⟩ := bd h
    obtain ⟨M112, e112, h⟩ := bd h
    refine J_cV (pc' := 115) (st := []) (st2 := []) (cs2 := 0) (sl2 := 0) C 6 rfl rfl q112 (ok_X6_handOver N e112) mw_X6_handOver wq_538 rfl dX6_build_112 rfl rfl (Nat.le_of_ble_eq_true rfl) (by decide) (by decide) rfl rfl rfl (Nat.zero_le _) (Nat.zero_le _) ?_
    refine J_aload_n (pc' := 116) C 0 dX6_build_115 rfl rfl rfl ?_
    obtain ⟨_, q116, h⟩ := bd h
    obtain ⟨v116, M116, e116, h⟩ := bd2 h
    refine J_cV (pc' := 119) (st := []) (st2 := [.long v116]) (cs2 := 0) (sl2 := 0) C 6 rfl rfl q116 (ok_X6_costAtHand N e116) mw_X6_costAtHand wq_547 rfl dX6_build_116 rfl rfl (Nat.le_of_ble_eq_true rfl) (by decide) (by decide) rfl rfl rfl (Nat.zero_le _) (Nat.zero_le _) ?_
    obtain ⟨rfl, rfl⟩ := rt2 h
    exact J_lret C dX6_build_119 (Nat.zero_le _) (Nat.zero_le _)
  · rw [if_pos c56] at h
    refine J_ldc2 (pc' := 62) C dX6_build_59 rfl wq_449 ?_
    obtain ⟨rfl, rfl⟩ := rt2 h
    exact J_lret C dX6_build_62 (Nat.zero_le _) (Nat.zero_le _)
def f_X6_build_AB_K34 (N : Nat) (x0 : Nat) (x1 : Int32) (x2 : Int32) (M : A_M) : Option (Int64 × A_M) :=
  (gR M x0 6 8).bind fun v36 =>
  (gR M x0 6 1).bind fun v40 =>
  if x1 = (1 : Int32) then
  (f_X6_build_AB_K53 N x0 x2 v40 v36 x0 M)
  else
  (f_X6_build_AB_K53 N x0 (0 : Int32) v40 v36 x0 M)
set_option maxHeartbeats 4000000 in
set_option maxRecDepth 100000 in
theorem ok_X6_build_AB_K34 {X : JX} (C : Cx X cX6_build RX6 3 (some .long) 146 3562) (hMC : xMC X = 5) (hMS : xMS X = 3490) (N : Nat) : ∀ (x0 : Nat) (x1 : Int32) (x2 : Int32) (M : A_M) (r : Int64) (M' : A_M), f_X6_build_AB_K34 N x0 x1 x2 M = some (r, M') → J X 3 34 [(0, .ref x0), (1, .int x1), (2, .int x2)] [] M 0 0 (some (.long r)) M' := by
  intro x0 x1 x2 M r M' h
  unfold f_X6_build_AB_K34 at h
  refine J_aload_n (pc' := 35) C 0 dX6_build_34 rfl rfl rfl ?_
  refine J_aload_n (pc' := 36) C 0 dX6_build_35 rfl rfl rfl ?_
  obtain ⟨v36, e36, h⟩ := bd h
  refine jg_198 (pc' := 39) C dX6_build_36 rfl (gR_some e36) ?_
  refine J_aload_n (pc' := 40) C 0 dX6_build_39 rfl rfl rfl ?_
  obtain ⟨v40, e40, h⟩ := bd h
  refine jg_191 (pc' := 43) C dX6_build_40 rfl (gR_some e40) ?_
  refine J_iload_n (pc' := 44) C 1 dX6_build_43 rfl rfl rfl ?_
  refine J_iconst (pc' := 45) (v := (1 : Int32)) C dX6_build_44 rfl (by decide) ?_
  refine J_icmp_ne (tgt := 52) (pc' := 48) C dX6_build_45 (by decide) rfl (fun c45 => ?_) (fun c45 => ?_)
  · rw [if_neg c45] at h
    refine J_iconst (pc' := 53) (v := (0 : Int32)) C dX6_build_52 rfl (by decide) ?_
    refine J_sub (lv' := [(0, .ref x0)]) [0] rfl ?_
    exact ok_X6_build_AB_K53 C hMC hMS N _ _ _ _ _ _ _ _ h
  · rw [if_pos c45] at h
    refine J_iload_n (pc' := 49) C 2 dX6_build_48 rfl rfl rfl ?_
    refine J_goto (tgt := 53) C dX6_build_49 (by decide) ?_
    refine J_sub (lv' := [(0, .ref x0)]) [0] rfl ?_
    exact ok_X6_build_AB_K53 C hMC hMS N _ _ _ _ _ _ _ _ h
def f_X6_build_AB (N : Nat) (a0 : Nat) (a1 : Int32) (a2 : Int32) (M : A_M) : Option (Int64 × A_M) :=
  (chk M a0 6).bind fun _ =>
  bnd2 (f_X6_isKind N a0 a1 a2 M) fun v3 M3 =>
  if v3 = 0 then
  (some ((-2 : Int64), M3))
  else
  ((chk M3 a0 6).bind fun _ =>
  bnd2 (f_X6_canBuild N a0 a1 M3) fun v15 M15 =>
  if v15 = 0 then
  (some ((-3 : Int64), M15))
  else
  (if a1 = 0 then
  (f_X6_build_AB_K34 N a0 a1 a2 M15)
  else
  (if a1 = (1 : Int32) then
  (f_X6_build_AB_K34 N a0 a1 a2 M15)
  else
  (if a1 = (2 : Int32) then
  ((chk M15 a0 6).bind fun _ =>
  bnd2 (f_X6_orders_B N a0 M15) fun v69 M69 =>
  (gR M69 a0 6 8).bind fun v73 =>
  (gR M69 a0 6 1).bind fun v77 =>
  (gI M69 a0 6 11).bind fun v81 =>
  (gR M69 a0 6 0).bind fun v85 =>
  (gI M69 a0 6 10).bind fun v89 =>
  (chk M69 v69 4).bind fun _ =>
  (f_X4_make N v69 v73 v77 v81 v85 v89 M69).bind fun M92 =>
  (gR M92 a0 6 8).bind fun v109 =>
  (chk M92 a0 6).bind fun _ =>
  (f_X6_handOver N a0 v109 M92).bind fun M112 =>
  (chk M112 a0 6).bind fun _ =>
  bnd2 (f_X6_costAtHand N a0 M112) fun v116 M116 =>
  some (v116, M116))
  else
  ((gR M15 a0 6 8).bind fun v100 =>
  (chk M15 a0 6).bind fun _ =>
  (f_X6_makeEnded N a0 v100 a2 M15).bind fun M104 =>
  (gR M104 a0 6 8).bind fun v109 =>
  (chk M104 a0 6).bind fun _ =>
  (f_X6_handOver N a0 v109 M104).bind fun M112 =>
  (chk M112 a0 6).bind fun _ =>
  bnd2 (f_X6_costAtHand N a0 M112) fun v116 M116 =>
  some (v116, M116))))))
set_option maxHeartbeats 4000000 in
set_option maxRecDepth 100000 in
theorem ok_X6_build_AB (N : Nat) {a0 : Nat} {a1 : Int32} {a2 : Int32} {M : A_M} {r : Int64} {M' : A_M} (h : f_X6_build_AB N a0 a1 a2 M = some (r, M')) : Runs yX6_build cX6_build 3 (some .long) 146 3562 5 3490 [.ref a0, .int a1, .int a2] M (some (.long r)) M' := by
  refine Runs.intro (by decide) (Nat.le_of_ble_eq_true rfl) (fun X C hnm hMC hMS => ?_)
  have C : Cx X cX6_build RX6 3 (some .long) 146 3562 := C
  show J X 3 0 [(0, .ref a0), (1, .int a1), (2, .int a2)] [] M 0 0 (some (.long r)) M'
  unfold f_X6_build_AB at h
  refine J_aload_n (pc' := 1) C 0 dX6_build_0 rfl rfl rfl ?_
  refine J_iload_n (pc' := 2) C 1 dX6_build_1 rfl rfl rfl ?_
  refine J_iload_n (pc' := 3) C 2 dX6_build_2 rfl rfl rfl ?_
  obtain ⟨_, q3, h⟩ := bd h
  obtain ⟨v3, M3, e3, h⟩ := bd2 h
  refine J_cV (pc' := 6) (st := []) (st2 := [.int v3]) (cs2 := 0) (sl2 := 0) C 6 rfl rfl q3 (ok_X6_isKind N e3) mw_X6_isKind wq_286 rfl dX6_build_3 rfl rfl (Nat.le_of_ble_eq_true rfl) (by decide) (by decide) rfl rfl rfl (Nat.zero_le _) (Nat.zero_le _) ?_
  refine J_if_ne (tgt := 13) (pc' := 9) C dX6_build_6 (by decide) rfl (fun c6 => ?_) (fun c6 => ?_)
  · rw [if_neg c6] at h
    refine J_aload_n (pc' := 14) C 0 dX6_build_13 rfl rfl rfl ?_
    refine J_iload_n (pc' := 15) C 1 dX6_build_14 rfl rfl rfl ?_
    obtain ⟨_, q15, h⟩ := bd h
    obtain ⟨v15, M15, e15, h⟩ := bd2 h
    refine J_cV (pc' := 18) (st := []) (st2 := [.int v15]) (cs2 := 0) (sl2 := 0) C 6 rfl rfl q15 (ok_X6_canBuild N e15) mw_X6_canBuild wq_295 rfl dX6_build_15 rfl rfl (Nat.le_of_ble_eq_true rfl) (by decide) (by decide) rfl rfl rfl (Nat.zero_le _) (Nat.zero_le _) ?_
    refine J_if_ne (tgt := 25) (pc' := 21) C dX6_build_18 (by decide) rfl (fun c18 => ?_) (fun c18 => ?_)
    · rw [if_neg c18] at h
      refine J_iload_n (pc' := 26) C 1 dX6_build_25 rfl rfl rfl ?_
      refine J_if_eq (tgt := 34) (pc' := 29) C dX6_build_26 (by decide) rfl (fun c26 => ?_) (fun c26 => ?_)
      · rw [if_pos c26] at h
        refine J_sub (lv' := [(0, .ref a0), (1, .int a1), (2, .int a2)]) [0, 1, 2] rfl ?_
        exact ok_X6_build_AB_K34 C hMC hMS N _ _ _ _ _ _ h
      · rw [if_neg c26] at h
        refine J_iload_n (pc' := 30) C 1 dX6_build_29 rfl rfl rfl ?_
        refine J_iconst (pc' := 31) (v := (1 : Int32)) C dX6_build_30 rfl (by decide) ?_
        refine J_icmp_ne (tgt := 63) (pc' := 34) C dX6_build_31 (by decide) rfl (fun c31 => ?_) (fun c31 => ?_)
        · rw [if_neg c31] at h
          refine J_iload_n (pc' := 64) C 1 dX6_build_63 rfl rfl rfl ?_
          refine J_iconst (pc' := 65) (v := (2 : Int32)) C dX6_build_64 rfl (by decide) ?_
          refine J_icmp_ne (tgt := 98) (pc' := 68) C dX6_build_65 (by decide) rfl (fun c65 => ?_) (fun c65 => ?_)
          · rw [if_neg c65] at h
            refine J_aload_n (pc' := 99) C 0 dX6_build_98 rfl rfl rfl ?_
            refine J_aload_n (pc' := 100) C 0 dX6_build_99 rfl rfl rfl ?_
            obtain ⟨v100, e100, h⟩ := bd h
            refine jg_198 (pc' := 103) C dX6_build_100 rfl (gR_some e100) ?_
            refine J_iload_n (pc' := 104) C 2 dX6_build_103 rfl rfl rfl ?_
            obtain ⟨_, q104, h⟩ := bd h
            obtain ⟨M104, e104, h⟩ := bd h
            refine J_cV (pc' := 107) (st := []) (st2 := []) (cs2 := 0) (sl2 := 0) C 6 rfl rfl q104 (ok_X6_makeEnded N e104) mw_X6_makeEnded wq_524 rfl dX6_build_104 rfl rfl (Nat.le_of_ble_eq_true rfl) (by decide) (by decide) rfl rfl rfl (Nat.zero_le _) (Nat.zero_le _) ?_
            refine J_aload_n (pc' := 108) C 0 dX6_build_107 rfl rfl rfl ?_
            refine J_aload_n (pc' := 109) C 0 dX6_build_108 rfl rfl rfl ?_
            obtain ⟨v109, e109, h⟩ := bd h
            refine jg_198 (pc' := 112) C dX6_build_109 rfl (gR_some e109) ?_
            obtain ⟨_, q112, h⟩ := bd h
            obtain ⟨M112, e112, h⟩ := bd h
            refine J_cV (pc' := 115) (st := []) (st2 := []) (cs2 := 0) (sl2 := 0) C 6 rfl rfl q112 (ok_X6_handOver N e112) mw_X6_handOver wq_538 rfl dX6_build_112 rfl rfl (Nat.le_of_ble_eq_true rfl) (by decide) (by decide) rfl rfl rfl (Nat.zero_le _) (Nat.zero_le _) ?_
            refine J_aload_n (pc' := 116) C 0 dX6_build_115 rfl rfl rfl ?_
            obtain ⟨_, q116, h⟩ := bd h
            obtain ⟨v116, M116, e116, h⟩ := bd2 h
            refine J_cV (pc' := 119) (st := []) (st2 := [.long v116]) (cs2 := 0) (sl2 := 0) C 6 rfl rfl q116 (ok_X6_costAtHand N e116) mw_X6_costAtHand wq_547 rfl dX6_build_116 rfl rfl (Nat.le_of_ble_eq_true rfl) (by decide) (by decide) rfl rfl rfl (Nat.zero_le _) (Nat.zero_le _) ?_
            obtain ⟨rfl, rfl⟩ := rt2 h
            exact J_lret C dX6_build_119 (Nat.zero_le _) (Nat.zero_le _)
          · rw [if_pos c65] at h
            refine J_aload_n (pc' := 69) C 0 dX6_build_68 rfl rfl rfl ?_
            obtain ⟨_, q69, h⟩ := bd h
            obtain ⟨v69, M69, e69, h⟩ := bd2 h
            refine J_cV (pc' := 72) (st := []) (st2 := [.ref v69]) (cs2 := 5) (sl2 := 3490) C 6 rfl rfl q69 (ok_X6_orders_B N e69) mw_X6_orders wq_450 rfl dX6_build_69 rfl rfl (Nat.le_of_ble_eq_true rfl) (by decide) (by decide) rfl rfl rfl (by rw [hMC]; decide) (by rw [hMS]; decide) ?_
            refine J_aload_n (pc' := 73) C 0 dX6_build_72 rfl rfl rfl ?_
            obtain ⟨v73, e73, h⟩ := bd h
            refine jg_198 (pc' := 76) C dX6_build_73 rfl (gR_some e73) ?_
            refine J_aload_n (pc' := 77) C 0 dX6_build_76 rfl rfl rfl ?_
            obtain ⟨v77, e77, h⟩ := bd h
            refine jg_191 (pc' := 80) C dX6_build_77 rfl (gR_some e77) ?_
            refine J_aload_n (pc' := 81) C 0 dX6_build_80 rfl rfl rfl ?_
            obtain ⟨v81, e81, h⟩ := bd h
            refine jg_201 (pc' := 84) C dX6_build_81 rfl (gI_some e81) ?_
            refine J_aload_n (pc' := 85) C 0 dX6_build_84 rfl rfl rfl ?_
            obtain ⟨v85, e85, h⟩ := bd h
            refine jg_190 (pc' := 88) C dX6_build_85 rfl (gR_some e85) ?_
            refine J_aload_n (pc' := 89) C 0 dX6_build_88 rfl rfl rfl ?_
            obtain ⟨v89, e89, h⟩ := bd h
            refine jg_200 (pc' := 92) C dX6_build_89 rfl (gI_some e89) ?_
            obtain ⟨_, q92, h⟩ := bd h
            obtain ⟨M92, e92, h⟩ := bd h
            refine J_cV (pc' := 95) (st := []) (st2 := []) (cs2 := 5) (sl2 := 3490) C 4 rfl rfl q92 (ok_X4_make N e92) mw_X4_make wq_476 rfl dX6_build_92 rfl rfl (Nat.le_of_ble_eq_true rfl) (by decide) (by decide) rfl rfl rfl (by rw [hMC]; decide) (by rw [hMS]; decide) ?_
            refine J_goto (tgt := 107) C dX6_build_95 (by decide) ?_
            refine J_aload_n (pc' := 108) C 0 dX6_build_107 rfl rfl rfl ?_
            refine J_aload_n (pc' := 109) C 0 dX6_build_108 rfl rfl rfl ?_
            obtain ⟨v109, e109, h⟩ := bd h
            refine jg_198 (pc' := 112) C dX6_build_109 rfl (gR_some e109) ?_
            obtain ⟨_, q112, h⟩ := bd h
            obtain ⟨M112, e112, h⟩ := bd h
            refine J_cV (pc' := 115) (st := []) (st2 := []) (cs2 := 5) (sl2 := 3490) C 6 rfl rfl q112 (ok_X6_handOver N e112) mw_X6_handOver wq_538 rfl dX6_build_112 rfl rfl (Nat.le_of_ble_eq_true rfl) (by decide) (by decide) rfl rfl rfl (by rw [hMC]; decide) (by rw [hMS]; decide) ?_
            refine J_aload_n (pc' := 116) C 0 dX6_build_115 rfl rfl rfl ?_
            obtain ⟨_, q116, h⟩ := bd h
            obtain ⟨v116, M116, e116, h⟩ := bd2 h
            refine J_cV (pc' := 119) (st := []) (st2 := [.long v116]) (cs2 := 5) (sl2 := 3490) C 6 rfl rfl q116 (ok_X6_costAtHand N e116) mw_X6_costAtHand wq_547 rfl dX6_build_116 rfl rfl (Nat.le_of_ble_eq_true rfl) (by decide) (by decide) rfl rfl rfl (by rw [hMC]; decide) (by rw [hMS]; decide) ?_
            obtain ⟨rfl, rfl⟩ := rt2 h
            exact J_lret C dX6_build_119 (by rw [hMC]; decide) (by rw [hMS]; decide)
        · rw [if_pos c31] at h
          refine J_sub (lv' := [(0, .ref a0), (1, .int a1), (2, .int a2)]) [0, 1, 2] rfl ?_
          exact ok_X6_build_AB_K34 C hMC hMS N _ _ _ _ _ _ h
    · rw [if_pos c18] at h
      refine J_ldc2 (pc' := 24) C dX6_build_21 rfl wq_314 ?_
      obtain ⟨rfl, rfl⟩ := rt2 h
      exact J_lret C dX6_build_24 (Nat.zero_le _) (Nat.zero_le _)
  · rw [if_pos c6] at h
    refine J_ldc2 (pc' := 12) C dX6_build_9 rfl wq_294 ?_
    obtain ⟨rfl, rfl⟩ := rt2 h
    exact J_lret C dX6_build_12 (Nat.zero_le _) (Nat.zero_le _)
def f_X6_build_BA_K53 (N : Nat) (x0 : Nat) (s0 : Int32) (s1 : Nat) (s2 : Nat) (s3 : Nat) (M : A_M) : Option (Int64 × A_M) :=
  (chk M s3 6).bind fun _ =>
  bnd2 (f_X6_makeByLevels_B N s3 s2 s1 s0 M) fun v53 M53 =>
  if v53 = 0 then
  (some ((-5 : Int64), M53))
  else
  ((gR M53 x0 6 8).bind fun v109 =>
  (chk M53 x0 6).bind fun _ =>
  (f_X6_handOver N x0 v109 M53).bind fun M112 =>
  (chk M112 x0 6).bind fun _ =>
  bnd2 (f_X6_costAtHand N x0 M112) fun v116 M116 =>
  some (v116, M116))
set_option maxHeartbeats 4000000 in
set_option maxRecDepth 100000 in
theorem ok_X6_build_BA_K53 {X : JX} (C : Cx X cX6_build RX6 3 (some .long) 146 3562) (hMC : xMC X = 11) (hMS : xMS X = 14764) (N : Nat) : ∀ (x0 : Nat) (s0 : Int32) (s1 : Nat) (s2 : Nat) (s3 : Nat) (M : A_M) (r : Int64) (M' : A_M), f_X6_build_BA_K53 N x0 s0 s1 s2 s3 M = some (r, M') → J X 3 53 [(0, .ref x0)] [.int s0, .ref s1, .ref s2, .ref s3] M 0 0 (some (.long r)) M' := by
  intro x0 s0 s1 s2 s3 M r M' h
  unfold f_X6_build_BA_K53 at h
  obtain ⟨_, q53, h⟩ := bd h
  obtain ⟨v53, M53, e53, h⟩ := bd2 h
  refine J_cV (pc' := 56) (st := []) (st2 := [.int v53]) (cs2 := 11) (sl2 := 14764) C 6 rfl rfl q53 (ok_X6_makeByLevels_B N e53) mw_X6_makeByLevels wq_315 rfl dX6_build_53 rfl rfl (Nat.le_of_ble_eq_true rfl) (by decide) (by decide) rfl rfl rfl (by rw [hMC]; decide) (by rw [hMS]; decide) ?_
  refine J_if_ne (tgt := 107) (pc' := 59) C dX6_build_56 (by decide) rfl (fun c56 => ?_) (fun c56 => ?_)
  · rw [if_neg c56] at h
    refine J_aload_n (pc' := 108) C 0 dX6_build_107 rfl rfl rfl ?_
    refine J_aload_n (pc' := 109) C 0 dX6_build_108 rfl rfl rfl ?_
    obtain ⟨v109, e109, h⟩ := bd h
    refine jg_198 (pc' := 112) C dX6_build_109 rfl (gR_some e109) ?_
    obtain ⟨_, q112, h⟩ := bd h
    obtain ⟨M112, e112, h⟩ := bd h
    refine J_cV (pc' := 115) (st := []) (st2 := []) (cs2 := 11) (sl2 := 14764) C 6 rfl rfl q112 (ok_X6_handOver N e112) mw_X6_handOver wq_538 rfl dX6_build_112 rfl rfl (Nat.le_of_ble_eq_true rfl) (by decide) (by decide) rfl rfl rfl (by rw [hMC]; decide) (by rw [hMS]; decide) ?_
    refine J_aload_n (pc' := 116) C 0 dX6_build_115 rfl rfl rfl ?_
    obtain ⟨_, q116, h⟩ := bd h
    obtain ⟨v116, M116, e116, h⟩ := bd2 h
    refine J_cV (pc' := 119) (st := []) (st2 := [.long v116]) (cs2 := 11) (sl2 := 14764) C 6 rfl rfl q116 (ok_X6_costAtHand N e116) mw_X6_costAtHand wq_547 rfl dX6_build_116 rfl rfl (Nat.le_of_ble_eq_true rfl) (by decide) (by decide) rfl rfl rfl (by rw [hMC]; decide) (by rw [hMS]; decide) ?_
    obtain ⟨rfl, rfl⟩ := rt2 h
    exact J_lret C dX6_build_119 (by rw [hMC]; decide) (by rw [hMS]; decide)
  · rw [if_pos c56] at h
    refine J_ldc2 (pc' := 62) C dX6_build_59 rfl wq_449 ?_
    obtain ⟨rfl, rfl⟩ := rt2 h
    exact J_lret C dX6_build_62 (by rw [hMC]; decide) (by rw [hMS]; decide)
def f_X6_build_BA_K34 (N : Nat) (x0 : Nat) (x1 : Int32) (x2 : Int32) (M : A_M) : Option (Int64 × A_M) :=
  (gR M x0 6 8).bind fun v36 =>
  (gR M x0 6 1).bind fun v40 =>
  if x1 = (1 : Int32) then
  (f_X6_build_BA_K53 N x0 x2 v40 v36 x0 M)
  else
  (f_X6_build_BA_K53 N x0 (0 : Int32) v40 v36 x0 M)
set_option maxHeartbeats 4000000 in
set_option maxRecDepth 100000 in
theorem ok_X6_build_BA_K34 {X : JX} (C : Cx X cX6_build RX6 3 (some .long) 146 3562) (hMC : xMC X = 11) (hMS : xMS X = 14764) (N : Nat) : ∀ (x0 : Nat) (x1 : Int32) (x2 : Int32) (M : A_M) (r : Int64) (M' : A_M), f_X6_build_BA_K34 N x0 x1 x2 M = some (r, M') → J X 3 34 [(0, .ref x0), (1, .int x1), (2, .int x2)] [] M 0 0 (some (.long r)) M' := by
  intro x0 x1 x2 M r M' h
  unfold f_X6_build_BA_K34 at h
  refine J_aload_n (pc' := 35) C 0 dX6_build_34 rfl rfl rfl ?_
  refine J_aload_n (pc' := 36) C 0 dX6_build_35 rfl rfl rfl ?_
  obtain ⟨v36, e36, h⟩ := bd h
  refine jg_198 (pc' := 39) C dX6_build_36 rfl (gR_some e36) ?_
  refine J_aload_n (pc' := 40) C 0 dX6_build_39 rfl rfl rfl ?_
  obtain ⟨v40, e40, h⟩ := bd h
  refine jg_191 (pc' := 43) C dX6_build_40 rfl (gR_some e40) ?_
  refine J_iload_n (pc' := 44) C 1 dX6_build_43 rfl rfl rfl ?_
  refine J_iconst (pc' := 45) (v := (1 : Int32)) C dX6_build_44 rfl (by decide) ?_
  refine J_icmp_ne (tgt := 52) (pc' := 48) C dX6_build_45 (by decide) rfl (fun c45 => ?_) (fun c45 => ?_)
  · rw [if_neg c45] at h
    refine J_iconst (pc' := 53) (v := (0 : Int32)) C dX6_build_52 rfl (by decide) ?_
    refine J_sub (lv' := [(0, .ref x0)]) [0] rfl ?_
    exact ok_X6_build_BA_K53 C hMC hMS N _ _ _ _ _ _ _ _ h
  · rw [if_pos c45] at h
    refine J_iload_n (pc' := 49) C 2 dX6_build_48 rfl rfl rfl ?_
    refine J_goto (tgt := 53) C dX6_build_49 (by decide) ?_
    refine J_sub (lv' := [(0, .ref x0)]) [0] rfl ?_
    exact ok_X6_build_BA_K53 C hMC hMS N _ _ _ _ _ _ _ _ h
def f_X6_build_BA (N : Nat) (a0 : Nat) (a1 : Int32) (a2 : Int32) (M : A_M) : Option (Int64 × A_M) :=
  (chk M a0 6).bind fun _ =>
  bnd2 (f_X6_isKind N a0 a1 a2 M) fun v3 M3 =>
  if v3 = 0 then
  (some ((-2 : Int64), M3))
  else
  ((chk M3 a0 6).bind fun _ =>
  bnd2 (f_X6_canBuild N a0 a1 M3) fun v15 M15 =>
  if v15 = 0 then
  (some ((-3 : Int64), M15))
  else
  (if a1 = 0 then
  (f_X6_build_BA_K34 N a0 a1 a2 M15)
  else
  (if a1 = (1 : Int32) then
  (f_X6_build_BA_K34 N a0 a1 a2 M15)
  else
  (if a1 = (2 : Int32) then
  ((chk M15 a0 6).bind fun _ =>
  bnd2 (f_X6_orders_A N a0 M15) fun v69 M69 =>
  (gR M69 a0 6 8).bind fun v73 =>
  (gR M69 a0 6 1).bind fun v77 =>
  (gI M69 a0 6 11).bind fun v81 =>
  (gR M69 a0 6 0).bind fun v85 =>
  (gI M69 a0 6 10).bind fun v89 =>
  (chk M69 v69 4).bind fun _ =>
  (f_X4_make N v69 v73 v77 v81 v85 v89 M69).bind fun M92 =>
  (gR M92 a0 6 8).bind fun v109 =>
  (chk M92 a0 6).bind fun _ =>
  (f_X6_handOver N a0 v109 M92).bind fun M112 =>
  (chk M112 a0 6).bind fun _ =>
  bnd2 (f_X6_costAtHand N a0 M112) fun v116 M116 =>
  some (v116, M116))
  else
  ((gR M15 a0 6 8).bind fun v100 =>
  (chk M15 a0 6).bind fun _ =>
  (f_X6_makeEnded N a0 v100 a2 M15).bind fun M104 =>
  (gR M104 a0 6 8).bind fun v109 =>
  (chk M104 a0 6).bind fun _ =>
  (f_X6_handOver N a0 v109 M104).bind fun M112 =>
  (chk M112 a0 6).bind fun _ =>
  bnd2 (f_X6_costAtHand N a0 M112) fun v116 M116 =>
  some (v116, M116))))))
set_option maxHeartbeats 4000000 in
set_option maxRecDepth 100000 in
theorem ok_X6_build_BA (N : Nat) {a0 : Nat} {a1 : Int32} {a2 : Int32} {M : A_M} {r : Int64} {M' : A_M} (h : f_X6_build_BA N a0 a1 a2 M = some (r, M')) : Runs yX6_build cX6_build 3 (some .long) 146 3562 11 14764 [.ref a0, .int a1, .int a2] M (some (.long r)) M' := by
  refine Runs.intro (by decide) (Nat.le_of_ble_eq_true rfl) (fun X C hnm hMC hMS => ?_)
  have C : Cx X cX6_build RX6 3 (some .long) 146 3562 := C
  show J X 3 0 [(0, .ref a0), (1, .int a1), (2, .int a2)] [] M 0 0 (some (.long r)) M'
  unfold f_X6_build_BA at h
  refine J_aload_n (pc' := 1) C 0 dX6_build_0 rfl rfl rfl ?_
  refine J_iload_n (pc' := 2) C 1 dX6_build_1 rfl rfl rfl ?_
  refine J_iload_n (pc' := 3) C 2 dX6_build_2 rfl rfl rfl ?_
  obtain ⟨_, q3, h⟩ := bd h
  obtain ⟨v3, M3, e3, h⟩ := bd2 h
  refine J_cV (pc' := 6) (st := []) (st2 := [.int v3]) (cs2 := 0) (sl2 := 0) C 6 rfl rfl q3 (ok_X6_isKind N e3) mw_X6_isKind wq_286 rfl dX6_build_3 rfl rfl (Nat.le_of_ble_eq_true rfl) (by decide) (by decide) rfl rfl rfl (Nat.zero_le _) (Nat.zero_le _) ?_
  refine J_if_ne (tgt := 13) (pc' := 9) C dX6_build_6 (by decide) rfl (fun c6 => ?_) (fun c6 => ?_)
  · rw [if_neg c6] at h
    refine J_aload_n (pc' := 14) C 0 dX6_build_13 rfl rfl rfl ?_
    refine J_iload_n (pc' := 15) C 1 dX6_build_14 rfl rfl rfl ?_
    obtain ⟨_, q15, h⟩ := bd h
    obtain ⟨v15, M15, e15, h⟩ := bd2 h
    refine J_cV (pc' := 18) (st := []) (st2 := [.int v15]) (cs2 := 0) (sl2 := 0) C 6 rfl rfl q15 (ok_X6_canBuild N e15) mw_X6_canBuild wq_295 rfl dX6_build_15 rfl rfl (Nat.le_of_ble_eq_true rfl) (by decide) (by decide) rfl rfl rfl (Nat.zero_le _) (Nat.zero_le _) ?_
    refine J_if_ne (tgt := 25) (pc' := 21) C dX6_build_18 (by decide) rfl (fun c18 => ?_) (fun c18 => ?_)
    · rw [if_neg c18] at h
      refine J_iload_n (pc' := 26) C 1 dX6_build_25 rfl rfl rfl ?_
      refine J_if_eq (tgt := 34) (pc' := 29) C dX6_build_26 (by decide) rfl (fun c26 => ?_) (fun c26 => ?_)
      · rw [if_pos c26] at h
        refine J_sub (lv' := [(0, .ref a0), (1, .int a1), (2, .int a2)]) [0, 1, 2] rfl ?_
        exact ok_X6_build_BA_K34 C hMC hMS N _ _ _ _ _ _ h
      · rw [if_neg c26] at h
        refine J_iload_n (pc' := 30) C 1 dX6_build_29 rfl rfl rfl ?_
        refine J_iconst (pc' := 31) (v := (1 : Int32)) C dX6_build_30 rfl (by decide) ?_
        refine J_icmp_ne (tgt := 63) (pc' := 34) C dX6_build_31 (by decide) rfl (fun c31 => ?_) (fun c31 => ?_)
        · rw [if_neg c31] at h
          refine J_iload_n (pc' := 64) C 1 dX6_build_63 rfl rfl rfl ?_
          refine J_iconst (pc' := 65) (v := (2 : Int32)) C dX6_build_64 rfl (by decide) ?_
          refine J_icmp_ne (tgt := 98) (pc' := 68) C dX6_build_65 (by decide) rfl (fun c65 => ?_) (fun c65 => ?_)
          · rw [if_neg c65] at h
            refine J_aload_n (pc' := 99) C 0 dX6_build_98 rfl rfl rfl ?_
            refine J_aload_n (pc' := 100) C 0 dX6_build_99 rfl rfl rfl ?_
            obtain ⟨v100, e100, h⟩ := bd h
            refine jg_198 (pc' := 103) C dX6_build_100 rfl (gR_some e100) ?_
            refine J_iload_n (pc' := 104) C 2 dX6_build_103 rfl rfl rfl ?_
            obtain ⟨_, q104, h⟩ := bd h
            obtain ⟨M104, e104, h⟩ := bd h
            refine J_cV (pc' := 107) (st := []) (st2 := []) (cs2 := 0) (sl2 := 0) C 6 rfl rfl q104 (ok_X6_makeEnded N e104) mw_X6_makeEnded wq_524 rfl dX6_build_104 rfl rfl (Nat.le_of_ble_eq_true rfl) (by decide) (by decide) rfl rfl rfl (Nat.zero_le _) (Nat.zero_le _) ?_
            refine J_aload_n (pc' := 108) C 0 dX6_build_107 rfl rfl rfl ?_
            refine J_aload_n (pc' := 109) C 0 dX6_build_108 rfl rfl rfl ?_
            obtain ⟨v109, e109, h⟩ := bd h
            refine jg_198 (pc' := 112) C dX6_build_109 rfl (gR_some e109) ?_
            obtain ⟨_, q112, h⟩ := bd h
            obtain ⟨M112, e112, h⟩ := bd h
            refine J_cV (pc' := 115) (st := []) (st2 := []) (cs2 := 0) (sl2 := 0) C 6 rfl rfl q112 (ok_X6_handOver N e112) mw_X6_handOver wq_538 rfl dX6_build_112 rfl rfl (Nat.le_of_ble_eq_true rfl) (by decide) (by decide) rfl rfl rfl (Nat.zero_le _) (Nat.zero_le _) ?_
            refine J_aload_n (pc' := 116) C 0 dX6_build_115 rfl rfl rfl ?_
            obtain ⟨_, q116, h⟩ := bd h
            obtain ⟨v116, M116, e116, h⟩ := bd2 h
            refine J_cV (pc' := 119) (st := []) (st2 := [.long v116]) (cs2 := 0) (sl2 := 0) C 6 rfl rfl q116 (ok_X6_costAtHand N e116) mw_X6_costAtHand wq_547 rfl dX6_build_116 rfl rfl (Nat.le_of_ble_eq_true rfl) (by decide) (by decide) rfl rfl rfl (Nat.zero_le _) (Nat.zero_le _) ?_
            obtain ⟨rfl, rfl⟩ := rt2 h
            exact J_lret C dX6_build_119 (Nat.zero_le _) (Nat.zero_le _)
          · rw [if_pos c65] at h
            refine J_aload_n (pc' := 69) C 0 dX6_build_68 rfl rfl rfl ?_
            obtain ⟨_, q69, h⟩ := bd h
            obtain ⟨v69, M69, e69, h⟩ := bd2 h
            refine J_cV (pc' := 72) (st := []) (st2 := [.ref v69]) (cs2 := 0) (sl2 := 0) C 6 rfl rfl q69 (ok_X6_orders_A N e69) mw_X6_orders wq_450 rfl dX6_build_69 rfl rfl (Nat.le_of_ble_eq_true rfl) (by decide) (by decide) rfl rfl rfl (Nat.zero_le _) (Nat.zero_le _) ?_
            refine J_aload_n (pc' := 73) C 0 dX6_build_72 rfl rfl rfl ?_
            obtain ⟨v73, e73, h⟩ := bd h
            refine jg_198 (pc' := 76) C dX6_build_73 rfl (gR_some e73) ?_
            refine J_aload_n (pc' := 77) C 0 dX6_build_76 rfl rfl rfl ?_
            obtain ⟨v77, e77, h⟩ := bd h
            refine jg_191 (pc' := 80) C dX6_build_77 rfl (gR_some e77) ?_
            refine J_aload_n (pc' := 81) C 0 dX6_build_80 rfl rfl rfl ?_
            obtain ⟨v81, e81, h⟩ := bd h
            refine jg_201 (pc' := 84) C dX6_build_81 rfl (gI_some e81) ?_
            refine J_aload_n (pc' := 85) C 0 dX6_build_84 rfl rfl rfl ?_
            obtain ⟨v85, e85, h⟩ := bd h
            refine jg_190 (pc' := 88) C dX6_build_85 rfl (gR_some e85) ?_
            refine J_aload_n (pc' := 89) C 0 dX6_build_88 rfl rfl rfl ?_
            obtain ⟨v89, e89, h⟩ := bd h
            refine jg_200 (pc' := 92) C dX6_build_89 rfl (gI_some e89) ?_
            obtain ⟨_, q92, h⟩ := bd h
            obtain ⟨M92, e92, h⟩ := bd h
            refine J_cV (pc' := 95) (st := []) (st2 := []) (cs2 := 0) (sl2 := 0) C 4 rfl rfl q92 (ok_X4_make N e92) mw_X4_make wq_476 rfl dX6_build_92 rfl rfl (Nat.le_of_ble_eq_true rfl) (by decide) (by decide) rfl rfl rfl (Nat.zero_le _) (Nat.zero_le _) ?_
            refine J_goto (tgt := 107) C dX6_build_95 (by decide) ?_
            refine J_aload_n (pc' := 108) C 0 dX6_build_107 rfl rfl rfl ?_
            refine J_aload_n (pc' := 109) C 0 dX6_build_108 rfl rfl rfl ?_
            obtain ⟨v109, e109, h⟩ := bd h
            refine jg_198 (pc' := 112) C dX6_build_109 rfl (gR_some e109) ?_
            obtain ⟨_, q112, h⟩ := bd h
            obtain ⟨M112, e112, h⟩ := bd h
            refine J_cV (pc' := 115) (st := []) (st2 := []) (cs2 := 0) (sl2 := 0) C 6 rfl rfl q112 (ok_X6_handOver N e112) mw_X6_handOver wq_538 rfl dX6_build_112 rfl rfl (Nat.le_of_ble_eq_true rfl) (by decide) (by decide) rfl rfl rfl (Nat.zero_le _) (Nat.zero_le _) ?_
            refine J_aload_n (pc' := 116) C 0 dX6_build_115 rfl rfl rfl ?_
            obtain ⟨_, q116, h⟩ := bd h
            obtain ⟨v116, M116, e116, h⟩ := bd2 h
            refine J_cV (pc' := 119) (st := []) (st2 := [.long v116]) (cs2 := 0) (sl2 := 0) C 6 rfl rfl q116 (ok_X6_costAtHand N e116) mw_X6_costAtHand wq_547 rfl dX6_build_116 rfl rfl (Nat.le_of_ble_eq_true rfl) (by decide) (by decide) rfl rfl rfl (Nat.zero_le _) (Nat.zero_le _) ?_
            obtain ⟨rfl, rfl⟩ := rt2 h
            exact J_lret C dX6_build_119 (Nat.zero_le _) (Nat.zero_le _)
        · rw [if_pos c31] at h
          refine J_sub (lv' := [(0, .ref a0), (1, .int a1), (2, .int a2)]) [0, 1, 2] rfl ?_
          exact ok_X6_build_BA_K34 C hMC hMS N _ _ _ _ _ _ h
    · rw [if_pos c18] at h
      refine J_ldc2 (pc' := 24) C dX6_build_21 rfl wq_314 ?_
      obtain ⟨rfl, rfl⟩ := rt2 h
      exact J_lret C dX6_build_24 (Nat.zero_le _) (Nat.zero_le _)
  · rw [if_pos c6] at h
    refine J_ldc2 (pc' := 12) C dX6_build_9 rfl wq_294 ?_
    obtain ⟨rfl, rfl⟩ := rt2 h
    exact J_lret C dX6_build_12 (Nat.zero_le _) (Nat.zero_le _)
