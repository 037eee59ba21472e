def f_X7_placeOf_K38 (N : Nat) (k3 : Nat → Int64 → Int32 → Int32 → A_M → Option (Int32 × A_M)) (x0 : Nat) (x1 : Int64) (x3 : Int32) (x4 : Int32) (M : A_M) : Option (Int32 × A_M) :=
  k3 x0 x1 x3 (x4 + 1) M
set_option maxHeartbeats 4000000 in
set_option maxRecDepth 100000 in
theorem ok_X7_placeOf_K38 {X : JX} (C : Cx X cX7_placeOf RX7 5 (some .int) 0 0) (N : Nat) {k3 : Nat → Int64 → Int32 → Int32 → A_M → Option (Int32 × A_M)} (hk3 : ∀ (x0 : Nat) (x1 : Int64) (x3 : Int32) (x4 : Int32) (M : A_M) (r : Int32) (M' : A_M), k3 x0 x1 x3 x4 M = some (r, M') → J X 5 3 [(0, .ref x0), (1, .long x1), (3, .int x3), (4, .int x4)] [] M 0 0 (some (.int r)) M') : ∀ (x0 : Nat) (x1 : Int64) (x3 : Int32) (x4 : Int32) (M : A_M) (r : Int32) (M' : A_M), f_X7_placeOf_K38 N k3 x0 x1 x3 x4 M = some (r, M') → J X 5 38 [(0, .ref x0), (1, .long x1), (3, .int x3), (4, .int x4)] [] M 0 0 (some (.int r)) M' := by
  intro x0 x1 x3 x4 M r M' h
  unfold f_X7_placeOf_K38 at h
  refine J_iinc (pc' := 41) (lv' := [(4, .int (x4 + 1)), (0, .ref x0), (1, .long x1), (3, .int x3)]) C 3 dX7_placeOf_38 rfl rfl rfl (by decide) rfl ?_
  refine J_goto (tgt := 3) C dX7_placeOf_41 (by decide) ?_
  refine J_sub (lv' := [(0, .ref x0), (1, .long x1), (3, .int x3), (4, .int (x4 + 1))]) [1, 2, 3, 0] rfl ?_
  exact hk3 _ _ _ _ _ _ _ h
def f_X7_placeOf_L3 (N : Nat) : Nat → Nat → Int64 → Int32 → Int32 → A_M → Option (Int32 × A_M)
  | 0, _, _, _, _, _ => none
  | n + 1, x0, x1, x3, x4, M =>
    (gI M x0 7 40).bind fun v6 =>
    if v6 ≤ x4 then
    (some ((-1 : Int32), M))
    else
    ((gR M x0 7 38).bind fun v13 =>
    (ldJ M v13 x4).bind fun v18 =>
    if (lg_cmp v18 x1) = 0 then
    ((gR M x0 7 39).bind fun v25 =>
    (ldI M v25 x4).bind fun v30 =>
    if v30 = x3 then
    (some (x4, M))
    else
    (f_X7_placeOf_K38 N (f_X7_placeOf_L3 N n) x0 x1 x3 x4 M))
    else
    (f_X7_placeOf_K38 N (f_X7_placeOf_L3 N n) x0 x1 x3 x4 M))
set_option maxHeartbeats 4000000 in
set_option maxRecDepth 100000 in
theorem ok_X7_placeOf_L3 {X : JX} (C : Cx X cX7_placeOf RX7 5 (some .int) 0 0) (N : Nat) : ∀ (n : Nat) (x0 : Nat) (x1 : Int64) (x3 : Int32) (x4 : Int32) (M : A_M) (r : Int32) (M' : A_M), f_X7_placeOf_L3 N n x0 x1 x3 x4 M = some (r, M') → J X 5 3 [(0, .ref x0), (1, .long x1), (3, .int x3), (4, .int x4)] [] M 0 0 (some (.int r)) M' := by
  intro n
  induction n with
  | zero =>
    intro x0 x1 x3 x4 M r M' h
    cases h
  | succ n ih =>
    intro x0 x1 x3 x4 M r M' h
    rw [f_X7_placeOf_L3] at h
    refine J_iload (pc' := 5) C 3 dX7_placeOf_3 rfl rfl ?_
    refine J_aload_n (pc' := 6) C 0 dX7_placeOf_5 rfl rfl rfl ?_
    obtain ⟨v6, e6, h⟩ := bd h
    refine jg_919 (pc' := 9) C dX7_placeOf_6 rfl (gI_some e6) ?_
    refine J_icmp_ge (tgt := 44) (pc' := 12) C dX7_placeOf_9 (by decide) rfl (fun c9 => ?_) (fun c9 => ?_)
    · rw [if_pos c9] at h
      refine J_iconst (pc' := 45) (v := (-1 : Int32)) C dX7_placeOf_44 rfl (by decide) ?_
      obtain ⟨rfl, rfl⟩ := rt2 h
      exact J_iret C dX7_placeOf_45 (Nat.zero_le _) (Nat.zero_le _)
    · rw [if_neg c9] at h
      refine J_aload_n (pc' := 13) C 0 dX7_placeOf_12 rfl rfl rfl ?_
      obtain ⟨v13, e13, h⟩ := bd h
      refine jg_917 (pc' := 16) C dX7_placeOf_13 rfl (gR_some e13) ?_
      refine J_iload (pc' := 18) C 3 dX7_placeOf_16 rfl rfl ?_
      obtain ⟨v18, e18, h⟩ := bd h
      refine J_lald (pc' := 19) C dX7_placeOf_18 rfl e18 ?_
      refine J_lload_n (pc' := 20) C 1 dX7_placeOf_19 rfl rfl rfl ?_
      refine J_lcmp (pc' := 21) C dX7_placeOf_20 rfl ?_
      refine J_if_ne (tgt := 38) (pc' := 24) C dX7_placeOf_21 (by decide) rfl (fun c21 => ?_) (fun c21 => ?_)
      · rw [if_neg c21] at h
        refine J_sub (lv' := [(0, .ref x0), (1, .long x1), (3, .int x3), (4, .int x4)]) [0, 1, 2, 3] rfl ?_
        exact ok_X7_placeOf_K38 C N ih _ _ _ _ _ _ _ h
      · rw [if_pos c21] at h
        refine J_aload_n (pc' := 25) C 0 dX7_placeOf_24 rfl rfl rfl ?_
        obtain ⟨v25, e25, h⟩ := bd h
        refine jg_918 (pc' := 28) C dX7_placeOf_25 rfl (gR_some e25) ?_
        refine J_iload (pc' := 30) C 3 dX7_placeOf_28 rfl rfl ?_
        obtain ⟨v30, e30, h⟩ := bd h
        refine J_iald (pc' := 31) C dX7_placeOf_30 rfl e30 ?_
        refine J_iload_n (pc' := 32) C 2 dX7_placeOf_31 rfl rfl rfl ?_
        refine J_icmp_ne (tgt := 38) (pc' := 35) C dX7_placeOf_32 (by decide) rfl (fun c32 => ?_) (fun c32 => ?_)
        · rw [if_neg c32] at h
          refine J_sub (lv' := [(0, .ref x0), (1, .long x1), (3, .int x3), (4, .int x4)]) [0, 1, 2, 3] rfl ?_
          exact ok_X7_placeOf_K38 C N ih _ _ _ _ _ _ _ h
        · rw [if_pos c32] at h
          refine J_iload (pc' := 37) C 3 dX7_placeOf_35 rfl rfl ?_
          obtain ⟨rfl, rfl⟩ := rt2 h
          exact J_iret C dX7_placeOf_37 (Nat.zero_le _) (Nat.zero_le _)
def f_X7_placeOf (N : Nat) (a0 : Nat) (a1 : Int64) (a3 : Int32) (M : A_M) : Option (Int32 × A_M) :=
  f_X7_placeOf_L3 N N a0 a1 a3 (0 : Int32) M
set_option maxHeartbeats 4000000 in
set_option maxRecDepth 100000 in
theorem ok_X7_placeOf (N : Nat) {a0 : Nat} {a1 : Int64} {a3 : Int32} {M : A_M} {r : Int32} {M' : A_M} (h : f_X7_placeOf N a0 a1 a3 M = some (r, M')) : Runs yX7_placeOf cX7_placeOf 5 (some .int) 0 0 0 0 [.ref a0, .long a1, .int a3] M (some (.int r)) M' := by
  refine Runs.intro (by decide) (Nat.le_of_ble_eq_true rfl) (fun X C hnm hMC hMS => ?_)
  have C : Cx X cX7_placeOf RX7 5 (some .int) 0 0 := C
  show J X 5 0 [(0, .ref a0), (1, .long a1), (3, .int a3)] [] M 0 0 (some (.int r)) M'
  unfold f_X7_placeOf at h
  refine J_iconst (pc' := 1) (v := (0 : Int32)) C dX7_placeOf_0 rfl (by decide) ?_
  refine J_istore (pc' := 3) (lv' := [(4, .int (0 : Int32)), (0, .ref a0), (1, .long a1), (3, .int a3)]) C dX7_placeOf_1 rfl (by decide) rfl ?_
  refine J_sub (lv' := [(0, .ref a0), (1, .long a1), (3, .int a3), (4, .int (0 : Int32))]) [1, 2, 3, 0] rfl ?_
  exact ok_X7_placeOf_L3 C N N _ _ _ _ _ _ _ h
def f_X7_cut (N : Nat) (a0 : Int64) (a2 : Int32) (M : A_M) : Option (Int64 × A_M) :=
  if a2 = 0 then
  (some ((0 : Int64), M))
  else
  (some (((a0 >>> (((48 : Int32) - ((2 : Int32) * a2)).toInt64 &&& 63)) <<< (((48 : Int32) - ((2 : Int32) * a2)).toInt64 &&& 63)), M))
set_option maxHeartbeats 4000000 in
set_option maxRecDepth 100000 in
theorem ok_X7_cut (N : Nat) {a0 : Int64} {a2 : Int32} {M : A_M} {r : Int64} {M' : A_M} (h : f_X7_cut N a0 a2 M = some (r, M')) : Runs yX7_cut cX7_cut 3 (some .long) 0 0 0 0 [.long a0, .int a2] M (some (.long r)) M' := by
  refine Runs.intro (by decide) (Nat.le_of_ble_eq_true rfl) (fun X C hnm hMC hMS => ?_)
  have C : Cx X cX7_cut RX7 3 (some .long) 0 0 := C
  show J X 3 0 [(0, .long a0), (2, .int a2)] [] M 0 0 (some (.long r)) M'
  unfold f_X7_cut at h
  refine J_iload_n (pc' := 1) C 1 dX7_cut_0 rfl rfl rfl ?_
  refine J_if_ne (tgt := 8) (pc' := 4) C dX7_cut_1 (by decide) rfl (fun c1 => ?_) (fun c1 => ?_)
  · rw [if_neg c1] at h
    refine J_lload_n (pc' := 9) C 0 dX7_cut_8 rfl rfl rfl ?_
    refine J_bipush (pc' := 11) (v := (48 : Int32)) C dX7_cut_9 rfl (by decide) ?_
    refine J_iconst (pc' := 12) (v := (2 : Int32)) C dX7_cut_11 rfl (by decide) ?_
    refine J_iload_n (pc' := 13) C 1 dX7_cut_12 rfl rfl rfl ?_
    refine J_imul (pc' := 14) C dX7_cut_13 rfl ?_
    refine J_isub (pc' := 15) C dX7_cut_14 rfl ?_
    refine J_lshr (pc' := 16) C dX7_cut_15 rfl ?_
    refine J_bipush (pc' := 18) (v := (48 : Int32)) C dX7_cut_16 rfl (by decide) ?_
    refine J_iconst (pc' := 19) (v := (2 : Int32)) C dX7_cut_18 rfl (by decide) ?_
    refine J_iload_n (pc' := 20) C 1 dX7_cut_19 rfl rfl rfl ?_
    refine J_imul (pc' := 21) C dX7_cut_20 rfl ?_
    refine J_isub (pc' := 22) C dX7_cut_21 rfl ?_
    refine J_lshl (pc' := 23) C dX7_cut_22 rfl ?_
    obtain ⟨rfl, rfl⟩ := rt2 h
    exact J_lret C dX7_cut_23 (Nat.zero_le _) (Nat.zero_le _)
  · rw [if_pos c1] at h
    refine J_lconst (pc' := 5) (v := (0 : Int64)) C dX7_cut_4 rfl (by decide) ?_
    refine J_goto (tgt := 23) C dX7_cut_5 (by decide) ?_
    obtain ⟨rfl, rfl⟩ := rt2 h
    exact J_lret C dX7_cut_23 (Nat.zero_le _) (Nat.zero_le _)
def f_X7_leadsTo_K37 (N : Nat) (k3 : Nat → Int64 → Int32 → Int32 → A_M → Option (Int32 × A_M)) (x0 : Nat) (x1 : Int64) (x3 : Int32) (x4 : Int32) (M : A_M) : Option (Int32 × A_M) :=
  k3 x0 x1 x3 (x4 + 1) M
set_option maxHeartbeats 4000000 in
set_option maxRecDepth 100000 in
theorem ok_X7_leadsTo_K37 {X : JX} (C : Cx X cX7_leadsTo RX7 5 (some .int) 1 24) (N : Nat) {k3 : Nat → Int64 → Int32 → Int32 → A_M → Option (Int32 × A_M)} (hk3 : ∀ (x0 : Nat) (x1 : Int64) (x3 : Int32) (x4 : Int32) (M : A_M) (r : Int32) (M' : A_M), k3 x0 x1 x3 x4 M = some (r, M') → J X 5 3 [(0, .ref x0), (1, .long x1), (3, .int x3), (4, .int x4)] [] M 0 0 (some (.int r)) M') : ∀ (x0 : Nat) (x1 : Int64) (x3 : Int32) (x4 : Int32) (M : A_M) (r : Int32) (M' : A_M), f_X7_leadsTo_K37 N k3 x0 x1 x3 x4 M = some (r, M') → J X 5 37 [(0, .ref x0), (1, .long x1), (3, .int x3), (4, .int x4)] [] M 0 0 (some (.int r)) M' := by
  intro x0 x1 x3 x4 M r M' h
  unfold f_X7_leadsTo_K37 at h
  refine J_iinc (pc' := 40) (lv' := [(4, .int (x4 + 1)), (0, .ref x0), (1, .long x1), (3, .int x3)]) C 3 dX7_leadsTo_37 rfl rfl rfl (by decide) rfl ?_
  refine J_goto (tgt := 3) C dX7_leadsTo_40 (by decide) ?_
  refine J_sub (lv' := [(0, .ref x0), (1, .long x1), (3, .int x3), (4, .int (x4 + 1))]) [1, 2, 3, 0] rfl ?_
  exact hk3 _ _ _ _ _ _ _ h
def f_X7_leadsTo_L3 (N : Nat) : Nat → Nat → Int64 → Int32 → Int32 → A_M → Option (Int32 × A_M)
  | 0, _, _, _, _, _ => none
  | n + 1, x0, x1, x3, x4, M =>
    (gI M x0 7 3).bind fun v6 =>
    if v6 ≤ x4 then
    ((chk M x0 7).bind fun _ =>
    bnd2 (f_X7_placeOf N x0 x1 x3 M) fun v46 M46 =>
    some (v46, M46))
    else
    ((gR M x0 7 8).bind fun v13 =>
    (ldI M v13 x4).bind fun v18 =>
    if v18 = x3 then
    ((gR M x0 7 7).bind fun v24 =>
    (ldJ M v24 x4).bind fun v29 =>
    if (lg_cmp v29 x1) = 0 then
    (some ((0 : Int32), M))
    else
    (f_X7_leadsTo_K37 N (f_X7_leadsTo_L3 N n) x0 x1 x3 x4 M))
    else
    (f_X7_leadsTo_K37 N (f_X7_leadsTo_L3 N n) x0 x1 x3 x4 M))
set_option maxHeartbeats 4000000 in
set_option maxRecDepth 100000 in
theorem ok_X7_leadsTo_L3 {X : JX} (C : Cx X cX7_leadsTo RX7 5 (some .int) 1 24) (N : Nat) : ∀ (n : Nat) (x0 : Nat) (x1 : Int64) (x3 : Int32) (x4 : Int32) (M : A_M) (r : Int32) (M' : A_M), f_X7_leadsTo_L3 N n x0 x1 x3 x4 M = some (r, M') → J X 5 3 [(0, .ref x0), (1, .long x1), (3, .int x3), (4, .int x4)] [] M 0 0 (some (.int r)) M' := by
  intro n
  induction n with
  | zero =>
    intro x0 x1 x3 x4 M r M' h
    cases h
  | succ n ih =>
    intro x0 x1 x3 x4 M r M' h
    rw [f_X7_leadsTo_L3] at h
    refine J_iload (pc' := 5) C 3 dX7_leadsTo_3 rfl rfl ?_
    refine J_aload_n (pc' := 6) C 0 dX7_leadsTo_5 rfl rfl rfl ?_
    obtain ⟨v6, e6, h⟩ := bd h
    refine jg_882 (pc' := 9) C dX7_leadsTo_6 rfl (gI_some e6) ?_
    refine J_icmp_ge (tgt := 43) (pc' := 12) C dX7_leadsTo_9 (by decide) rfl (fun c9 => ?_) (fun c9 => ?_)
    · rw [if_pos c9] at h
      refine J_aload_n (pc' := 44) C 0 dX7_leadsTo_43 rfl rfl rfl ?_
      refine J_lload_n (pc' := 45) C 1 dX7_leadsTo_44 rfl rfl rfl ?_
      refine J_iload_n (pc' := 46) C 2 dX7_leadsTo_45 rfl rfl rfl ?_
      obtain ⟨_, q46, h⟩ := bd h
      obtain ⟨v46, M46, e46, h⟩ := bd2 h
      refine J_cV (pc' := 49) (st := []) (st2 := [.int v46]) (cs2 := 0) (sl2 := 0) C 7 rfl rfl q46 (ok_X7_placeOf N e46) mw_X7_placeOf wq_1301 rfl dX7_leadsTo_46 rfl rfl (Nat.le_of_ble_eq_true rfl) (by decide) (by decide) rfl rfl rfl (Nat.zero_le _) (Nat.zero_le _) ?_
      obtain ⟨rfl, rfl⟩ := rt2 h
      exact J_iret C dX7_leadsTo_49 (Nat.zero_le _) (Nat.zero_le _)
    · rw [if_neg c9] at h
      refine J_aload_n (pc' := 13) C 0 dX7_leadsTo_12 rfl rfl rfl ?_
      obtain ⟨v13, e13, h⟩ := bd h
      refine jg_887 (pc' := 16) C dX7_leadsTo_13 rfl (gR_some e13) ?_
      refine J_iload (pc' := 18) C 3 dX7_leadsTo_16 rfl rfl ?_
      obtain ⟨v18, e18, h⟩ := bd h
      refine J_iald (pc' := 19) C dX7_leadsTo_18 rfl e18 ?_
      refine J_iload_n (pc' := 20) C 2 dX7_leadsTo_19 rfl rfl rfl ?_
      refine J_icmp_ne (tgt := 37) (pc' := 23) C dX7_leadsTo_20 (by decide) rfl (fun c20 => ?_) (fun c20 => ?_)
      · rw [if_neg c20] at h
        refine J_sub (lv' := [(0, .ref x0), (1, .long x1), (3, .int x3), (4, .int x4)]) [0, 1, 2, 3] rfl ?_
        exact ok_X7_leadsTo_K37 C N ih _ _ _ _ _ _ _ h
      · rw [if_pos c20] at h
        refine J_aload_n (pc' := 24) C 0 dX7_leadsTo_23 rfl rfl rfl ?_
        obtain ⟨v24, e24, h⟩ := bd h
        refine jg_886 (pc' := 27) C dX7_leadsTo_24 rfl (gR_some e24) ?_
        refine J_iload (pc' := 29) C 3 dX7_leadsTo_27 rfl rfl ?_
        obtain ⟨v29, e29, h⟩ := bd h
        refine J_lald (pc' := 30) C dX7_leadsTo_29 rfl e29 ?_
        refine J_lload_n (pc' := 31) C 1 dX7_leadsTo_30 rfl rfl rfl ?_
        refine J_lcmp (pc' := 32) C dX7_leadsTo_31 rfl ?_
        refine J_if_ne (tgt := 37) (pc' := 35) C dX7_leadsTo_32 (by decide) rfl (fun c32 => ?_) (fun c32 => ?_)
        · rw [if_neg c32] at h
          refine J_sub (lv' := [(0, .ref x0), (1, .long x1), (3, .int x3), (4, .int x4)]) [0, 1, 2, 3] rfl ?_
          exact ok_X7_leadsTo_K37 C N ih _ _ _ _ _ _ _ h
        · rw [if_pos c32] at h
          refine J_iconst (pc' := 36) (v := (0 : Int32)) C dX7_leadsTo_35 rfl (by decide) ?_
          obtain ⟨rfl, rfl⟩ := rt2 h
          exact J_iret C dX7_leadsTo_36 (Nat.zero_le _) (Nat.zero_le _)
def f_X7_leadsTo (N : Nat) (a0 : Nat) (a1 : Int64) (a3 : Int32) (M : A_M) : Option (Int32 × A_M) :=
  f_X7_leadsTo_L3 N N a0 a1 a3 (0 : Int32) M
set_option maxHeartbeats 4000000 in
set_option maxRecDepth 100000 in
theorem ok_X7_leadsTo (N : Nat) {a0 : Nat} {a1 : Int64} {a3 : Int32} {M : A_M} {r : Int32} {M' : A_M} (h : f_X7_leadsTo N a0 a1 a3 M = some (r, M')) : Runs yX7_leadsTo cX7_leadsTo 5 (some .int) 1 24 0 0 [.ref a0, .long a1, .int a3] M (some (.int r)) M' := by
  refine Runs.intro (by decide) (Nat.le_of_ble_eq_true rfl) (fun X C hnm hMC hMS => ?_)
  have C : Cx X cX7_leadsTo RX7 5 (some .int) 1 24 := C
  show J X 5 0 [(0, .ref a0), (1, .long a1), (3, .int a3)] [] M 0 0 (some (.int r)) M'
  unfold f_X7_leadsTo at h
  refine J_iconst (pc' := 1) (v := (0 : Int32)) C dX7_leadsTo_0 rfl (by decide) ?_
  refine J_istore (pc' := 3) (lv' := [(4, .int (0 : Int32)), (0, .ref a0), (1, .long a1), (3, .int a3)]) C dX7_leadsTo_1 rfl (by decide) rfl ?_
  refine J_sub (lv' := [(0, .ref a0), (1, .long a1), (3, .int a3), (4, .int (0 : Int32))]) [1, 2, 3, 0] rfl ?_
  exact ok_X7_leadsTo_L3 C N N _ _ _ _ _ _ _ h
def f_X7_findPlaces_K77 (N : Nat) (k7 : Nat → Int32 → A_M → Option A_M) (k17 : Nat → Int32 → Int32 → A_M → Option A_M) (x0 : Nat) (x1 : Int32) (x2 : Int32) (M : A_M) : Option A_M :=
  k17 x0 x1 (x2 + 1) M
set_option maxHeartbeats 4000000 in
set_option maxRecDepth 100000 in
theorem ok_X7_findPlaces_K77 {X : JX} (C : Cx X cX7_findPlaces RX7 5 none 2 48) (N : Nat) {k7 : Nat → Int32 → A_M → Option A_M} (hk7 : ∀ (x0 : Nat) (x1 : Int32) (M : A_M) (M' : A_M), k7 x0 x1 M = some M' → J X 5 7 [(0, .ref x0), (1, .int x1)] [] M 0 0 none M') {k17 : Nat → Int32 → Int32 → A_M → Option A_M} (hk17 : ∀ (x0 : Nat) (x1 : Int32) (x2 : Int32) (M : A_M) (M' : A_M), k17 x0 x1 x2 M = some M' → J X 5 17 [(0, .ref x0), (1, .int x1), (2, .int x2)] [] M 0 0 none M') : ∀ (x0 : Nat) (x1 : Int32) (x2 : Int32) (M : A_M) (M' : A_M), f_X7_findPlaces_K77 N k7 k17 x0 x1 x2 M = some M' → J X 5 77 [(0, .ref x0), (1, .int x1), (2, .int x2)] [] M 0 0 none M' := by
  intro x0 x1 x2 M M' h
  unfold f_X7_findPlaces_K77 at h
  refine J_iinc (pc' := 80) (lv' := [(2, .int (x2 + 1)), (0, .ref x0), (1, .int x1)]) C 2 dX7_findPlaces_77 rfl rfl rfl (by decide) rfl ?_
  refine J_goto (tgt := 17) C dX7_findPlaces_80 (by decide) ?_
  refine J_sub (lv' := [(0, .ref x0), (1, .int x1), (2, .int (x2 + 1))]) [1, 2, 0] rfl ?_
  exact hk17 _ _ _ _ _ h
def f_X7_findPlaces_K83 (N : Nat) (k7 : Nat → Int32 → A_M → Option A_M) (x0 : Nat) (x1 : Int32) (M : A_M) : Option A_M :=
  k7 x0 (x1 + 1) M
set_option maxHeartbeats 4000000 in
set_option maxRecDepth 100000 in
theorem ok_X7_findPlaces_K83 {X : JX} (C : Cx X cX7_findPlaces RX7 5 none 2 48) (N : Nat) {k7 : Nat → Int32 → A_M → Option A_M} (hk7 : ∀ (x0 : Nat) (x1 : Int32) (M : A_M) (M' : A_M), k7 x0 x1 M = some M' → J X 5 7 [(0, .ref x0), (1, .int x1)] [] M 0 0 none M') : ∀ (x0 : Nat) (x1 : Int32) (M : A_M) (M' : A_M), f_X7_findPlaces_K83 N k7 x0 x1 M = some M' → J X 5 83 [(0, .ref x0), (1, .int x1)] [] M 0 0 none M' := by
  intro x0 x1 M M' h
  unfold f_X7_findPlaces_K83 at h
  refine J_iinc (pc' := 86) (lv' := [(1, .int (x1 + 1)), (0, .ref x0)]) C 1 dX7_findPlaces_83 rfl rfl rfl (by decide) rfl ?_
  refine J_goto (tgt := 7) C dX7_findPlaces_86 (by decide) ?_
  refine J_sub (lv' := [(0, .ref x0), (1, .int (x1 + 1))]) [1, 0] rfl ?_
  exact hk7 _ _ _ _ h
def f_X7_findPlaces_L17 (N : Nat) (k7 : Nat → Int32 → A_M → Option A_M) : Nat → Nat → Int32 → Int32 → A_M → Option A_M
  | 0, _, _, _, _ => none
  | n + 1, x0, x1, x2, M =>
    (gR M x0 7 8).bind fun v19 =>
    (ldI M v19 x1).bind fun v23 =>
    if v23 ≤ x2 then
    (f_X7_findPlaces_K83 N k7 x0 x1 M)
    else
    ((gR M x0 7 7).bind fun v28 =>
    (ldJ M v28 x1).bind fun v32 =>
    bnd2 (f_X7_cut N v32 x2 M) fun v34 M34 =>
    (chk M34 x0 7).bind fun _ =>
    bnd2 (f_X7_placeOf N x0 v34 x2 M34) fun v41 M41 =>
    if 0 ≤ v41 then
    (f_X7_findPlaces_K77 N k7 (f_X7_findPlaces_L17 N k7 n) x0 x1 x2 M41)
    else
    ((gR M41 x0 7 38).bind fun v48 =>
    (gI M41 x0 7 40).bind fun v52 =>
    (stJ M41 v48 v52 v34).bind fun M56 =>
    (gR M56 x0 7 39).bind fun v58 =>
    (gI M56 x0 7 40).bind fun v62 =>
    (stI M56 v58 v62 x2).bind fun M66 =>
    (gI M66 x0 7 40).bind fun v69 =>
    (pV M66 x0 7 40 (.int (v69 + (1 : Int32)))).bind fun M74 =>
    f_X7_findPlaces_K77 N k7 (f_X7_findPlaces_L17 N k7 n) x0 x1 x2 M74))
set_option maxHeartbeats 4000000 in
set_option maxRecDepth 100000 in
theorem ok_X7_findPlaces_L17 {X : JX} (C : Cx X cX7_findPlaces RX7 5 none 2 48) (N : Nat) {k7 : Nat → Int32 → A_M → Option A_M} (hk7 : ∀ (x0 : Nat) (x1 : Int32) (M : A_M) (M' : A_M), k7 x0 x1 M = some M' → J X 5 7 [(0, .ref x0), (1, .int x1)] [] M 0 0 none M') : ∀ (n : Nat) (x0 : Nat) (x1 : Int32) (x2 : Int32) (M : A_M) (M' : A_M), f_X7_findPlaces_L17 N k7 n x0 x1 x2 M = some M' → J X 5 17 [(0, .ref x0), (1, .int x1), (2, .int x2)] [] M 0 0 none M' := by
  intro n
  induction n with
  | zero =>
    intro x0 x1 x2 M M' h
    cases h
  | succ n ih =>
    intro x0 x1 x2 M M' h
    rw [f_X7_findPlaces_L17] at h
    refine J_iload_n (pc' := 18) C 2 dX7_findPlaces_17 rfl rfl rfl ?_
    refine J_aload_n (pc' := 19) C 0 dX7_findPlaces_18 rfl rfl rfl ?_
    obtain ⟨v19, e19, h⟩ := bd h
    refine jg_887 (pc' := 22) C dX7_findPlaces_19 rfl (gR_some e19) ?_
    refine J_iload_n (pc' := 23) C 1 dX7_findPlaces_22 rfl rfl rfl ?_
    obtain ⟨v23, e23, h⟩ := bd h
    refine J_iald (pc' := 24) C dX7_findPlaces_23 rfl e23 ?_
    refine J_icmp_ge (tgt := 83) (pc' := 27) C dX7_findPlaces_24 (by decide) rfl (fun c24 => ?_) (fun c24 => ?_)
    · rw [if_pos c24] at h
      refine J_sub (lv' := [(0, .ref x0), (1, .int x1)]) [0, 1] rfl ?_
      exact ok_X7_findPlaces_K83 C N hk7 _ _ _ _ h
    · rw [if_neg c24] at h
      refine J_aload_n (pc' := 28) C 0 dX7_findPlaces_27 rfl rfl rfl ?_
      obtain ⟨v28, e28, h⟩ := bd h
      refine jg_886 (pc' := 31) C dX7_findPlaces_28 rfl (gR_some e28) ?_
      refine J_iload_n (pc' := 32) C 1 dX7_findPlaces_31 rfl rfl rfl ?_
      obtain ⟨v32, e32, h⟩ := bd h
      refine J_lald (pc' := 33) C dX7_findPlaces_32 rfl e32 ?_
      refine J_iload_n (pc' := 34) C 2 dX7_findPlaces_33 rfl rfl rfl ?_
      obtain ⟨v34, M34, e34, h⟩ := bd2 h
      refine J_cS (pc' := 37) (st := []) (st2 := [.long v34]) (cs2 := 0) (sl2 := 0) C (ok_X7_cut N e34) mw_X7_cut wq_1298 rfl dX7_findPlaces_34 rfl rfl (Nat.le_of_ble_eq_true rfl) (by decide) (by decide) rfl rfl rfl (Nat.zero_le _) (Nat.zero_le _) ?_
      refine J_lstore_n (pc' := 38) (lv' := [(3, .long v34), (0, .ref x0), (1, .int x1), (2, .int x2)]) C dX7_findPlaces_37 rfl rfl (by decide) rfl ?_
      refine J_aload_n (pc' := 39) C 1 dX7_findPlaces_38 rfl rfl rfl ?_
      refine J_lload_n (pc' := 40) C 0 dX7_findPlaces_39 rfl rfl rfl ?_
      refine J_iload_n (pc' := 41) C 3 dX7_findPlaces_40 rfl rfl rfl ?_
      obtain ⟨_, q41, h⟩ := bd h
      obtain ⟨v41, M41, e41, h⟩ := bd2 h
      refine J_cV (pc' := 44) (st := []) (st2 := [.int v41]) (cs2 := 0) (sl2 := 0) C 7 rfl rfl q41 (ok_X7_placeOf N e41) mw_X7_placeOf wq_1301 rfl dX7_findPlaces_41 rfl rfl (Nat.le_of_ble_eq_true rfl) (by decide) (by decide) rfl rfl rfl (Nat.zero_le _) (Nat.zero_le _) ?_
      refine J_if_ge (tgt := 77) (pc' := 47) C dX7_findPlaces_44 (by decide) rfl (fun c44 => ?_) (fun c44 => ?_)
      · rw [if_pos c44] at h
        refine J_sub (lv' := [(0, .ref x0), (1, .int x1), (2, .int x2)]) [1, 2, 3] rfl ?_
        exact ok_X7_findPlaces_K77 C N hk7 ih _ _ _ _ _ h
      · rw [if_neg c44] at h
        refine J_aload_n (pc' := 48) C 1 dX7_findPlaces_47 rfl rfl rfl ?_
        obtain ⟨v48, e48, h⟩ := bd h
        refine jg_917 (pc' := 51) C dX7_findPlaces_48 rfl (gR_some e48) ?_
        refine J_aload_n (pc' := 52) C 1 dX7_findPlaces_51 rfl rfl rfl ?_
        obtain ⟨v52, e52, h⟩ := bd h
        refine jg_919 (pc' := 55) C dX7_findPlaces_52 rfl (gI_some e52) ?_
        refine J_lload_n (pc' := 56) C 0 dX7_findPlaces_55 rfl rfl rfl ?_
        obtain ⟨M56, e56, h⟩ := bd h
        refine J_last (pc' := 57) C dX7_findPlaces_56 rfl e56 ?_
        refine J_aload_n (pc' := 58) C 1 dX7_findPlaces_57 rfl rfl rfl ?_
        obtain ⟨v58, e58, h⟩ := bd h
        refine jg_918 (pc' := 61) C dX7_findPlaces_58 rfl (gR_some e58) ?_
        refine J_aload_n (pc' := 62) C 1 dX7_findPlaces_61 rfl rfl rfl ?_
        obtain ⟨v62, e62, h⟩ := bd h
        refine jg_919 (pc' := 65) C dX7_findPlaces_62 rfl (gI_some e62) ?_
        refine J_iload_n (pc' := 66) C 3 dX7_findPlaces_65 rfl rfl rfl ?_
        obtain ⟨M66, e66, h⟩ := bd h
        refine J_iast (pc' := 67) C dX7_findPlaces_66 rfl e66 ?_
        refine J_aload_n (pc' := 68) C 1 dX7_findPlaces_67 rfl rfl rfl ?_
        refine J_dup (pc' := 69) C dX7_findPlaces_68 rfl rfl ?_
        obtain ⟨v69, e69, h⟩ := bd h
        refine jg_919 (pc' := 72) C dX7_findPlaces_69 rfl (gI_some e69) ?_
        refine J_iconst (pc' := 73) (v := (1 : Int32)) C dX7_findPlaces_72 rfl (by decide) ?_
        refine J_iadd (pc' := 74) C dX7_findPlaces_73 rfl ?_
        obtain ⟨M74, e74, h⟩ := bd h
        refine jp_919 (pc' := 77) C (fun _ => ⟨rfl, rfl⟩) dX7_findPlaces_74 rfl e74 ?_
        refine J_sub (lv' := [(0, .ref x0), (1, .int x1), (2, .int x2)]) [1, 2, 3] rfl ?_
        exact ok_X7_findPlaces_K77 C N hk7 ih _ _ _ _ _ h
def f_X7_findPlaces_K153 (N : Nat) (k91 : Nat → Int32 → A_M → Option A_M) (x0 : Nat) (x1 : Int32) (M : A_M) : Option A_M :=
  k91 x0 (x1 + 1) M
set_option maxHeartbeats 4000000 in
set_option maxRecDepth 100000 in
theorem ok_X7_findPlaces_K153 {X : JX} (C : Cx X cX7_findPlaces RX7 5 none 2 48) (N : Nat) {k91 : Nat → Int32 → A_M → Option A_M} (hk91 : ∀ (x0 : Nat) (x1 : Int32) (M : A_M) (M' : A_M), k91 x0 x1 M = some M' → J X 5 91 [(0, .ref x0), (1, .int x1)] [] M 0 0 none M') : ∀ (x0 : Nat) (x1 : Int32) (M : A_M) (M' : A_M), f_X7_findPlaces_K153 N k91 x0 x1 M = some M' → J X 5 153 [(0, .ref x0), (1, .int x1)] [] M 0 0 none M' := by
  intro x0 x1 M M' h
  unfold f_X7_findPlaces_K153 at h
  refine J_iinc (pc' := 156) (lv' := [(1, .int (x1 + 1)), (0, .ref x0)]) C 1 dX7_findPlaces_153 rfl rfl rfl (by decide) rfl ?_
  refine J_goto (tgt := 91) C dX7_findPlaces_156 (by decide) ?_
  refine J_sub (lv' := [(0, .ref x0), (1, .int (x1 + 1))]) [1, 0] rfl ?_
  exact hk91 _ _ _ _ h
def f_X7_findPlaces_L101 (N : Nat) (k91 : Nat → Int32 → A_M → Option A_M) : Nat → Nat → Int32 → Int32 → A_M → Option A_M
  | 0, _, _, _, _ => none
  | n + 1, x0, x1, x2, M =>
    (gI M x0 7 1).bind fun v103 =>
    if v103 ≤ x2 then
    (f_X7_findPlaces_K153 N k91 x0 x1 M)
    else
    ((gR M x0 7 41).bind fun v110 =>
    (gR M x0 7 38).bind fun v120 =>
    (ldJ M v120 x1).bind fun v124 =>
    (gR M x0 7 39).bind fun v126 =>
    (ldI M v126 x1).bind fun v130 =>
    bnd2 (f_X7_with N v124 v130 x2 M) fun v132 M132 =>
    (gR M132 x0 7 39).bind fun v136 =>
    (ldI M132 v136 x1).bind fun v140 =>
    (chk M132 x0 7).bind fun _ =>
    bnd2 (f_X7_leadsTo N x0 v132 (v140 + (1 : Int32)) M132) fun v143 M143 =>
    (stI M143 v110 (((4 : Int32) * x1) + x2) v143).bind fun M146 =>
    f_X7_findPlaces_L101 N k91 n x0 x1 (x2 + 1) M146)
set_option maxHeartbeats 4000000 in
set_option maxRecDepth 100000 in
theorem ok_X7_findPlaces_L101 {X : JX} (C : Cx X cX7_findPlaces RX7 5 none 2 48) (N : Nat) {k91 : Nat → Int32 → A_M → Option A_M} (hk91 : ∀ (x0 : Nat) (x1 : Int32) (M : A_M) (M' : A_M), k91 x0 x1 M = some M' → J X 5 91 [(0, .ref x0), (1, .int x1)] [] M 0 0 none M') : ∀ (n : Nat) (x0 : Nat) (x1 : Int32) (x2 : Int32) (M : A_M) (M' : A_M), f_X7_findPlaces_L101 N k91 n x0 x1 x2 M = some M' → J X 5 101 [(0, .ref x0), (1, .int x1), (2, .int x2)] [] M 0 0 none M' := by
  intro n
  induction n with
  | zero =>
    intro x0 x1 x2 M M' h
    cases h
  | succ n ih =>
    intro x0 x1 x2 M M' h
    rw [f_X7_findPlaces_L101] at h
    refine J_iload_n (pc' := 102) C 2 dX7_findPlaces_101 rfl rfl rfl ?_
    refine J_aload_n (pc' := 103) C 0 dX7_findPlaces_102 rfl rfl rfl ?_
    obtain ⟨v103, e103, h⟩ := bd h
    refine jg_880 (pc' := 106) C dX7_findPlaces_103 rfl (gI_some e103) ?_
    refine J_icmp_ge (tgt := 153) (pc' := 109) C dX7_findPlaces_106 (by decide) rfl (fun c106 => ?_) (fun c106 => ?_)
    · rw [if_pos c106] at h
      refine J_sub (lv' := [(0, .ref x0), (1, .int x1)]) [0, 1] rfl ?_
      exact ok_X7_findPlaces_K153 C N hk91 _ _ _ _ h
    · rw [if_neg c106] at h
      refine J_aload_n (pc' := 110) C 0 dX7_findPlaces_109 rfl rfl rfl ?_
      obtain ⟨v110, e110, h⟩ := bd h
      refine jg_920 (pc' := 113) C dX7_findPlaces_110 rfl (gR_some e110) ?_
      refine J_iconst (pc' := 114) (v := (4 : Int32)) C dX7_findPlaces_113 rfl (by decide) ?_
      refine J_iload_n (pc' := 115) C 1 dX7_findPlaces_114 rfl rfl rfl ?_
      refine J_imul (pc' := 116) C dX7_findPlaces_115 rfl ?_
      refine J_iload_n (pc' := 117) C 2 dX7_findPlaces_116 rfl rfl rfl ?_
      refine J_iadd (pc' := 118) C dX7_findPlaces_117 rfl ?_
      refine J_aload_n (pc' := 119) C 0 dX7_findPlaces_118 rfl rfl rfl ?_
      refine J_aload_n (pc' := 120) C 0 dX7_findPlaces_119 rfl rfl rfl ?_
      obtain ⟨v120, e120, h⟩ := bd h
      refine jg_917 (pc' := 123) C dX7_findPlaces_120 rfl (gR_some e120) ?_
      refine J_iload_n (pc' := 124) C 1 dX7_findPlaces_123 rfl rfl rfl ?_
      obtain ⟨v124, e124, h⟩ := bd h
      refine J_lald (pc' := 125) C dX7_findPlaces_124 rfl e124 ?_
      refine J_aload_n (pc' := 126) C 0 dX7_findPlaces_125 rfl rfl rfl ?_
      obtain ⟨v126, e126, h⟩ := bd h
      refine jg_918 (pc' := 129) C dX7_findPlaces_126 rfl (gR_some e126) ?_
      refine J_iload_n (pc' := 130) C 1 dX7_findPlaces_129 rfl rfl rfl ?_
      obtain ⟨v130, e130, h⟩ := bd h
      refine J_iald (pc' := 131) C dX7_findPlaces_130 rfl e130 ?_
      refine J_iload_n (pc' := 132) C 2 dX7_findPlaces_131 rfl rfl rfl ?_
      obtain ⟨v132, M132, e132, h⟩ := bd2 h
      refine J_cS (pc' := 135) (st := [.ref x0, .int (((4 : Int32) * x1) + x2), .ref v110]) (st2 := [.long v132, .ref x0, .int (((4 : Int32) * x1) + x2), .ref v110]) (cs2 := 0) (sl2 := 0) C (ok_X7_with N e132) mw_X7_with wq_1186 rfl dX7_findPlaces_132 rfl rfl (Nat.le_of_ble_eq_true rfl) (by decide) (by decide) rfl rfl rfl (Nat.zero_le _) (Nat.zero_le _) ?_
      refine J_aload_n (pc' := 136) C 0 dX7_findPlaces_135 rfl rfl rfl ?_
      obtain ⟨v136, e136, h⟩ := bd h
      refine jg_918 (pc' := 139) C dX7_findPlaces_136 rfl (gR_some e136) ?_
      refine J_iload_n (pc' := 140) C 1 dX7_findPlaces_139 rfl rfl rfl ?_
      obtain ⟨v140, e140, h⟩ := bd h
      refine J_iald (pc' := 141) C dX7_findPlaces_140 rfl e140 ?_
      refine J_iconst (pc' := 142) (v := (1 : Int32)) C dX7_findPlaces_141 rfl (by decide) ?_
      refine J_iadd (pc' := 143) C dX7_findPlaces_142 rfl ?_
      obtain ⟨_, q143, h⟩ := bd h
      obtain ⟨v143, M143, e143, h⟩ := bd2 h
      refine J_cV (pc' := 146) (st := [.int (((4 : Int32) * x1) + x2), .ref v110]) (st2 := [.int v143, .int (((4 : Int32) * x1) + x2), .ref v110]) (cs2 := 0) (sl2 := 0) C 7 rfl rfl q143 (ok_X7_leadsTo N e143) mw_X7_leadsTo wq_1305 rfl dX7_findPlaces_143 rfl rfl (Nat.le_of_ble_eq_true rfl) (by decide) (by decide) rfl rfl rfl (Nat.zero_le _) (Nat.zero_le _) ?_
      obtain ⟨M146, e146, h⟩ := bd h
      refine J_iast (pc' := 147) C dX7_findPlaces_146 rfl e146 ?_
      refine J_iinc (pc' := 150) (lv' := [(2, .int (x2 + 1)), (0, .ref x0), (1, .int x1)]) C 2 dX7_findPlaces_147 rfl rfl rfl (by decide) rfl ?_
      refine J_goto (tgt := 101) C dX7_findPlaces_150 (by decide) ?_
      refine J_sub (lv' := [(0, .ref x0), (1, .int x1), (2, .int (x2 + 1))]) [1, 2, 0] rfl ?_
      exact ih _ _ _ _ _ h
def f_X7_findPlaces_L91 (N : Nat) : Nat → Nat → Int32 → A_M → Option A_M
  | 0, _, _, _ => none
  | n + 1, x0, x1, M =>
    (gI M x0 7 40).bind fun v93 =>
    if v93 ≤ x1 then
    (some M)
    else
    (f_X7_findPlaces_L101 N (f_X7_findPlaces_L91 N n) N x0 x1 (0 : Int32) M)
set_option maxHeartbeats 4000000 in
set_option maxRecDepth 100000 in
theorem ok_X7_findPlaces_L91 {X : JX} (C : Cx X cX7_findPlaces RX7 5 none 2 48) (N : Nat) : ∀ (n : Nat) (x0 : Nat) (x1 : Int32) (M : A_M) (M' : A_M), f_X7_findPlaces_L91 N n x0 x1 M = some M' → J X 5 91 [(0, .ref x0), (1, .int x1)] [] M 0 0 none M' := by
  intro n
  induction n with
  | zero =>
    intro x0 x1 M M' h
    cases h
  | succ n ih =>
    intro x0 x1 M M' h
    rw [f_X7_findPlaces_L91] at h
    refine J_iload_n (pc' := 92) C 1 dX7_findPlaces_91 rfl rfl rfl ?_
    refine J_aload_n (pc' := 93) C 0 dX7_findPlaces_92 rfl rfl rfl ?_
    obtain ⟨v93, e93, h⟩ := bd h
    refine jg_919 (pc' := 96) C dX7_findPlaces_93 rfl (gI_some e93) ?_
    refine J_icmp_ge (tgt := 159) (pc' := 99) C dX7_findPlaces_96 (by decide) rfl (fun c96 => ?_) (fun c96 => ?_)
    · rw [if_pos c96] at h
      obtain rfl := rt1 h
      exact J_vret C dX7_findPlaces_159 (Nat.zero_le _) (Nat.zero_le _)
    · rw [if_neg c96] at h
      refine J_iconst (pc' := 100) (v := (0 : Int32)) C dX7_findPlaces_99 rfl (by decide) ?_
      refine J_istore_n (pc' := 101) (lv' := [(2, .int (0 : Int32)), (0, .ref x0), (1, .int x1)]) C dX7_findPlaces_100 rfl rfl (by decide) rfl ?_
      refine J_sub (lv' := [(0, .ref x0), (1, .int x1), (2, .int (0 : Int32))]) [1, 2, 0] rfl ?_
      exact ok_X7_findPlaces_L101 C N ih N _ _ _ _ _ h
def f_X7_findPlaces_K89 (N : Nat) (x0 : Nat) (M : A_M) : Option A_M :=
  f_X7_findPlaces_L91 N N x0 (0 : Int32) M
set_option maxHeartbeats 4000000 in
set_option maxRecDepth 100000 in
theorem ok_X7_findPlaces_K89 {X : JX} (C : Cx X cX7_findPlaces RX7 5 none 2 48) (N : Nat) : ∀ (x0 : Nat) (M : A_M) (M' : A_M), f_X7_findPlaces_K89 N x0 M = some M' → J X 5 89 [(0, .ref x0)] [] M 0 0 none M' := by
  intro x0 M M' h
  unfold f_X7_findPlaces_K89 at h
  refine J_iconst (pc' := 90) (v := (0 : Int32)) C dX7_findPlaces_89 rfl (by decide) ?_
  refine J_istore_n (pc' := 91) (lv' := [(1, .int (0 : Int32)), (0, .ref x0)]) C dX7_findPlaces_90 rfl rfl (by decide) rfl ?_
  refine J_sub (lv' := [(0, .ref x0), (1, .int (0 : Int32))]) [1, 0] rfl ?_
  exact ok_X7_findPlaces_L91 C N N _ _ _ _ h
def f_X7_findPlaces_L7 (N : Nat) : Nat → Nat → Int32 → A_M → Option A_M
  | 0, _, _, _ => none
  | n + 1, x0, x1, M =>
    (gI M x0 7 3).bind fun v9 =>
    if v9 ≤ x1 then
    (f_X7_findPlaces_K89 N x0 M)
    else
    (f_X7_findPlaces_L17 N (f_X7_findPlaces_L7 N n) N x0 x1 (0 : Int32) M)
set_option maxHeartbeats 4000000 in
set_option maxRecDepth 100000 in
theorem ok_X7_findPlaces_L7 {X : JX} (C : Cx X cX7_findPlaces RX7 5 none 2 48) (N : Nat) : ∀ (n : Nat) (x0 : Nat) (x1 : Int32) (M : A_M) (M' : A_M), f_X7_findPlaces_L7 N n x0 x1 M = some M' → J X 5 7 [(0, .ref x0), (1, .int x1)] [] M 0 0 none M' := by
  intro n
  induction n with
  | zero =>
    intro x0 x1 M M' h
    cases h
  | succ n ih =>
    intro x0 x1 M M' h
    rw [f_X7_findPlaces_L7] at h
    refine J_iload_n (pc' := 8) C 1 dX7_findPlaces_7 rfl rfl rfl ?_
    refine J_aload_n (pc' := 9) C 0 dX7_findPlaces_8 rfl rfl rfl ?_
    obtain ⟨v9, e9, h⟩ := bd h
    refine jg_882 (pc' := 12) C dX7_findPlaces_9 rfl (gI_some e9) ?_
    refine J_icmp_ge (tgt := 89) (pc' := 15) C dX7_findPlaces_12 (by decide) rfl (fun c12 => ?_) (fun c12 => ?_)
    · rw [if_pos c12] at h
      refine J_sub (lv' := [(0, .ref x0)]) [0] rfl ?_
      exact ok_X7_findPlaces_K89 C N _ _ _ h
    · rw [if_neg c12] at h
      refine J_iconst (pc' := 16) (v := (0 : Int32)) C dX7_findPlaces_15 rfl (by decide) ?_
      refine J_istore_n (pc' := 17) (lv' := [(2, .int (0 : Int32)), (0, .ref x0), (1, .int x1)]) C dX7_findPlaces_16 rfl rfl (by decide) rfl ?_
      refine J_sub (lv' := [(0, .ref x0), (1, .int x1), (2, .int (0 : Int32))]) [1, 2, 0] rfl ?_
      exact ok_X7_findPlaces_L17 C N ih N _ _ _ _ _ h
def f_X7_findPlaces (N : Nat) (a0 : Nat) (M : A_M) : Option A_M :=
  (pV M a0 7 40 (.int (0 : Int32))).bind fun M2 =>
  f_X7_findPlaces_L7 N N a0 (0 : Int32) M2
set_option maxHeartbeats 4000000 in
set_option maxRecDepth 100000 in
theorem ok_X7_findPlaces (N : Nat) {a0 : Nat} {M : A_M} {M' : A_M} (h : f_X7_findPlaces N a0 M = some M') : Runs yX7_findPlaces cX7_findPlaces 5 none 2 48 0 0 [.ref a0] M none M' := by
  refine Runs.intro (by decide) (Nat.le_of_ble_eq_true rfl) (fun X C hnm hMC hMS => ?_)
  have C : Cx X cX7_findPlaces RX7 5 none 2 48 := C
  show J X 5 0 [(0, .ref a0)] [] M 0 0 none M'
  unfold f_X7_findPlaces at h
  refine J_aload_n (pc' := 1) C 0 dX7_findPlaces_0 rfl rfl rfl ?_
  refine J_iconst (pc' := 2) (v := (0 : Int32)) C dX7_findPlaces_1 rfl (by decide) ?_
  obtain ⟨M2, e2, h⟩ := bd h
  refine jp_919 (pc' := 5) C (fun _ => ⟨rfl, rfl⟩) dX7_findPlaces_2 rfl e2 ?_
  refine J_iconst (pc' := 6) (v := (0 : Int32)) C dX7_findPlaces_5 rfl (by decide) ?_
  refine J_istore_n (pc' := 7) (lv' := [(1, .int (0 : Int32)), (0, .ref a0)]) C dX7_findPlaces_6 rfl rfl (by decide) rfl ?_
  refine J_sub (lv' := [(0, .ref a0), (1, .int (0 : Int32))]) [1, 0] rfl ?_
  exact ok_X7_findPlaces_L7 C N N _ _ _ _ h
def f_X7_full_K75 (N : Nat) (k28 : Nat → Int32 → Int32 → A_M → Option (Int32 × A_M)) (x0 : Nat) (x1 : Int32) (x2 : Int32) (M : A_M) : Option (Int32 × A_M) :=
  k28 x0 x1 (x2 + 1) M
set_option maxHeartbeats 4000000 in
set_option maxRecDepth 100000 in
theorem ok_X7_full_K75 {X : JX} (C : Cx X cX7_full RX7 4 (some .int) 4 96) (N : Nat) {k28 : Nat → Int32 → Int32 → A_M → Option (Int32 × A_M)} (hk28 : ∀ (x0 : Nat) (x1 : Int32) (x2 : Int32) (M : A_M) (r : Int32) (M' : A_M), k28 x0 x1 x2 M = some (r, M') → J X 4 28 [(0, .ref x0), (1, .int x1), (2, .int x2)] [] M 0 0 (some (.int r)) M') : ∀ (x0 : Nat) (x1 : Int32) (x2 : Int32) (M : A_M) (r : Int32) (M' : A_M), f_X7_full_K75 N k28 x0 x1 x2 M = some (r, M') → J X 4 75 [(0, .ref x0), (1, .int x1), (2, .int x2)] [] M 0 0 (some (.int r)) M' := by
  intro x0 x1 x2 M r M' h
  unfold f_X7_full_K75 at h
  refine J_iinc (pc' := 78) (lv' := [(2, .int (x2 + 1)), (0, .ref x0), (1, .int x1)]) C 2 dX7_full_75 rfl rfl rfl (by decide) rfl ?_
  refine J_goto (tgt := 28) C dX7_full_78 (by decide) ?_
  refine J_sub (lv' := [(0, .ref x0), (1, .int x1), (2, .int (x2 + 1))]) [1, 2, 0] rfl ?_
  exact hk28 _ _ _ _ _ _ h
def f_X7_full_K68 (N : Nat) (k28 : Nat → Int32 → Int32 → A_M → Option (Int32 × A_M)) (k38 : Nat → Int32 → Int32 → Int32 → A_M → Option (Int32 × A_M)) (x0 : Nat) (x2 : Int32) (x3 : Int32) (s0 : Int32) (M : A_M) : Option (Int32 × A_M) :=
  k38 x0 s0 x2 (x3 + 1) M
set_option maxHeartbeats 4000000 in
set_option maxRecDepth 100000 in
theorem ok_X7_full_K68 {X : JX} (C : Cx X cX7_full RX7 4 (some .int) 4 96) (N : Nat) {k28 : Nat → Int32 → Int32 → A_M → Option (Int32 × A_M)} (hk28 : ∀ (x0 : Nat) (x1 : Int32) (x2 : Int32) (M : A_M) (r : Int32) (M' : A_M), k28 x0 x1 x2 M = some (r, M') → J X 4 28 [(0, .ref x0), (1, .int x1), (2, .int x2)] [] M 0 0 (some (.int r)) M') {k38 : Nat → Int32 → Int32 → Int32 → A_M → Option (Int32 × A_M)} (hk38 : ∀ (x0 : Nat) (x1 : Int32) (x2 : Int32) (x3 : Int32) (M : A_M) (r : Int32) (M' : A_M), k38 x0 x1 x2 x3 M = some (r, M') → J X 4 38 [(0, .ref x0), (1, .int x1), (2, .int x2), (3, .int x3)] [] M 0 0 (some (.int r)) M') : ∀ (x0 : Nat) (x2 : Int32) (x3 : Int32) (s0 : Int32) (M : A_M) (r : Int32) (M' : A_M), f_X7_full_K68 N k28 k38 x0 x2 x3 s0 M = some (r, M') → J X 4 68 [(0, .ref x0), (2, .int x2), (3, .int x3)] [.int s0] M 0 0 (some (.int r)) M' := by
  intro x0 x2 x3 s0 M r M' h
  unfold f_X7_full_K68 at h
  refine J_istore_n (pc' := 69) (lv' := [(1, .int s0), (0, .ref x0), (2, .int x2), (3, .int x3)]) C dX7_full_68 rfl rfl (by decide) rfl ?_
  refine J_iinc (pc' := 72) (lv' := [(3, .int (x3 + 1)), (1, .int s0), (0, .ref x0), (2, .int x2)]) C 3 dX7_full_69 rfl rfl rfl (by decide) rfl ?_
  refine J_goto (tgt := 38) C dX7_full_72 (by decide) ?_
  refine J_sub (lv' := [(0, .ref x0), (1, .int s0), (2, .int x2), (3, .int (x3 + 1))]) [2, 1, 3, 0] rfl ?_
  exact hk38 _ _ _ _ _ _ _ h
def f_X7_full_K67 (N : Nat) (k28 : Nat → Int32 → Int32 → A_M → Option (Int32 × A_M)) (k38 : Nat → Int32 → Int32 → Int32 → A_M → Option (Int32 × A_M)) (x0 : Nat) (x2 : Int32) (x3 : Int32) (M : A_M) : Option (Int32 × A_M) :=
  f_X7_full_K68 N k28 k38 x0 x2 x3 (0 : Int32) M
set_option maxHeartbeats 4000000 in
set_option maxRecDepth 100000 in
theorem ok_X7_full_K67 {X : JX} (C : Cx X cX7_full RX7 4 (some .int) 4 96) (N : Nat) {k28 : Nat → Int32 → Int32 → A_M → Option (Int32 × A_M)} (hk28 : ∀ (x0 : Nat) (x1 : Int32) (x2 : Int32) (M : A_M) (r : Int32) (M' : A_M), k28 x0 x1 x2 M = some (r, M') → J X 4 28 [(0, .ref x0), (1, .int x1), (2, .int x2)] [] M 0 0 (some (.int r)) M') {k38 : Nat → Int32 → Int32 → Int32 → A_M → Option (Int32 × A_M)} (hk38 : ∀ (x0 : Nat) (x1 : Int32) (x2 : Int32) (x3 : Int32) (M : A_M) (r : Int32) (M' : A_M), k38 x0 x1 x2 x3 M = some (r, M') → J X 4 38 [(0, .ref x0), (1, .int x1), (2, .int x2), (3, .int x3)] [] M 0 0 (some (.int r)) M') : ∀ (x0 : Nat) (x2 : Int32) (x3 : Int32) (M : A_M) (r : Int32) (M' : A_M), f_X7_full_K67 N k28 k38 x0 x2 x3 M = some (r, M') → J X 4 67 [(0, .ref x0), (2, .int x2), (3, .int x3)] [] M 0 0 (some (.int r)) M' := by
  intro x0 x2 x3 M r M' h
  unfold f_X7_full_K67 at h
  refine J_iconst (pc' := 68) (v := (0 : Int32)) C dX7_full_67 rfl (by decide) ?_
  refine J_sub (lv' := [(0, .ref x0), (2, .int x2), (3, .int x3)]) [0, 1, 2] rfl ?_
  exact ok_X7_full_K68 C N hk28 hk38 _ _ _ _ _ _ _ h
def f_X7_full_L38 (N : Nat) (k28 : Nat → Int32 → Int32 → A_M → Option (Int32 × A_M)) : Nat → Nat → Int32 → Int32 → Int32 → A_M → Option (Int32 × A_M)
  | 0, _, _, _, _, _ => none
  | n + 1, x0, x1, x2, x3, M =>
    (gI M x0 7 1).bind fun v40 =>
    if v40 ≤ x3 then
    (f_X7_full_K75 N k28 x0 x1 x2 M)
    else
    (if x1 = 0 then
    (f_X7_full_K67 N k28 (f_X7_full_L38 N k28 n) x0 x2 x3 M)
    else
    ((gR M x0 7 41).bind fun v51 =>
    (ldI M v51 (((4 : Int32) * x2) + x3)).bind fun v59 =>
    if v59 < 0 then
    (f_X7_full_K67 N k28 (f_X7_full_L38 N k28 n) x0 x2 x3 M)
    else
    (f_X7_full_K68 N k28 (f_X7_full_L38 N k28 n) x0 x2 x3 (1 : Int32) M)))
set_option maxHeartbeats 4000000 in
set_option maxRecDepth 100000 in
theorem ok_X7_full_L38 {X : JX} (C : Cx X cX7_full RX7 4 (some .int) 4 96) (N : Nat) {k28 : Nat → Int32 → Int32 → A_M → Option (Int32 × A_M)} (hk28 : ∀ (x0 : Nat) (x1 : Int32) (x2 : Int32) (M : A_M) (r : Int32) (M' : A_M), k28 x0 x1 x2 M = some (r, M') → J X 4 28 [(0, .ref x0), (1, .int x1), (2, .int x2)] [] M 0 0 (some (.int r)) M') : ∀ (n : Nat) (x0 : Nat) (x1 : Int32) (x2 : Int32) (x3 : Int32) (M : A_M) (r : Int32) (M' : A_M), f_X7_full_L38 N k28 n x0 x1 x2 x3 M = some (r, M') → J X 4 38 [(0, .ref x0), (1, .int x1), (2, .int x2), (3, .int x3)] [] M 0 0 (some (.int r)) M' := by
  intro n
  induction n with
  | zero =>
    intro x0 x1 x2 x3 M r M' h
    cases h
  | succ n ih =>
    intro x0 x1 x2 x3 M r M' h
    rw [f_X7_full_L38] at h
    refine J_iload_n (pc' := 39) C 3 dX7_full_38 rfl rfl rfl ?_
    refine J_aload_n (pc' := 40) C 0 dX7_full_39 rfl rfl rfl ?_
    obtain ⟨v40, e40, h⟩ := bd h
    refine jg_880 (pc' := 43) C dX7_full_40 rfl (gI_some e40) ?_
    refine J_icmp_ge (tgt := 75) (pc' := 46) C dX7_full_43 (by decide) rfl (fun c43 => ?_) (fun c43 => ?_)
    · rw [if_pos c43] at h
      refine J_sub (lv' := [(0, .ref x0), (1, .int x1), (2, .int x2)]) [0, 1, 2] rfl ?_
      exact ok_X7_full_K75 C N hk28 _ _ _ _ _ _ h
    · rw [if_neg c43] at h
      refine J_iload_n (pc' := 47) C 1 dX7_full_46 rfl rfl rfl ?_
      refine J_if_eq (tgt := 67) (pc' := 50) C dX7_full_47 (by decide) rfl (fun c47 => ?_) (fun c47 => ?_)
      · rw [if_pos c47] at h
        refine J_sub (lv' := [(0, .ref x0), (2, .int x2), (3, .int x3)]) [0, 2, 3] rfl ?_
        exact ok_X7_full_K67 C N hk28 ih _ _ _ _ _ _ h
      · rw [if_neg c47] at h
        refine J_aload_n (pc' := 51) C 0 dX7_full_50 rfl rfl rfl ?_
        obtain ⟨v51, e51, h⟩ := bd h
        refine jg_920 (pc' := 54) C dX7_full_51 rfl (gR_some e51) ?_
        refine J_iconst (pc' := 55) (v := (4 : Int32)) C dX7_full_54 rfl (by decide) ?_
        refine J_iload_n (pc' := 56) C 2 dX7_full_55 rfl rfl rfl ?_
        refine J_imul (pc' := 57) C dX7_full_56 rfl ?_
        refine J_iload_n (pc' := 58) C 3 dX7_full_57 rfl rfl rfl ?_
        refine J_iadd (pc' := 59) C dX7_full_58 rfl ?_
        obtain ⟨v59, e59, h⟩ := bd h
        refine J_iald (pc' := 60) C dX7_full_59 rfl e59 ?_
        refine J_if_lt (tgt := 67) (pc' := 63) C dX7_full_60 (by decide) rfl (fun c60 => ?_) (fun c60 => ?_)
        · rw [if_pos c60] at h
          refine J_sub (lv' := [(0, .ref x0), (2, .int x2), (3, .int x3)]) [0, 2, 3] rfl ?_
          exact ok_X7_full_K67 C N hk28 ih _ _ _ _ _ _ h
        · rw [if_neg c60] at h
          refine J_iconst (pc' := 64) (v := (1 : Int32)) C dX7_full_63 rfl (by decide) ?_
          refine J_goto (tgt := 68) C dX7_full_64 (by decide) ?_
          refine J_sub (lv' := [(0, .ref x0), (2, .int x2), (3, .int x3)]) [0, 2, 3] rfl ?_
          exact ok_X7_full_K68 C N hk28 ih _ _ _ _ _ _ _ h
def f_X7_full_L28 (N : Nat) : Nat → Nat → Int32 → Int32 → A_M → Option (Int32 × A_M)
  | 0, _, _, _, _ => none
  | n + 1, x0, x1, x2, M =>
    (gI M x0 7 40).bind fun v30 =>
    if v30 ≤ x2 then
    (if x1 = 0 then
    (some ((0 : Int32), M))
    else
    (some ((1 : Int32), M)))
    else
    (f_X7_full_L38 N (f_X7_full_L28 N n) N x0 x1 x2 (0 : Int32) M)
set_option maxHeartbeats 4000000 in
set_option maxRecDepth 100000 in
theorem ok_X7_full_L28 {X : JX} (C : Cx X cX7_full RX7 4 (some .int) 4 96) (N : Nat) : ∀ (n : Nat) (x0 : Nat) (x1 : Int32) (x2 : Int32) (M : A_M) (r : Int32) (M' : A_M), f_X7_full_L28 N n x0 x1 x2 M = some (r, M') → J X 4 28 [(0, .ref x0), (1, .int x1), (2, .int x2)] [] M 0 0 (some (.int r)) M' := by
  intro n
  induction n with
  | zero =>
    intro x0 x1 x2 M r M' h
    cases h
  | succ n ih =>
    intro x0 x1 x2 M r M' h
    rw [f_X7_full_L28] at h
    refine J_iload_n (pc' := 29) C 2 dX7_full_28 rfl rfl rfl ?_
    refine J_aload_n (pc' := 30) C 0 dX7_full_29 rfl rfl rfl ?_
    obtain ⟨v30, e30, h⟩ := bd h
    refine jg_919 (pc' := 33) C dX7_full_30 rfl (gI_some e30) ?_
    refine J_icmp_ge (tgt := 81) (pc' := 36) C dX7_full_33 (by decide) rfl (fun c33 => ?_) (fun c33 => ?_)
    · rw [if_pos c33] at h
      refine J_iload_n (pc' := 82) C 1 dX7_full_81 rfl rfl rfl ?_
      refine J_if_eq (tgt := 89) (pc' := 85) C dX7_full_82 (by decide) rfl (fun c82 => ?_) (fun c82 => ?_)
      · rw [if_pos c82] at h
        refine J_iconst (pc' := 90) (v := (0 : Int32)) C dX7_full_89 rfl (by decide) ?_
        obtain ⟨rfl, rfl⟩ := rt2 h
        exact J_iret C dX7_full_90 (Nat.zero_le _) (Nat.zero_le _)
      · rw [if_neg c82] at h
        refine J_iconst (pc' := 86) (v := (1 : Int32)) C dX7_full_85 rfl (by decide) ?_
        refine J_goto (tgt := 90) C dX7_full_86 (by decide) ?_
        obtain ⟨rfl, rfl⟩ := rt2 h
        exact J_iret C dX7_full_90 (Nat.zero_le _) (Nat.zero_le _)
    · rw [if_neg c33] at h
      refine J_iconst (pc' := 37) (v := (0 : Int32)) C dX7_full_36 rfl (by decide) ?_
      refine J_istore_n (pc' := 38) (lv' := [(3, .int (0 : Int32)), (0, .ref x0), (1, .int x1), (2, .int x2)]) C dX7_full_37 rfl rfl (by decide) rfl ?_
      refine J_sub (lv' := [(0, .ref x0), (1, .int x1), (2, .int x2), (3, .int (0 : Int32))]) [1, 2, 3, 0] rfl ?_
      exact ok_X7_full_L38 C N ih N _ _ _ _ _ _ _ h
def f_X7_full (N : Nat) (a0 : Nat) (M : A_M) : Option (Int32 × A_M) :=
  (gI M a0 7 4).bind fun v1 =>
  if v1 = 0 then
  (some ((-3 : Int32), M))
  else
  ((chk M a0 7).bind fun _ =>
  bnd2 (f_X7_isFree N a0 M) fun v11 M11 =>
  if v11 = 0 then
  (some ((-5 : Int32), M11))
  else
  ((chk M11 a0 7).bind fun _ =>
  (f_X7_findPlaces N a0 M11).bind fun M21 =>
  f_X7_full_L28 N N a0 (1 : Int32) (0 : Int32) M21))
set_option maxHeartbeats 4000000 in
set_option maxRecDepth 100000 in
theorem ok_X7_full (N : Nat) {a0 : Nat} {M : A_M} {r : Int32} {M' : A_M} (h : f_X7_full N a0 M = some (r, M')) : Runs yX7_full cX7_full 4 (some .int) 4 96 0 0 [.ref a0] M (some (.int r)) M' := by
  refine Runs.intro (by decide) (Nat.le_of_ble_eq_true rfl) (fun X C hnm hMC hMS => ?_)
  have C : Cx X cX7_full RX7 4 (some .int) 4 96 := C
  show J X 4 0 [(0, .ref a0)] [] M 0 0 (some (.int r)) M'
  unfold f_X7_full at h
  refine J_aload_n (pc' := 1) C 0 dX7_full_0 rfl rfl rfl ?_
  obtain ⟨v1, e1, h⟩ := bd h
  refine jg_883 (pc' := 4) C dX7_full_1 rfl (gI_some e1) ?_
  refine J_if_ne (tgt := 10) (pc' := 7) C dX7_full_4 (by decide) rfl (fun c4 => ?_) (fun c4 => ?_)
  · rw [if_neg c4] at h
    refine J_aload_n (pc' := 11) C 0 dX7_full_10 rfl rfl rfl ?_
    obtain ⟨_, q11, h⟩ := bd h
    obtain ⟨v11, M11, e11, h⟩ := bd2 h
    refine J_cV (pc' := 14) (st := []) (st2 := [.int v11]) (cs2 := 0) (sl2 := 0) C 7 rfl rfl q11 (ok_X7_isFree N e11) mw_X7_isFree wq_1290 rfl dX7_full_11 rfl rfl (Nat.le_of_ble_eq_true rfl) (by decide) (by decide) rfl rfl rfl (Nat.zero_le _) (Nat.zero_le _) ?_
    refine J_if_ne (tgt := 20) (pc' := 17) C dX7_full_14 (by decide) rfl (fun c14 => ?_) (fun c14 => ?_)
    · rw [if_neg c14] at h
      refine J_aload_n (pc' := 21) C 0 dX7_full_20 rfl rfl rfl ?_
      obtain ⟨_, q21, h⟩ := bd h
      obtain ⟨M21, e21, h⟩ := bd h
      refine J_cV (pc' := 24) (st := []) (st2 := []) (cs2 := 0) (sl2 := 0) C 7 rfl rfl q21 (ok_X7_findPlaces N e21) mw_X7_findPlaces wq_1294 rfl dX7_full_21 rfl rfl (Nat.le_of_ble_eq_true rfl) (by decide) (by decide) rfl rfl rfl (Nat.zero_le _) (Nat.zero_le _) ?_
      refine J_iconst (pc' := 25) (v := (1 : Int32)) C dX7_full_24 rfl (by decide) ?_
      refine J_istore_n (pc' := 26) (lv' := [(1, .int (1 : Int32)), (0, .ref a0)]) C dX7_full_25 rfl rfl (by decide) rfl ?_
      refine J_iconst (pc' := 27) (v := (0 : Int32)) C dX7_full_26 rfl (by decide) ?_
      refine J_istore_n (pc' := 28) (lv' := [(2, .int (0 : Int32)), (1, .int (1 : Int32)), (0, .ref a0)]) C dX7_full_27 rfl rfl (by decide) rfl ?_
      refine J_sub (lv' := [(0, .ref a0), (1, .int (1 : Int32)), (2, .int (0 : Int32))]) [2, 1, 0] rfl ?_
      exact ok_X7_full_L28 C N N _ _ _ _ _ _ h
    · rw [if_pos c14] at h
      refine J_bipush (pc' := 19) (v := (-5 : Int32)) C dX7_full_17 rfl (by decide) ?_
      obtain ⟨rfl, rfl⟩ := rt2 h
      exact J_iret C dX7_full_19 (Nat.zero_le _) (Nat.zero_le _)
  · rw [if_pos c4] at h
    refine J_bipush (pc' := 9) (v := (-3 : Int32)) C dX7_full_7 rfl (by decide) ?_
    obtain ⟨rfl, rfl⟩ := rt2 h
    exact J_iret C dX7_full_9 (Nat.zero_le _) (Nat.zero_le _)
def f_X7_next_K31 (N : Nat) (x1 : Int64) (x4 : Int32) (M : A_M) : Option (Int64 × A_M) :=
  if 0 ≤ x4 then
  (bnd2 (f_X7_cut N x1 x4 M) fun v45 M45 =>
  bnd2 (f_X7_signAt N x1 x4 M45) fun v53 M53 =>
  bnd2 (f_X7_with N v45 x4 (v53 + (1 : Int32)) M53) fun v58 M58 =>
  some (v58, M58))
  else
  (some ((-1 : Int64), M))
set_option maxHeartbeats 4000000 in
set_option maxRecDepth 100000 in
theorem ok_X7_next_K31 {X : JX} (C : Cx X cX7_next RX7 5 (some .long) 1 23) (N : Nat) : ∀ (x1 : Int64) (x4 : Int32) (M : A_M) (r : Int64) (M' : A_M), f_X7_next_K31 N x1 x4 M = some (r, M') → J X 5 31 [(1, .long x1), (4, .int x4)] [] M 0 0 (some (.long r)) M' := by
  intro x1 x4 M r M' h
  unfold f_X7_next_K31 at h
  refine J_iload (pc' := 33) C 1 dX7_next_31 rfl rfl ?_
  refine J_if_ge (tgt := 42) (pc' := 36) C dX7_next_33 (by decide) rfl (fun c33 => ?_) (fun c33 => ?_)
  · rw [if_pos c33] at h
    refine J_lload_n (pc' := 43) C 0 dX7_next_42 rfl rfl rfl ?_
    refine J_iload (pc' := 45) C 1 dX7_next_43 rfl rfl ?_
    obtain ⟨v45, M45, e45, h⟩ := bd2 h
    refine J_cS (pc' := 48) (st := []) (st2 := [.long v45]) (cs2 := 0) (sl2 := 0) C (ok_X7_cut N e45) mw_X7_cut wq_1298 rfl dX7_next_45 rfl rfl (Nat.le_of_ble_eq_true rfl) (by decide) (by decide) rfl rfl rfl (Nat.zero_le _) (Nat.zero_le _) ?_
    refine J_iload (pc' := 50) C 1 dX7_next_48 rfl rfl ?_
    refine J_lload_n (pc' := 51) C 0 dX7_next_50 rfl rfl rfl ?_
    refine J_iload (pc' := 53) C 1 dX7_next_51 rfl rfl ?_
    obtain ⟨v53, M53, e53, h⟩ := bd2 h
    refine J_cS (pc' := 56) (st := [.int x4, .long v45]) (st2 := [.int v53, .int x4, .long v45]) (cs2 := 0) (sl2 := 0) C (ok_X7_signAt N e53) mw_X7_signAt wq_1222 rfl dX7_next_53 rfl rfl (Nat.le_of_ble_eq_true rfl) (by decide) (by decide) rfl rfl rfl (Nat.zero_le _) (Nat.zero_le _) ?_
    refine J_iconst (pc' := 57) (v := (1 : Int32)) C dX7_next_56 rfl (by decide) ?_
    refine J_iadd (pc' := 58) C dX7_next_57 rfl ?_
    obtain ⟨v58, M58, e58, h⟩ := bd2 h
    refine J_cS (pc' := 61) (st := []) (st2 := [.long v58]) (cs2 := 0) (sl2 := 0) C (ok_X7_with N e58) mw_X7_with wq_1186 rfl dX7_next_58 rfl rfl (Nat.le_of_ble_eq_true rfl) (by decide) (by decide) rfl rfl rfl (Nat.zero_le _) (Nat.zero_le _) ?_
    obtain ⟨rfl, rfl⟩ := rt2 h
    exact J_lret C dX7_next_61 (Nat.zero_le _) (Nat.zero_le _)
  · rw [if_neg c33] at h
    refine J_ldc2 (pc' := 39) C dX7_next_36 rfl wq_1082 ?_
    refine J_goto (tgt := 61) C dX7_next_39 (by decide) ?_
    obtain ⟨rfl, rfl⟩ := rt2 h
    exact J_lret C dX7_next_61 (Nat.zero_le _) (Nat.zero_le _)
def f_X7_next_L5 (N : Nat) : Nat → Nat → Int64 → Int32 → A_M → Option (Int64 × A_M)
  | 0, _, _, _, _ => none
  | n + 1, x0, x1, x4, M =>
    if x4 < 0 then
    (f_X7_next_K31 N x1 x4 M)
    else
    (bnd2 (f_X7_signAt N x1 x4 M) fun v13 M13 =>
    (gI M13 x0 7 1).bind fun v17 =>
    if v13 = (v17 - (1 : Int32)) then
    (f_X7_next_L5 N n x0 x1 (x4 + (-1)) M13)
    else
    (f_X7_next_K31 N x1 x4 M13))
set_option maxHeartbeats 4000000 in
set_option maxRecDepth 100000 in
theorem ok_X7_next_L5 {X : JX} (C : Cx X cX7_next RX7 5 (some .long) 1 23) (N : Nat) : ∀ (n : Nat) (x0 : Nat) (x1 : Int64) (x4 : Int32) (M : A_M) (r : Int64) (M' : A_M), f_X7_next_L5 N n x0 x1 x4 M = some (r, M') → J X 5 5 [(0, .ref x0), (1, .long x1), (4, .int x4)] [] M 0 0 (some (.long r)) M' := by
  intro n
  induction n with
  | zero =>
    intro x0 x1 x4 M r M' h
    cases h
  | succ n ih =>
    intro x0 x1 x4 M r M' h
    rw [f_X7_next_L5] at h
    refine J_iload (pc' := 7) C 2 dX7_next_5 rfl rfl ?_
    refine J_if_lt (tgt := 31) (pc' := 10) C dX7_next_7 (by decide) rfl (fun c7 => ?_) (fun c7 => ?_)
    · rw [if_pos c7] at h
      refine J_sub (lv' := [(1, .long x1), (4, .int x4)]) [1, 2] rfl ?_
      exact ok_X7_next_K31 C N _ _ _ _ _ h
    · rw [if_neg c7] at h
      refine J_lload_n (pc' := 11) C 1 dX7_next_10 rfl rfl rfl ?_
      refine J_iload (pc' := 13) C 2 dX7_next_11 rfl rfl ?_
      obtain ⟨v13, M13, e13, h⟩ := bd2 h
      refine J_cS (pc' := 16) (st := []) (st2 := [.int v13]) (cs2 := 0) (sl2 := 0) C (ok_X7_signAt N e13) mw_X7_signAt wq_1222 rfl dX7_next_13 rfl rfl (Nat.le_of_ble_eq_true rfl) (by decide) (by decide) rfl rfl rfl (Nat.zero_le _) (Nat.zero_le _) ?_
      refine J_aload_n (pc' := 17) C 0 dX7_next_16 rfl rfl rfl ?_
      obtain ⟨v17, e17, h⟩ := bd h
      refine jg_880 (pc' := 20) C dX7_next_17 rfl (gI_some e17) ?_
      refine J_iconst (pc' := 21) (v := (1 : Int32)) C dX7_next_20 rfl (by decide) ?_
      refine J_isub (pc' := 22) C dX7_next_21 rfl ?_
      refine J_icmp_ne (tgt := 31) (pc' := 25) C dX7_next_22 (by decide) rfl (fun c22 => ?_) (fun c22 => ?_)
      · rw [if_neg c22] at h
        refine J_sub (lv' := [(1, .long x1), (4, .int x4)]) [1, 2] rfl ?_
        exact ok_X7_next_K31 C N _ _ _ _ _ h
      · rw [if_pos c22] at h
        refine J_iinc (pc' := 28) (lv' := [(4, .int (x4 + (-1))), (0, .ref x0), (1, .long x1)]) C 2 dX7_next_25 rfl rfl rfl (by decide) rfl ?_
        refine J_goto (tgt := 5) C dX7_next_28 (by decide) ?_
        refine J_sub (lv' := [(0, .ref x0), (1, .long x1), (4, .int (x4 + (-1)))]) [1, 2, 0] rfl ?_
        exact ih _ _ _ _ _ _ h
def f_X7_next (N : Nat) (a0 : Nat) (a1 : Int64) (a3 : Int32) (M : A_M) : Option (Int64 × A_M) :=
  f_X7_next_L5 N N a0 a1 (a3 - (1 : Int32)) M
set_option maxHeartbeats 4000000 in
set_option maxRecDepth 100000 in
theorem ok_X7_next (N : Nat) {a0 : Nat} {a1 : Int64} {a3 : Int32} {M : A_M} {r : Int64} {M' : A_M} (h : f_X7_next N a0 a1 a3 M = some (r, M')) : Runs yX7_next cX7_next 5 (some .long) 1 23 0 0 [.ref a0, .long a1, .int a3] M (some (.long r)) M' := by
  refine Runs.intro (by decide) (Nat.le_of_ble_eq_true rfl) (fun X C hnm hMC hMS => ?_)
  have C : Cx X cX7_next RX7 5 (some .long) 1 23 := C
  show J X 5 0 [(0, .ref a0), (1, .long a1), (3, .int a3)] [] M 0 0 (some (.long r)) M'
  unfold f_X7_next at h
  refine J_iload_n (pc' := 1) C 2 dX7_next_0 rfl rfl rfl ?_
  refine J_iconst (pc' := 2) (v := (1 : Int32)) C dX7_next_1 rfl (by decide) ?_
  refine J_isub (pc' := 3) C dX7_next_2 rfl ?_
  refine J_istore (pc' := 5) (lv' := [(4, .int (a3 - (1 : Int32))), (0, .ref a0), (1, .long a1), (3, .int a3)]) C dX7_next_3 rfl (by decide) rfl ?_
  refine J_sub (lv' := [(0, .ref a0), (1, .long a1), (4, .int (a3 - (1 : Int32)))]) [1, 2, 0] rfl ?_
  exact ok_X7_next_L5 C N N _ _ _ _ _ _ h
def f_X7_canon_K80 (N : Nat) (k12 : Nat → Int32 → A_M → Option (Int32 × A_M)) (x0 : Nat) (x1 : Int32) (x2 : Int32) (M : A_M) : Option (Int32 × A_M) :=
  (gR M x0 7 42).bind fun v81 =>
  (stI M v81 x2 x1).bind fun M86 =>
  k12 x0 (x1 + 1) M86
set_option maxHeartbeats 4000000 in
set_option maxRecDepth 100000 in
theorem ok_X7_canon_K80 {X : JX} (C : Cx X cX7_canon RX7 6 (some .int) 2 47) (N : Nat) {k12 : Nat → Int32 → A_M → Option (Int32 × A_M)} (hk12 : ∀ (x0 : Nat) (x1 : Int32) (M : A_M) (r : Int32) (M' : A_M), k12 x0 x1 M = some (r, M') → J X 6 12 [(0, .ref x0), (1, .int x1)] [] M 0 0 (some (.int r)) M') : ∀ (x0 : Nat) (x1 : Int32) (x2 : Int32) (M : A_M) (r : Int32) (M' : A_M), f_X7_canon_K80 N k12 x0 x1 x2 M = some (r, M') → J X 6 80 [(0, .ref x0), (1, .int x1), (2, .int x2)] [] M 0 0 (some (.int r)) M' := by
  intro x0 x1 x2 M r M' h
  unfold f_X7_canon_K80 at h
  refine J_aload_n (pc' := 81) C 0 dX7_canon_80 rfl rfl rfl ?_
  obtain ⟨v81, e81, h⟩ := bd h
  refine jg_921 (pc' := 84) C dX7_canon_81 rfl (gR_some e81) ?_
  refine J_iload_n (pc' := 85) C 2 dX7_canon_84 rfl rfl rfl ?_
  refine J_iload_n (pc' := 86) C 1 dX7_canon_85 rfl rfl rfl ?_
  obtain ⟨M86, e86, h⟩ := bd h
  refine J_iast (pc' := 87) C dX7_canon_86 rfl e86 ?_
  refine J_iinc (pc' := 90) (lv' := [(1, .int (x1 + 1)), (0, .ref x0), (2, .int x2)]) C 1 dX7_canon_87 rfl rfl rfl (by decide) rfl ?_
  refine J_goto (tgt := 12) C dX7_canon_90 (by decide) ?_
  refine J_sub (lv' := [(0, .ref x0), (1, .int (x1 + 1))]) [1, 0] rfl ?_
  exact hk12 _ _ _ _ _ h
def f_X7_canon_L34 (N : Nat) (k12 : Nat → Int32 → A_M → Option (Int32 × A_M)) : Nat → Nat → Int32 → Int32 → A_M → Option (Int32 × A_M)
  | 0, _, _, _, _ => none
  | n + 1, x0, x1, x2, M =>
    if x2 ≤ 0 then
    (f_X7_canon_K80 N k12 x0 x1 x2 M)
    else
    ((gR M x0 7 8).bind fun v39 =>
    (gR M x0 7 42).bind fun v43 =>
    (ldI M v43 (x2 - (1 : Int32))).bind fun v49 =>
    (ldI M v39 v49).bind fun v50 =>
    (gR M x0 7 8).bind fun v52 =>
    (ldI M v52 x1).bind fun v56 =>
    if v50 ≤ v56 then
    (f_X7_canon_K80 N k12 x0 x1 x2 M)
    else
    ((gR M x0 7 42).bind fun v61 =>
    (gR M x0 7 42).bind fun v66 =>
    (ldI M v66 (x2 - (1 : Int32))).bind fun v72 =>
    (stI M v61 x2 v72).bind fun M73 =>
    f_X7_canon_L34 N k12 n x0 x1 (x2 + (-1)) M73))
set_option maxHeartbeats 4000000 in
set_option maxRecDepth 100000 in
theorem ok_X7_canon_L34 {X : JX} (C : Cx X cX7_canon RX7 6 (some .int) 2 47) (N : Nat) {k12 : Nat → Int32 → A_M → Option (Int32 × A_M)} (hk12 : ∀ (x0 : Nat) (x1 : Int32) (M : A_M) (r : Int32) (M' : A_M), k12 x0 x1 M = some (r, M') → J X 6 12 [(0, .ref x0), (1, .int x1)] [] M 0 0 (some (.int r)) M') : ∀ (n : Nat) (x0 : Nat) (x1 : Int32) (x2 : Int32) (M : A_M) (r : Int32) (M' : A_M), f_X7_canon_L34 N k12 n x0 x1 x2 M = some (r, M') → J X 6 34 [(0, .ref x0), (1, .int x1), (2, .int x2)] [] M 0 0 (some (.int r)) M' := by
  intro n
  induction n with
  | zero =>
    intro x0 x1 x2 M r M' h
    cases h
  | succ n ih =>
    intro x0 x1 x2 M r M' h
    rw [f_X7_canon_L34] at h
    refine J_iload_n (pc' := 35) C 2 dX7_canon_34 rfl rfl rfl ?_
    refine J_if_le (tgt := 80) (pc' := 38) C dX7_canon_35 (by decide) rfl (fun c35 => ?_) (fun c35 => ?_)
    · rw [if_pos c35] at h
      refine J_sub (lv' := [(0, .ref x0), (1, .int x1), (2, .int x2)]) [0, 1, 2] rfl ?_
      exact ok_X7_canon_K80 C N hk12 _ _ _ _ _ _ h
    · rw [if_neg c35] at h
      refine J_aload_n (pc' := 39) C 0 dX7_canon_38 rfl rfl rfl ?_
      obtain ⟨v39, e39, h⟩ := bd h
      refine jg_887 (pc' := 42) C dX7_canon_39 rfl (gR_some e39) ?_
      refine J_aload_n (pc' := 43) C 0 dX7_canon_42 rfl rfl rfl ?_
      obtain ⟨v43, e43, h⟩ := bd h
      refine jg_921 (pc' := 46) C dX7_canon_43 rfl (gR_some e43) ?_
      refine J_iload_n (pc' := 47) C 2 dX7_canon_46 rfl rfl rfl ?_
      refine J_iconst (pc' := 48) (v := (1 : Int32)) C dX7_canon_47 rfl (by decide) ?_
      refine J_isub (pc' := 49) C dX7_canon_48 rfl ?_
      obtain ⟨v49, e49, h⟩ := bd h
      refine J_iald (pc' := 50) C dX7_canon_49 rfl e49 ?_
      obtain ⟨v50, e50, h⟩ := bd h
      refine J_iald (pc' := 51) C dX7_canon_50 rfl e50 ?_
      refine J_aload_n (pc' := 52) C 0 dX7_canon_51 rfl rfl rfl ?_
      obtain ⟨v52, e52, h⟩ := bd h
      refine jg_887 (pc' := 55) C dX7_canon_52 rfl (gR_some e52) ?_
      refine J_iload_n (pc' := 56) C 1 dX7_canon_55 rfl rfl rfl ?_
      obtain ⟨v56, e56, h⟩ := bd h
      refine J_iald (pc' := 57) C dX7_canon_56 rfl e56 ?_
      refine J_icmp_le (tgt := 80) (pc' := 60) C dX7_canon_57 (by decide) rfl (fun c57 => ?_) (fun c57 => ?_)
      · rw [if_pos c57] at h
        refine J_sub (lv' := [(0, .ref x0), (1, .int x1), (2, .int x2)]) [0, 1, 2] rfl ?_
        exact ok_X7_canon_K80 C N hk12 _ _ _ _ _ _ h
      · rw [if_neg c57] at h
        refine J_aload_n (pc' := 61) C 0 dX7_canon_60 rfl rfl rfl ?_
        obtain ⟨v61, e61, h⟩ := bd h
        refine jg_921 (pc' := 64) C dX7_canon_61 rfl (gR_some e61) ?_
        refine J_iload_n (pc' := 65) C 2 dX7_canon_64 rfl rfl rfl ?_
        refine J_aload_n (pc' := 66) C 0 dX7_canon_65 rfl rfl rfl ?_
        obtain ⟨v66, e66, h⟩ := bd h
        refine jg_921 (pc' := 69) C dX7_canon_66 rfl (gR_some e66) ?_
        refine J_iload_n (pc' := 70) C 2 dX7_canon_69 rfl rfl rfl ?_
        refine J_iconst (pc' := 71) (v := (1 : Int32)) C dX7_canon_70 rfl (by decide) ?_
        refine J_isub (pc' := 72) C dX7_canon_71 rfl ?_
        obtain ⟨v72, e72, h⟩ := bd h
        refine J_iald (pc' := 73) C dX7_canon_72 rfl e72 ?_
        obtain ⟨M73, e73, h⟩ := bd h
        refine J_iast (pc' := 74) C dX7_canon_73 rfl e73 ?_
        refine J_iinc (pc' := 77) (lv' := [(2, .int (x2 + (-1))), (0, .ref x0), (1, .int x1)]) C 2 dX7_canon_74 rfl rfl rfl (by decide) rfl ?_
        refine J_goto (tgt := 34) C dX7_canon_77 (by decide) ?_
        refine J_sub (lv' := [(0, .ref x0), (1, .int x1), (2, .int (x2 + (-1)))]) [1, 2, 0] rfl ?_
        exact ih _ _ _ _ _ _ h
def f_X7_canon_L164 (N : Nat) : Nat → Nat → Int32 → A_M → Option (Int32 × A_M)
  | 0, _, _, _ => none
  | n + 1, x0, x4, M =>
    (gI M x0 7 3).bind fun v167 =>
    if v167 ≤ x4 then
    ((chk M x0 7).bind fun _ =>
    (f_X7_comes N x0 M).bind fun M194 =>
    some ((1 : Int32), M194))
    else
    ((gR M x0 7 7).bind fun v174 =>
    (gR M x0 7 34).bind fun v180 =>
    (ldJ M v180 x4).bind fun v185 =>
    (stJ M v174 x4 v185).bind fun M186 =>
    f_X7_canon_L164 N n x0 (x4 + 1) M186)
set_option maxHeartbeats 4000000 in
set_option maxRecDepth 100000 in
theorem ok_X7_canon_L164 {X : JX} (C : Cx X cX7_canon RX7 6 (some .int) 2 47) (N : Nat) : ∀ (n : Nat) (x0 : Nat) (x4 : Int32) (M : A_M) (r : Int32) (M' : A_M), f_X7_canon_L164 N n x0 x4 M = some (r, M') → J X 6 164 [(0, .ref x0), (4, .int x4)] [] M 0 0 (some (.int r)) M' := by
  intro n
  induction n with
  | zero =>
    intro x0 x4 M r M' h
    cases h
  | succ n ih =>
    intro x0 x4 M r M' h
    rw [f_X7_canon_L164] at h
    refine J_iload (pc' := 166) C 1 dX7_canon_164 rfl rfl ?_
    refine J_aload_n (pc' := 167) C 0 dX7_canon_166 rfl rfl rfl ?_
    obtain ⟨v167, e167, h⟩ := bd h
    refine jg_882 (pc' := 170) C dX7_canon_167 rfl (gI_some e167) ?_
    refine J_icmp_ge (tgt := 193) (pc' := 173) C dX7_canon_170 (by decide) rfl (fun c170 => ?_) (fun c170 => ?_)
    · rw [if_pos c170] at h
      refine J_aload_n (pc' := 194) C 0 dX7_canon_193 rfl rfl rfl ?_
      obtain ⟨_, q194, h⟩ := bd h
      obtain ⟨M194, e194, h⟩ := bd h
      refine J_cV (pc' := 197) (st := []) (st2 := []) (cs2 := 0) (sl2 := 0) C 7 rfl rfl q194 (ok_X7_comes N e194) mw_X7_comes wq_1210 rfl dX7_canon_194 rfl rfl (Nat.le_of_ble_eq_true rfl) (by decide) (by decide) rfl rfl rfl (Nat.zero_le _) (Nat.zero_le _) ?_
      refine J_iconst (pc' := 198) (v := (1 : Int32)) C dX7_canon_197 rfl (by decide) ?_
      obtain ⟨rfl, rfl⟩ := rt2 h
      exact J_iret C dX7_canon_198 (Nat.zero_le _) (Nat.zero_le _)
    · rw [if_neg c170] at h
      refine J_aload_n (pc' := 174) C 0 dX7_canon_173 rfl rfl rfl ?_
      obtain ⟨v174, e174, h⟩ := bd h
      refine jg_886 (pc' := 177) C dX7_canon_174 rfl (gR_some e174) ?_
      refine J_iload (pc' := 179) C 1 dX7_canon_177 rfl rfl ?_
      refine J_aload_n (pc' := 180) C 0 dX7_canon_179 rfl rfl rfl ?_
      obtain ⟨v180, e180, h⟩ := bd h
      refine jg_913 (pc' := 183) C dX7_canon_180 rfl (gR_some e180) ?_
      refine J_iload (pc' := 185) C 1 dX7_canon_183 rfl rfl ?_
      obtain ⟨v185, e185, h⟩ := bd h
      refine J_lald (pc' := 186) C dX7_canon_185 rfl e185 ?_
      obtain ⟨M186, e186, h⟩ := bd h
      refine J_last (pc' := 187) C dX7_canon_186 rfl e186 ?_
      refine J_iinc (pc' := 190) (lv' := [(4, .int (x4 + 1)), (0, .ref x0)]) C 1 dX7_canon_187 rfl rfl rfl (by decide) rfl ?_
      refine J_goto (tgt := 164) C dX7_canon_190 (by decide) ?_
      refine J_sub (lv' := [(0, .ref x0), (4, .int (x4 + 1))]) [1, 0] rfl ?_
      exact ih _ _ _ _ _ h
def f_X7_canon_K161 (N : Nat) (x0 : Nat) (M : A_M) : Option (Int32 × A_M) :=
  f_X7_canon_L164 N N x0 (0 : Int32) M
set_option maxHeartbeats 4000000 in
set_option maxRecDepth 100000 in
theorem ok_X7_canon_K161 {X : JX} (C : Cx X cX7_canon RX7 6 (some .int) 2 47) (N : Nat) : ∀ (x0 : Nat) (M : A_M) (r : Int32) (M' : A_M), f_X7_canon_K161 N x0 M = some (r, M') → J X 6 161 [(0, .ref x0)] [] M 0 0 (some (.int r)) M' := by
  intro x0 M r M' h
  unfold f_X7_canon_K161 at h
  refine J_iconst (pc' := 162) (v := (0 : Int32)) C dX7_canon_161 rfl (by decide) ?_
  refine J_istore (pc' := 164) (lv' := [(4, .int (0 : Int32)), (0, .ref x0)]) C dX7_canon_162 rfl (by decide) rfl ?_
  refine J_sub (lv' := [(0, .ref x0), (4, .int (0 : Int32))]) [1, 0] rfl ?_
  exact ok_X7_canon_L164 C N N _ _ _ _ _ h
def f_X7_canon_K139 (N : Nat) (k100 : Nat → Int64 → Int32 → Int32 → A_M → Option (Int32 × A_M)) (x0 : Nat) (x1 : Int64) (x4 : Int32) (x5 : Int32) (M : A_M) : Option (Int32 × A_M) :=
  (gR M x0 7 8).bind fun v140 =>
  (ldI M v140 x5).bind fun v145 =>
  (gR M x0 7 34).bind fun v148 =>
  (stJ M v148 x5 x1).bind fun M154 =>
  k100 x0 x1 v145 (x4 + 1) M154
set_option maxHeartbeats 4000000 in
set_option maxRecDepth 100000 in
theorem ok_X7_canon_K139 {X : JX} (C : Cx X cX7_canon RX7 6 (some .int) 2 47) (N : Nat) {k100 : Nat → Int64 → Int32 → Int32 → A_M → Option (Int32 × A_M)} (hk100 : ∀ (x0 : Nat) (x1 : Int64) (x3 : Int32) (x4 : Int32) (M : A_M) (r : Int32) (M' : A_M), k100 x0 x1 x3 x4 M = some (r, M') → J X 6 100 [(0, .ref x0), (1, .long x1), (3, .int x3), (4, .int x4)] [] M 0 0 (some (.int r)) M') : ∀ (x0 : Nat) (x1 : Int64) (x4 : Int32) (x5 : Int32) (M : A_M) (r : Int32) (M' : A_M), f_X7_canon_K139 N k100 x0 x1 x4 x5 M = some (r, M') → J X 6 139 [(0, .ref x0), (1, .long x1), (4, .int x4), (5, .int x5)] [] M 0 0 (some (.int r)) M' := by
  intro x0 x1 x4 x5 M r M' h
  unfold f_X7_canon_K139 at h
  refine J_aload_n (pc' := 140) C 0 dX7_canon_139 rfl rfl rfl ?_
  obtain ⟨v140, e140, h⟩ := bd h
  refine jg_887 (pc' := 143) C dX7_canon_140 rfl (gR_some e140) ?_
  refine J_iload (pc' := 145) C 3 dX7_canon_143 rfl rfl ?_
  obtain ⟨v145, e145, h⟩ := bd h
  refine J_iald (pc' := 146) C dX7_canon_145 rfl e145 ?_
  refine J_istore_n (pc' := 147) (lv' := [(3, .int v145), (0, .ref x0), (1, .long x1), (4, .int x4), (5, .int x5)]) C dX7_canon_146 rfl rfl (by decide) rfl ?_
  refine J_aload_n (pc' := 148) C 1 dX7_canon_147 rfl rfl rfl ?_
  obtain ⟨v148, e148, h⟩ := bd h
  refine jg_913 (pc' := 151) C dX7_canon_148 rfl (gR_some e148) ?_
  refine J_iload (pc' := 153) C 4 dX7_canon_151 rfl rfl ?_
  refine J_lload_n (pc' := 154) C 2 dX7_canon_153 rfl rfl rfl ?_
  obtain ⟨M154, e154, h⟩ := bd h
  refine J_last (pc' := 155) C dX7_canon_154 rfl e154 ?_
  refine J_iinc (pc' := 158) (lv' := [(4, .int (x4 + 1)), (3, .int v145), (0, .ref x0), (1, .long x1), (5, .int x5)]) C 3 dX7_canon_155 rfl rfl rfl (by decide) rfl ?_
  refine J_goto (tgt := 100) C dX7_canon_158 (by decide) ?_
  refine J_sub (lv' := [(0, .ref x0), (1, .long x1), (3, .int v145), (4, .int (x4 + 1))]) [2, 3, 1, 0] rfl ?_
  exact hk100 _ _ _ _ _ _ _ h
def f_X7_canon_L100 (N : Nat) : Nat → Nat → Int64 → Int32 → Int32 → A_M → Option (Int32 × A_M)
  | 0, _, _, _, _, _ => none
  | n + 1, x0, x1, x3, x4, M =>
    (gI M x0 7 3).bind fun v103 =>
    if v103 ≤ x4 then
    (f_X7_canon_K161 N x0 M)
    else
    ((gR M x0 7 42).bind fun v110 =>
    (ldI M v110 x4).bind fun v115 =>
    if x4 ≤ 0 then
    (f_X7_canon_K139 N (f_X7_canon_L100 N n) x0 x1 x4 v115 M)
    else
    ((chk M x0 7).bind fun _ =>
    bnd2 (f_X7_next N x0 x1 x3 M) fun v126 M126 =>
    if 0 ≤ (lg_cmp v126 (0 : Int64)) then
    (f_X7_canon_K139 N (f_X7_canon_L100 N n) x0 v126 x4 v115 M126)
    else
    (some ((-5 : Int32), M126))))
set_option maxHeartbeats 4000000 in
set_option maxRecDepth 100000 in
theorem ok_X7_canon_L100 {X : JX} (C : Cx X cX7_canon RX7 6 (some .int) 2 47) (N : Nat) : ∀ (n : Nat) (x0 : Nat) (x1 : Int64) (x3 : Int32) (x4 : Int32) (M : A_M) (r : Int32) (M' : A_M), f_X7_canon_L100 N n x0 x1 x3 x4 M = some (r, M') → J X 6 100 [(0, .ref x0), (1, .long x1), (3, .int x3), (4, .int x4)] [] M 0 0 (some (.int r)) M' := by
  intro n
  induction n with
  | zero =>
    intro x0 x1 x3 x4 M r M' h
    cases h
  | succ n ih =>
    intro x0 x1 x3 x4 M r M' h
    rw [f_X7_canon_L100] at h
    refine J_iload (pc' := 102) C 3 dX7_canon_100 rfl rfl ?_
    refine J_aload_n (pc' := 103) C 0 dX7_canon_102 rfl rfl rfl ?_
    obtain ⟨v103, e103, h⟩ := bd h
    refine jg_882 (pc' := 106) C dX7_canon_103 rfl (gI_some e103) ?_
    refine J_icmp_ge (tgt := 161) (pc' := 109) C dX7_canon_106 (by decide) rfl (fun c106 => ?_) (fun c106 => ?_)
    · rw [if_pos c106] at h
      refine J_sub (lv' := [(0, .ref x0)]) [0] rfl ?_
      exact ok_X7_canon_K161 C N _ _ _ _ h
    · rw [if_neg c106] at h
      refine J_aload_n (pc' := 110) C 0 dX7_canon_109 rfl rfl rfl ?_
      obtain ⟨v110, e110, h⟩ := bd h
      refine jg_921 (pc' := 113) C dX7_canon_110 rfl (gR_some e110) ?_
      refine J_iload (pc' := 115) C 3 dX7_canon_113 rfl rfl ?_
      obtain ⟨v115, e115, h⟩ := bd h
      refine J_iald (pc' := 116) C dX7_canon_115 rfl e115 ?_
      refine J_istore (pc' := 118) (lv' := [(5, .int v115), (0, .ref x0), (1, .long x1), (3, .int x3), (4, .int x4)]) C dX7_canon_116 rfl (by decide) rfl ?_
      refine J_iload (pc' := 120) C 4 dX7_canon_118 rfl rfl ?_
      refine J_if_le (tgt := 139) (pc' := 123) C dX7_canon_120 (by decide) rfl (fun c120 => ?_) (fun c120 => ?_)
      · rw [if_pos c120] at h
        refine J_sub (lv' := [(0, .ref x0), (1, .long x1), (4, .int x4), (5, .int v115)]) [1, 2, 4, 0] rfl ?_
        exact ok_X7_canon_K139 C N ih _ _ _ _ _ _ _ h
      · rw [if_neg c120] at h
        refine J_aload_n (pc' := 124) C 1 dX7_canon_123 rfl rfl rfl ?_
        refine J_lload_n (pc' := 125) C 2 dX7_canon_124 rfl rfl rfl ?_
        refine J_iload_n (pc' := 126) C 3 dX7_canon_125 rfl rfl rfl ?_
        obtain ⟨_, q126, h⟩ := bd h
        obtain ⟨v126, M126, e126, h⟩ := bd2 h
        refine J_cV (pc' := 129) (st := []) (st2 := [.long v126]) (cs2 := 0) (sl2 := 0) C 7 rfl rfl q126 (ok_X7_next N e126) mw_X7_next wq_1313 rfl dX7_canon_126 rfl rfl (Nat.le_of_ble_eq_true rfl) (by decide) (by decide) rfl rfl rfl (Nat.zero_le _) (Nat.zero_le _) ?_
        refine J_lstore_n (pc' := 130) (lv' := [(1, .long v126), (5, .int v115), (0, .ref x0), (3, .int x3), (4, .int x4)]) C dX7_canon_129 rfl rfl (by decide) rfl ?_
        refine J_lload_n (pc' := 131) C 0 dX7_canon_130 rfl rfl rfl ?_
        refine J_lconst (pc' := 132) (v := (0 : Int64)) C dX7_canon_131 rfl (by decide) ?_
        refine J_lcmp (pc' := 133) C dX7_canon_132 rfl ?_
        refine J_if_ge (tgt := 139) (pc' := 136) C dX7_canon_133 (by decide) rfl (fun c133 => ?_) (fun c133 => ?_)
        · rw [if_pos c133] at h
          refine J_sub (lv' := [(0, .ref x0), (1, .long v126), (4, .int x4), (5, .int v115)]) [2, 0, 4, 1] rfl ?_
          exact ok_X7_canon_K139 C N ih _ _ _ _ _ _ _ h
        · rw [if_neg c133] at h
          refine J_bipush (pc' := 138) (v := (-5 : Int32)) C dX7_canon_136 rfl (by decide) ?_
          obtain ⟨rfl, rfl⟩ := rt2 h
          exact J_iret C dX7_canon_138 (Nat.zero_le _) (Nat.zero_le _)
def f_X7_canon_K93 (N : Nat) (x0 : Nat) (M : A_M) : Option (Int32 × A_M) :=
  f_X7_canon_L100 N N x0 (0 : Int64) (0 : Int32) (0 : Int32) M
set_option maxHeartbeats 4000000 in
set_option maxRecDepth 100000 in
theorem ok_X7_canon_K93 {X : JX} (C : Cx X cX7_canon RX7 6 (some .int) 2 47) (N : Nat) : ∀ (x0 : Nat) (M : A_M) (r : Int32) (M' : A_M), f_X7_canon_K93 N x0 M = some (r, M') → J X 6 93 [(0, .ref x0)] [] M 0 0 (some (.int r)) M' := by
  intro x0 M r M' h
  unfold f_X7_canon_K93 at h
  refine J_lconst (pc' := 94) (v := (0 : Int64)) C dX7_canon_93 rfl (by decide) ?_
  refine J_lstore_n (pc' := 95) (lv' := [(1, .long (0 : Int64)), (0, .ref x0)]) C dX7_canon_94 rfl rfl (by decide) rfl ?_
  refine J_iconst (pc' := 96) (v := (0 : Int32)) C dX7_canon_95 rfl (by decide) ?_
  refine J_istore_n (pc' := 97) (lv' := [(3, .int (0 : Int32)), (1, .long (0 : Int64)), (0, .ref x0)]) C dX7_canon_96 rfl rfl (by decide) rfl ?_
  refine J_iconst (pc' := 98) (v := (0 : Int32)) C dX7_canon_97 rfl (by decide) ?_
  refine J_istore (pc' := 100) (lv' := [(4, .int (0 : Int32)), (3, .int (0 : Int32)), (1, .long (0 : Int64)), (0, .ref x0)]) C dX7_canon_98 rfl (by decide) rfl ?_
  refine J_sub (lv' := [(0, .ref x0), (1, .long (0 : Int64)), (3, .int (0 : Int32)), (4, .int (0 : Int32))]) [3, 2, 1, 0] rfl ?_
  exact ok_X7_canon_L100 C N N _ _ _ _ _ _ _ h
def f_X7_canon_L12 (N : Nat) : Nat → Nat → Int32 → A_M → Option (Int32 × A_M)
  | 0, _, _, _ => none
  | n + 1, x0, x1, M =>
    (gI M x0 7 3).bind fun v14 =>
    if v14 ≤ x1 then
    (f_X7_canon_K93 N x0 M)
    else
    ((gR M x0 7 8).bind fun v21 =>
    (ldI M v21 x1).bind fun v25 =>
    if v25 = 0 then
    (some ((-5 : Int32), M))
    else
    (f_X7_canon_L34 N (f_X7_canon_L12 N n) N x0 x1 x1 M))
set_option maxHeartbeats 4000000 in
set_option maxRecDepth 100000 in
theorem ok_X7_canon_L12 {X : JX} (C : Cx X cX7_canon RX7 6 (some .int) 2 47) (N : Nat) : ∀ (n : Nat) (x0 : Nat) (x1 : Int32) (M : A_M) (r : Int32) (M' : A_M), f_X7_canon_L12 N n x0 x1 M = some (r, M') → J X 6 12 [(0, .ref x0), (1, .int x1)] [] M 0 0 (some (.int r)) M' := by
  intro n
  induction n with
  | zero =>
    intro x0 x1 M r M' h
    cases h
  | succ n ih =>
    intro x0 x1 M r M' h
    rw [f_X7_canon_L12] at h
    refine J_iload_n (pc' := 13) C 1 dX7_canon_12 rfl rfl rfl ?_
    refine J_aload_n (pc' := 14) C 0 dX7_canon_13 rfl rfl rfl ?_
    obtain ⟨v14, e14, h⟩ := bd h
    refine jg_882 (pc' := 17) C dX7_canon_14 rfl (gI_some e14) ?_
    refine J_icmp_ge (tgt := 93) (pc' := 20) C dX7_canon_17 (by decide) rfl (fun c17 => ?_) (fun c17 => ?_)
    · rw [if_pos c17] at h
      refine J_sub (lv' := [(0, .ref x0)]) [0] rfl ?_
      exact ok_X7_canon_K93 C N _ _ _ _ h
    · rw [if_neg c17] at h
      refine J_aload_n (pc' := 21) C 0 dX7_canon_20 rfl rfl rfl ?_
      obtain ⟨v21, e21, h⟩ := bd h
      refine jg_887 (pc' := 24) C dX7_canon_21 rfl (gR_some e21) ?_
      refine J_iload_n (pc' := 25) C 1 dX7_canon_24 rfl rfl rfl ?_
      obtain ⟨v25, e25, h⟩ := bd h
      refine J_iald (pc' := 26) C dX7_canon_25 rfl e25 ?_
      refine J_if_ne (tgt := 32) (pc' := 29) C dX7_canon_26 (by decide) rfl (fun c26 => ?_) (fun c26 => ?_)
      · rw [if_neg c26] at h
        refine J_iload_n (pc' := 33) C 1 dX7_canon_32 rfl rfl rfl ?_
        refine J_istore_n (pc' := 34) (lv' := [(2, .int x1), (0, .ref x0), (1, .int x1)]) C dX7_canon_33 rfl rfl (by decide) rfl ?_
        refine J_sub (lv' := [(0, .ref x0), (1, .int x1), (2, .int x1)]) [1, 2, 0] rfl ?_
        exact ok_X7_canon_L34 C N ih N _ _ _ _ _ _ h
      · rw [if_pos c26] at h
        refine J_bipush (pc' := 31) (v := (-5 : Int32)) C dX7_canon_29 rfl (by decide) ?_
        obtain ⟨rfl, rfl⟩ := rt2 h
        exact J_iret C dX7_canon_31 (Nat.zero_le _) (Nat.zero_le _)
def f_X7_canon (N : Nat) (a0 : Nat) (M : A_M) : Option (Int32 × A_M) :=
  (gI M a0 7 4).bind fun v1 =>
  if v1 = 0 then
  (some ((-3 : Int32), M))
  else
  (f_X7_canon_L12 N N a0 (0 : Int32) M)
set_option maxHeartbeats 4000000 in
set_option maxRecDepth 100000 in
theorem ok_X7_canon (N : Nat) {a0 : Nat} {M : A_M} {r : Int32} {M' : A_M} (h : f_X7_canon N a0 M = some (r, M')) : Runs yX7_canon cX7_canon 6 (some .int) 2 47 0 0 [.ref a0] M (some (.int r)) M' := by
  refine Runs.intro (by decide) (Nat.le_of_ble_eq_true rfl) (fun X C hnm hMC hMS => ?_)
  have C : Cx X cX7_canon RX7 6 (some .int) 2 47 := C
  show J X 6 0 [(0, .ref a0)] [] M 0 0 (some (.int r)) M'
  unfold f_X7_canon at h
  refine J_aload_n (pc' := 1) C 0 dX7_canon_0 rfl rfl rfl ?_
  obtain ⟨v1, e1, h⟩ := bd h
  refine jg_883 (pc' := 4) C dX7_canon_1 rfl (gI_some e1) ?_
  refine J_if_ne (tgt := 10) (pc' := 7) C dX7_canon_4 (by decide) rfl (fun c4 => ?_) (fun c4 => ?_)
  · rw [if_neg c4] at h
    refine J_iconst (pc' := 11) (v := (0 : Int32)) C dX7_canon_10 rfl (by decide) ?_
    refine J_istore_n (pc' := 12) (lv' := [(1, .int (0 : Int32)), (0, .ref a0)]) C dX7_canon_11 rfl rfl (by decide) rfl ?_
    refine J_sub (lv' := [(0, .ref a0), (1, .int (0 : Int32))]) [1, 0] rfl ?_
    exact ok_X7_canon_L12 C N N _ _ _ _ _ h
  · rw [if_pos c4] at h
    refine J_bipush (pc' := 9) (v := (-3 : Int32)) C dX7_canon_7 rfl (by decide) ?_
    obtain ⟨rfl, rfl⟩ := rt2 h
    exact J_iret C dX7_canon_9 (Nat.zero_le _) (Nat.zero_le _)
def f_X7_writeWord_L2 (N : Nat) : Nat → Nat → Int32 → Int32 → A_M → Option A_M
  | 0, _, _, _, _ => none
  | n + 1, x0, x1, x2, M =>
    (gR M x0 7 8).bind fun v4 =>
    (ldI M v4 x1).bind fun v8 =>
    if v8 ≤ x2 then
    (some M)
    else
    ((gR M x0 7 43).bind fun v13 =>
    (gI M x0 7 44).bind fun v17 =>
    (gR M x0 7 7).bind fun v21 =>
    (ldJ M v21 x1).bind fun v25 =>
    bnd2 (f_X7_signAt N v25 x2 M) fun v27 M27 =>
    (stI M27 v13 v17 v27).bind fun M30 =>
    (gI M30 x0 7 44).bind fun v33 =>
    (pV M30 x0 7 44 (.int (v33 + (1 : Int32)))).bind fun M38 =>
    f_X7_writeWord_L2 N n x0 x1 (x2 + 1) M38)
set_option maxHeartbeats 4000000 in
set_option maxRecDepth 100000 in
theorem ok_X7_writeWord_L2 {X : JX} (C : Cx X cX7_writeWord RX7 3 none 1 22) (N : Nat) : ∀ (n : Nat) (x0 : Nat) (x1 : Int32) (x2 : Int32) (M : A_M) (M' : A_M), f_X7_writeWord_L2 N n x0 x1 x2 M = some M' → J X 3 2 [(0, .ref x0), (1, .int x1), (2, .int x2)] [] M 0 0 none M' := by
  intro n
  induction n with
  | zero =>
    intro x0 x1 x2 M M' h
    cases h
  | succ n ih =>
    intro x0 x1 x2 M M' h
    rw [f_X7_writeWord_L2] at h
    refine J_iload_n (pc' := 3) C 2 dX7_writeWord_2 rfl rfl rfl ?_
    refine J_aload_n (pc' := 4) C 0 dX7_writeWord_3 rfl rfl rfl ?_
    obtain ⟨v4, e4, h⟩ := bd h
    refine jg_887 (pc' := 7) C dX7_writeWord_4 rfl (gR_some e4) ?_
    refine J_iload_n (pc' := 8) C 1 dX7_writeWord_7 rfl rfl rfl ?_
    obtain ⟨v8, e8, h⟩ := bd h
    refine J_iald (pc' := 9) C dX7_writeWord_8 rfl e8 ?_
    refine J_icmp_ge (tgt := 47) (pc' := 12) C dX7_writeWord_9 (by decide) rfl (fun c9 => ?_) (fun c9 => ?_)
    · rw [if_pos c9] at h
      obtain rfl := rt1 h
      exact J_vret C dX7_writeWord_47 (Nat.zero_le _) (Nat.zero_le _)
    · rw [if_neg c9] at h
      refine J_aload_n (pc' := 13) C 0 dX7_writeWord_12 rfl rfl rfl ?_
      obtain ⟨v13, e13, h⟩ := bd h
      refine jg_922 (pc' := 16) C dX7_writeWord_13 rfl (gR_some e13) ?_
      refine J_aload_n (pc' := 17) C 0 dX7_writeWord_16 rfl rfl rfl ?_
      obtain ⟨v17, e17, h⟩ := bd h
      refine jg_923 (pc' := 20) C dX7_writeWord_17 rfl (gI_some e17) ?_
      refine J_aload_n (pc' := 21) C 0 dX7_writeWord_20 rfl rfl rfl ?_
      obtain ⟨v21, e21, h⟩ := bd h
      refine jg_886 (pc' := 24) C dX7_writeWord_21 rfl (gR_some e21) ?_
      refine J_iload_n (pc' := 25) C 1 dX7_writeWord_24 rfl rfl rfl ?_
      obtain ⟨v25, e25, h⟩ := bd h
      refine J_lald (pc' := 26) C dX7_writeWord_25 rfl e25 ?_
      refine J_iload_n (pc' := 27) C 2 dX7_writeWord_26 rfl rfl rfl ?_
      obtain ⟨v27, M27, e27, h⟩ := bd2 h
      refine J_cS (pc' := 30) (st := [.int v17, .ref v13]) (st2 := [.int v27, .int v17, .ref v13]) (cs2 := 0) (sl2 := 0) C (ok_X7_signAt N e27) mw_X7_signAt wq_1222 rfl dX7_writeWord_27 rfl rfl (Nat.le_of_ble_eq_true rfl) (by decide) (by decide) rfl rfl rfl (Nat.zero_le _) (Nat.zero_le _) ?_
      obtain ⟨M30, e30, h⟩ := bd h
      refine J_iast (pc' := 31) C dX7_writeWord_30 rfl e30 ?_
      refine J_aload_n (pc' := 32) C 0 dX7_writeWord_31 rfl rfl rfl ?_
      refine J_dup (pc' := 33) C dX7_writeWord_32 rfl rfl ?_
      obtain ⟨v33, e33, h⟩ := bd h
      refine jg_923 (pc' := 36) C dX7_writeWord_33 rfl (gI_some e33) ?_
      refine J_iconst (pc' := 37) (v := (1 : Int32)) C dX7_writeWord_36 rfl (by decide) ?_
      refine J_iadd (pc' := 38) C dX7_writeWord_37 rfl ?_
      obtain ⟨M38, e38, h⟩ := bd h
      refine jp_923 (pc' := 41) C (fun _ => ⟨rfl, rfl⟩) dX7_writeWord_38 rfl e38 ?_
      refine J_iinc (pc' := 44) (lv' := [(2, .int (x2 + 1)), (0, .ref x0), (1, .int x1)]) C 2 dX7_writeWord_41 rfl rfl rfl (by decide) rfl ?_
      refine J_goto (tgt := 2) C dX7_writeWord_44 (by decide) ?_
      refine J_sub (lv' := [(0, .ref x0), (1, .int x1), (2, .int (x2 + 1))]) [1, 2, 0] rfl ?_
      exact ih _ _ _ _ _ h
def f_X7_writeWord (N : Nat) (a0 : Nat) (a1 : Int32) (M : A_M) : Option A_M :=
  f_X7_writeWord_L2 N N a0 a1 (0 : Int32) M
set_option maxHeartbeats 4000000 in
set_option maxRecDepth 100000 in
theorem ok_X7_writeWord (N : Nat) {a0 : Nat} {a1 : Int32} {M : A_M} {M' : A_M} (h : f_X7_writeWord N a0 a1 M = some M') : Runs yX7_writeWord cX7_writeWord 3 none 1 22 0 0 [.ref a0, .int a1] M none M' := by
  refine Runs.intro (by decide) (Nat.le_of_ble_eq_true rfl) (fun X C hnm hMC hMS => ?_)
  have C : Cx X cX7_writeWord RX7 3 none 1 22 := C
  show J X 3 0 [(0, .ref a0), (1, .int a1)] [] M 0 0 none M'
  unfold f_X7_writeWord at h
  refine J_iconst (pc' := 1) (v := (0 : Int32)) C dX7_writeWord_0 rfl (by decide) ?_
  refine J_istore_n (pc' := 2) (lv' := [(2, .int (0 : Int32)), (0, .ref a0), (1, .int a1)]) C dX7_writeWord_1 rfl rfl (by decide) rfl ?_
  refine J_sub (lv' := [(0, .ref a0), (1, .int a1), (2, .int (0 : Int32))]) [1, 2, 0] rfl ?_
  exact ok_X7_writeWord_L2 C N N _ _ _ _ _ h
def f_X7_write (N : Nat) (a0 : Nat) (a1 : Int32) (M : A_M) : Option (Int32 × A_M) :=
  (chk M a0 7).bind fun _ =>
  bnd2 (f_X7_isThing N a0 a1 M) fun v2 M2 =>
  if v2 = 0 then
  (some ((-1 : Int32), M2))
  else
  ((gI M2 a0 7 4).bind fun v11 =>
  if v11 = 0 then
  (some ((-3 : Int32), M2))
  else
  ((gI M2 a0 7 44).bind fun v21 =>
  (gR M2 a0 7 8).bind fun v25 =>
  (ldI M2 v25 a1).bind fun v29 =>
  if (v21 + v29) ≤ (200 : Int32) then
  ((chk M2 a0 7).bind fun _ =>
  (f_X7_writeWord N a0 a1 M2).bind fun M42 =>
  (gI M42 a0 7 44).bind fun v46 =>
  some (v46, M42))
  else
  (some ((-4 : Int32), M2))))
set_option maxHeartbeats 4000000 in
set_option maxRecDepth 100000 in
theorem ok_X7_write (N : Nat) {a0 : Nat} {a1 : Int32} {M : A_M} {r : Int32} {M' : A_M} (h : f_X7_write N a0 a1 M = some (r, M')) : Runs yX7_write cX7_write 2 (some .int) 2 46 0 0 [.ref a0, .int a1] M (some (.int r)) M' := by
  refine Runs.intro (by decide) (Nat.le_of_ble_eq_true rfl) (fun X C hnm hMC hMS => ?_)
  have C : Cx X cX7_write RX7 2 (some .int) 2 46 := C
  show J X 2 0 [(0, .ref a0), (1, .int a1)] [] M 0 0 (some (.int r)) M'
  unfold f_X7_write at h
  refine J_aload_n (pc' := 1) C 0 dX7_write_0 rfl rfl rfl ?_
  refine J_iload_n (pc' := 2) C 1 dX7_write_1 rfl rfl rfl ?_
  obtain ⟨_, q2, h⟩ := bd h
  obtain ⟨v2, M2, e2, h⟩ := bd2 h
  refine J_cV (pc' := 5) (st := []) (st2 := [.int v2]) (cs2 := 0) (sl2 := 0) C 7 rfl rfl q2 (ok_X7_isThing N e2) mw_X7_isThing wq_1074 rfl dX7_write_2 rfl rfl (Nat.le_of_ble_eq_true rfl) (by decide) (by decide) rfl rfl rfl (Nat.zero_le _) (Nat.zero_le _) ?_
  refine J_if_ne (tgt := 10) (pc' := 8) C dX7_write_5 (by decide) rfl (fun c5 => ?_) (fun c5 => ?_)
  · rw [if_neg c5] at h
    refine J_aload_n (pc' := 11) C 0 dX7_write_10 rfl rfl rfl ?_
    obtain ⟨v11, e11, h⟩ := bd h
    refine jg_883 (pc' := 14) C dX7_write_11 rfl (gI_some e11) ?_
    refine J_if_ne (tgt := 20) (pc' := 17) C dX7_write_14 (by decide) rfl (fun c14 => ?_) (fun c14 => ?_)
    · rw [if_neg c14] at h
      refine J_aload_n (pc' := 21) C 0 dX7_write_20 rfl rfl rfl ?_
      obtain ⟨v21, e21, h⟩ := bd h
      refine jg_923 (pc' := 24) C dX7_write_21 rfl (gI_some e21) ?_
      refine J_aload_n (pc' := 25) C 0 dX7_write_24 rfl rfl rfl ?_
      obtain ⟨v25, e25, h⟩ := bd h
      refine jg_887 (pc' := 28) C dX7_write_25 rfl (gR_some e25) ?_
      refine J_iload_n (pc' := 29) C 1 dX7_write_28 rfl rfl rfl ?_
      obtain ⟨v29, e29, h⟩ := bd h
      refine J_iald (pc' := 30) C dX7_write_29 rfl e29 ?_
      refine J_iadd (pc' := 31) C dX7_write_30 rfl ?_
      refine J_sipush (pc' := 34) (v := (200 : Int32)) C dX7_write_31 rfl (by decide) ?_
      refine J_icmp_le (tgt := 40) (pc' := 37) C dX7_write_34 (by decide) rfl (fun c34 => ?_) (fun c34 => ?_)
      · rw [if_pos c34] at h
        refine J_aload_n (pc' := 41) C 0 dX7_write_40 rfl rfl rfl ?_
        refine J_iload_n (pc' := 42) C 1 dX7_write_41 rfl rfl rfl ?_
        obtain ⟨_, q42, h⟩ := bd h
        obtain ⟨M42, e42, h⟩ := bd h
        refine J_cV (pc' := 45) (st := []) (st2 := []) (cs2 := 0) (sl2 := 0) C 7 rfl rfl q42 (ok_X7_writeWord N e42) mw_X7_writeWord wq_1321 rfl dX7_write_42 rfl rfl (Nat.le_of_ble_eq_true rfl) (by decide) (by decide) rfl rfl rfl (Nat.zero_le _) (Nat.zero_le _) ?_
        refine J_aload_n (pc' := 46) C 0 dX7_write_45 rfl rfl rfl ?_
        obtain ⟨v46, e46, h⟩ := bd h
        refine jg_923 (pc' := 49) C dX7_write_46 rfl (gI_some e46) ?_
        obtain ⟨rfl, rfl⟩ := rt2 h
        exact J_iret C dX7_write_49 (Nat.zero_le _) (Nat.zero_le _)
      · rw [if_neg c34] at h
        refine J_bipush (pc' := 39) (v := (-4 : Int32)) C dX7_write_37 rfl (by decide) ?_
        obtain ⟨rfl, rfl⟩ := rt2 h
        exact J_iret C dX7_write_39 (Nat.zero_le _) (Nat.zero_le _)
    · rw [if_pos c14] at h
      refine J_bipush (pc' := 19) (v := (-3 : Int32)) C dX7_write_17 rfl (by decide) ?_
      obtain ⟨rfl, rfl⟩ := rt2 h
      exact J_iret C dX7_write_19 (Nat.zero_le _) (Nat.zero_le _)
  · rw [if_pos c5] at h
    refine J_iconst (pc' := 9) (v := (-1 : Int32)) C dX7_write_8 rfl (by decide) ?_
    obtain ⟨rfl, rfl⟩ := rt2 h
    exact J_iret C dX7_write_9 (Nat.zero_le _) (Nat.zero_le _)
def f_X7_put (N : Nat) (a0 : Nat) (a1 : Int32) (M : A_M) : Option (Int32 × A_M) :=
  (chk M a0 7).bind fun _ =>
  bnd2 (f_X7_isSign N a0 a1 M) fun v2 M2 =>
  if v2 = 0 then
  (some ((-1 : Int32), M2))
  else
  ((gI M2 a0 7 44).bind fun v11 =>
  if v11 = (200 : Int32) then
  (some ((-4 : Int32), M2))
  else
  ((gR M2 a0 7 43).bind fun v24 =>
  (gI M2 a0 7 44).bind fun v28 =>
  (stI M2 v24 v28 a1).bind fun M32 =>
  (gI M32 a0 7 44).bind fun v35 =>
  (pV M32 a0 7 44 (.int (v35 + (1 : Int32)))).bind fun M40 =>
  (gI M40 a0 7 44).bind fun v44 =>
  some (v44, M40)))
set_option maxHeartbeats 4000000 in
set_option maxRecDepth 100000 in
theorem ok_X7_put (N : Nat) {a0 : Nat} {a1 : Int32} {M : A_M} {r : Int32} {M' : A_M} (h : f_X7_put N a0 a1 M = some (r, M')) : Runs yX7_put cX7_put 2 (some .int) 2 46 0 0 [.ref a0, .int a1] M (some (.int r)) M' := by
  refine Runs.intro (by decide) (Nat.le_of_ble_eq_true rfl) (fun X C hnm hMC hMS => ?_)
  have C : Cx X cX7_put RX7 2 (some .int) 2 46 := C
  show J X 2 0 [(0, .ref a0), (1, .int a1)] [] M 0 0 (some (.int r)) M'
  unfold f_X7_put at h
  refine J_aload_n (pc' := 1) C 0 dX7_put_0 rfl rfl rfl ?_
  refine J_iload_n (pc' := 2) C 1 dX7_put_1 rfl rfl rfl ?_
  obtain ⟨_, q2, h⟩ := bd h
  obtain ⟨v2, M2, e2, h⟩ := bd2 h
  refine J_cV (pc' := 5) (st := []) (st2 := [.int v2]) (cs2 := 0) (sl2 := 0) C 7 rfl rfl q2 (ok_X7_isSign N e2) mw_X7_isSign wq_1111 rfl dX7_put_2 rfl rfl (Nat.le_of_ble_eq_true rfl) (by decide) (by decide) rfl rfl rfl (Nat.zero_le _) (Nat.zero_le _) ?_
  refine J_if_ne (tgt := 10) (pc' := 8) C dX7_put_5 (by decide) rfl (fun c5 => ?_) (fun c5 => ?_)
  · rw [if_neg c5] at h
    refine J_aload_n (pc' := 11) C 0 dX7_put_10 rfl rfl rfl ?_
    obtain ⟨v11, e11, h⟩ := bd h
    refine jg_923 (pc' := 14) C dX7_put_11 rfl (gI_some e11) ?_
    refine J_sipush (pc' := 17) (v := (200 : Int32)) C dX7_put_14 rfl (by decide) ?_
    refine J_icmp_ne (tgt := 23) (pc' := 20) C dX7_put_17 (by decide) rfl (fun c17 => ?_) (fun c17 => ?_)
    · rw [if_neg c17] at h
      refine J_aload_n (pc' := 24) C 0 dX7_put_23 rfl rfl rfl ?_
      obtain ⟨v24, e24, h⟩ := bd h
      refine jg_922 (pc' := 27) C dX7_put_24 rfl (gR_some e24) ?_
      refine J_aload_n (pc' := 28) C 0 dX7_put_27 rfl rfl rfl ?_
      obtain ⟨v28, e28, h⟩ := bd h
      refine jg_923 (pc' := 31) C dX7_put_28 rfl (gI_some e28) ?_
      refine J_iload_n (pc' := 32) C 1 dX7_put_31 rfl rfl rfl ?_
      obtain ⟨M32, e32, h⟩ := bd h
      refine J_iast (pc' := 33) C dX7_put_32 rfl e32 ?_
      refine J_aload_n (pc' := 34) C 0 dX7_put_33 rfl rfl rfl ?_
      refine J_dup (pc' := 35) C dX7_put_34 rfl rfl ?_
      obtain ⟨v35, e35, h⟩ := bd h
      refine jg_923 (pc' := 38) C dX7_put_35 rfl (gI_some e35) ?_
      refine J_iconst (pc' := 39) (v := (1 : Int32)) C dX7_put_38 rfl (by decide) ?_
      refine J_iadd (pc' := 40) C dX7_put_39 rfl ?_
      obtain ⟨M40, e40, h⟩ := bd h
      refine jp_923 (pc' := 43) C (fun _ => ⟨rfl, rfl⟩) dX7_put_40 rfl e40 ?_
      refine J_aload_n (pc' := 44) C 0 dX7_put_43 rfl rfl rfl ?_
      obtain ⟨v44, e44, h⟩ := bd h
      refine jg_923 (pc' := 47) C dX7_put_44 rfl (gI_some e44) ?_
      obtain ⟨rfl, rfl⟩ := rt2 h
      exact J_iret C dX7_put_47 (Nat.zero_le _) (Nat.zero_le _)
    · rw [if_pos c17] at h
      refine J_bipush (pc' := 22) (v := (-4 : Int32)) C dX7_put_20 rfl (by decide) ?_
      obtain ⟨rfl, rfl⟩ := rt2 h
      exact J_iret C dX7_put_22 (Nat.zero_le _) (Nat.zero_le _)
  · rw [if_pos c5] at h
    refine J_iconst (pc' := 9) (v := (-1 : Int32)) C dX7_put_8 rfl (by decide) ?_
    obtain ⟨rfl, rfl⟩ := rt2 h
    exact J_iret C dX7_put_9 (Nat.zero_le _) (Nat.zero_le _)
def f_X7_wipe (N : Nat) (a0 : Nat) (M : A_M) : Option (Int32 × A_M) :=
  (gI M a0 7 44).bind fun v1 =>
  (pV M a0 7 44 (.int (0 : Int32))).bind fun M7 =>
  some (v1, M7)
set_option maxHeartbeats 4000000 in
set_option maxRecDepth 100000 in
theorem ok_X7_wipe (N : Nat) {a0 : Nat} {M : A_M} {r : Int32} {M' : A_M} (h : f_X7_wipe N a0 M = some (r, M')) : Runs yX7_wipe cX7_wipe 2 (some .int) 0 0 0 0 [.ref a0] M (some (.int r)) M' := by
  refine Runs.intro (by decide) (Nat.le_of_ble_eq_true rfl) (fun X C hnm hMC hMS => ?_)
  have C : Cx X cX7_wipe RX7 2 (some .int) 0 0 := C
  show J X 2 0 [(0, .ref a0)] [] M 0 0 (some (.int r)) M'
  unfold f_X7_wipe at h
  refine J_aload_n (pc' := 1) C 0 dX7_wipe_0 rfl rfl rfl ?_
  obtain ⟨v1, e1, h⟩ := bd h
  refine jg_923 (pc' := 4) C dX7_wipe_1 rfl (gI_some e1) ?_
  refine J_istore_n (pc' := 5) (lv' := [(1, .int v1), (0, .ref a0)]) C dX7_wipe_4 rfl rfl (by decide) rfl ?_
  refine J_aload_n (pc' := 6) C 1 dX7_wipe_5 rfl rfl rfl ?_
  refine J_iconst (pc' := 7) (v := (0 : Int32)) C dX7_wipe_6 rfl (by decide) ?_
  obtain ⟨M7, e7, h⟩ := bd h
  refine jp_923 (pc' := 10) C (fun _ => ⟨rfl, rfl⟩) dX7_wipe_7 rfl e7 ?_
  refine J_iload_n (pc' := 11) C 0 dX7_wipe_10 rfl rfl rfl ?_
  obtain ⟨rfl, rfl⟩ := rt2 h
  exact J_iret C dX7_wipe_11 (Nat.zero_le _) (Nat.zero_le _)
def f_X7_line (N : Nat) (a0 : Nat) (a1 : Int32) (M : A_M) : Option (Int32 × A_M) :=
  (gI M a0 7 44).bind fun v4 =>
  bnd2 (f_X7_in N (a1.toInt64) (0 : Int64) ((v4 - (1 : Int32)).toInt64) M) fun v10 M10 =>
  if v10 = 0 then
  (some ((-6 : Int32), M10))
  else
  ((gR M10 a0 7 43).bind fun v17 =>
  (ldI M10 v17 a1).bind fun v21 =>
  some (v21, M10))
set_option maxHeartbeats 4000000 in
set_option maxRecDepth 100000 in
theorem ok_X7_line (N : Nat) {a0 : Nat} {a1 : Int32} {M : A_M} {r : Int32} {M' : A_M} (h : f_X7_line N a0 a1 M = some (r, M')) : Runs yX7_line cX7_line 2 (some .int) 1 25 0 0 [.ref a0, .int a1] M (some (.int r)) M' := by
  refine Runs.intro (by decide) (Nat.le_of_ble_eq_true rfl) (fun X C hnm hMC hMS => ?_)
  have C : Cx X cX7_line RX7 2 (some .int) 1 25 := C
  show J X 2 0 [(0, .ref a0), (1, .int a1)] [] M 0 0 (some (.int r)) M'
  unfold f_X7_line at h
  refine J_iload_n (pc' := 1) C 1 dX7_line_0 rfl rfl rfl ?_
  refine J_i2l (pc' := 2) C dX7_line_1 rfl ?_
  refine J_lconst (pc' := 3) (v := (0 : Int64)) C dX7_line_2 rfl (by decide) ?_
  refine J_aload_n (pc' := 4) C 0 dX7_line_3 rfl rfl rfl ?_
  obtain ⟨v4, e4, h⟩ := bd h
  refine jg_923 (pc' := 7) C dX7_line_4 rfl (gI_some e4) ?_
  refine J_iconst (pc' := 8) (v := (1 : Int32)) C dX7_line_7 rfl (by decide) ?_
  refine J_isub (pc' := 9) C dX7_line_8 rfl ?_
  refine J_i2l (pc' := 10) C dX7_line_9 rfl ?_
  obtain ⟨v10, M10, e10, h⟩ := bd2 h
  refine J_cS (pc' := 13) (st := []) (st2 := [.int v10]) (cs2 := 0) (sl2 := 0) C (ok_X7_in N e10) mw_X7_in wq_1057 rfl dX7_line_10 rfl rfl (Nat.le_of_ble_eq_true rfl) (by decide) (by decide) rfl rfl rfl (Nat.zero_le _) (Nat.zero_le _) ?_
  refine J_if_eq (tgt := 25) (pc' := 16) C dX7_line_13 (by decide) rfl (fun c13 => ?_) (fun c13 => ?_)
  · rw [if_pos c13] at h
    refine J_bipush (pc' := 27) (v := (-6 : Int32)) C dX7_line_25 rfl (by decide) ?_
    obtain ⟨rfl, rfl⟩ := rt2 h
    exact J_iret C dX7_line_27 (Nat.zero_le _) (Nat.zero_le _)
  · rw [if_neg c13] at h
    refine J_aload_n (pc' := 17) C 0 dX7_line_16 rfl rfl rfl ?_
    obtain ⟨v17, e17, h⟩ := bd h
    refine jg_922 (pc' := 20) C dX7_line_17 rfl (gR_some e17) ?_
    refine J_iload_n (pc' := 21) C 1 dX7_line_20 rfl rfl rfl ?_
    obtain ⟨v21, e21, h⟩ := bd h
    refine J_iald (pc' := 22) C dX7_line_21 rfl e21 ?_
    refine J_goto (tgt := 27) C dX7_line_22 (by decide) ?_
    obtain ⟨rfl, rfl⟩ := rt2 h
    exact J_iret C dX7_line_27 (Nat.zero_le _) (Nat.zero_le _)
