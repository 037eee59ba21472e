def f_X7_wordAt_K141 (N : Nat) (k8 : Nat → Int64 → Int32 → Int32 → A_M → Option (Int32 × A_M)) (x0 : Nat) (x2 : Int64) (x4 : Int32) (x5 : Int32) (x6 : Int32) (M : A_M) : Option (Int32 × A_M) :=
  if x6 = 0 then
  (some (((-x5) - (1 : Int32)), M))
  else
  (k8 x0 x2 x4 (x5 + 1) M)
set_option maxHeartbeats 4000000 in
set_option maxRecDepth 100000 in
theorem ok_X7_wordAt_K141 {X : JX} (C : Cx X cX7_wordAt RX7 8 (some .int) 1 25) (N : Nat) {k8 : Nat → Int64 → Int32 → Int32 → A_M → Option (Int32 × A_M)} (hk8 : ∀ (x0 : Nat) (x2 : Int64) (x4 : Int32) (x5 : Int32) (M : A_M) (r : Int32) (M' : A_M), k8 x0 x2 x4 x5 M = some (r, M') → J X 8 8 [(0, .ref x0), (2, .long x2), (4, .int x4), (5, .int x5)] [] M 0 0 (some (.int r)) M') : ∀ (x0 : Nat) (x2 : Int64) (x4 : Int32) (x5 : Int32) (x6 : Int32) (M : A_M) (r : Int32) (M' : A_M), f_X7_wordAt_K141 N k8 x0 x2 x4 x5 x6 M = some (r, M') → J X 8 141 [(0, .ref x0), (2, .long x2), (4, .int x4), (5, .int x5), (6, .int x6)] [] M 0 0 (some (.int r)) M' := by
  intro x0 x2 x4 x5 x6 M r M' h
  unfold f_X7_wordAt_K141 at h
  refine J_iload (pc' := 143) C 4 dX7_wordAt_141 rfl rfl ?_
  refine J_if_ne (tgt := 152) (pc' := 146) C dX7_wordAt_143 (by decide) rfl (fun c143 => ?_) (fun c143 => ?_)
  · rw [if_neg c143] at h
    refine J_iinc (pc' := 155) (lv' := [(5, .int (x5 + 1)), (0, .ref x0), (2, .long x2), (4, .int x4), (6, .int x6)]) C 3 dX7_wordAt_152 rfl rfl rfl (by decide) rfl ?_
    refine J_goto (tgt := 8) C dX7_wordAt_155 (by decide) ?_
    refine J_sub (lv' := [(0, .ref x0), (2, .long x2), (4, .int x4), (5, .int (x5 + 1))]) [1, 2, 3, 0] rfl ?_
    exact hk8 _ _ _ _ _ _ _ h
  · rw [if_pos c143] at h
    refine J_iload (pc' := 148) C 3 dX7_wordAt_146 rfl rfl ?_
    refine J_ineg (pc' := 149) C dX7_wordAt_148 rfl ?_
    refine J_iconst (pc' := 150) (v := (1 : Int32)) C dX7_wordAt_149 rfl (by decide) ?_
    refine J_isub (pc' := 151) C dX7_wordAt_150 rfl ?_
    obtain ⟨rfl, rfl⟩ := rt2 h
    exact J_iret C dX7_wordAt_151 (Nat.zero_le _) (Nat.zero_le _)
def f_X7_wordAt_K133 (N : Nat) (k8 : Nat → Int64 → Int32 → Int32 → A_M → Option (Int32 × A_M)) (k57 : Nat → Int64 → Int32 → Int32 → Int32 → Int32 → A_M → Option (Int32 × A_M)) (x0 : Nat) (x2 : Int64) (x4 : Int32) (x5 : Int32) (x7 : Int32) (s0 : Int32) (M : A_M) : Option (Int32 × A_M) :=
  k57 x0 x2 x4 x5 s0 (x7 + 1) M
set_option maxHeartbeats 4000000 in
set_option maxRecDepth 100000 in
theorem ok_X7_wordAt_K133 {X : JX} (C : Cx X cX7_wordAt RX7 8 (some .int) 1 25) (N : Nat) {k8 : Nat → Int64 → Int32 → Int32 → A_M → Option (Int32 × A_M)} (hk8 : ∀ (x0 : Nat) (x2 : Int64) (x4 : Int32) (x5 : Int32) (M : A_M) (r : Int32) (M' : A_M), k8 x0 x2 x4 x5 M = some (r, M') → J X 8 8 [(0, .ref x0), (2, .long x2), (4, .int x4), (5, .int x5)] [] M 0 0 (some (.int r)) M') {k57 : Nat → Int64 → Int32 → Int32 → Int32 → Int32 → A_M → Option (Int32 × A_M)} (hk57 : ∀ (x0 : Nat) (x2 : Int64) (x4 : Int32) (x5 : Int32) (x6 : Int32) (x7 : Int32) (M : A_M) (r : Int32) (M' : A_M), k57 x0 x2 x4 x5 x6 x7 M = some (r, M') → J X 8 57 [(0, .ref x0), (2, .long x2), (4, .int x4), (5, .int x5), (6, .int x6), (7, .int x7)] [] M 0 0 (some (.int r)) M') : ∀ (x0 : Nat) (x2 : Int64) (x4 : Int32) (x5 : Int32) (x7 : Int32) (s0 : Int32) (M : A_M) (r : Int32) (M' : A_M), f_X7_wordAt_K133 N k8 k57 x0 x2 x4 x5 x7 s0 M = some (r, M') → J X 8 133 [(0, .ref x0), (2, .long x2), (4, .int x4), (5, .int x5), (7, .int x7)] [.int s0] M 0 0 (some (.int r)) M' := by
  intro x0 x2 x4 x5 x7 s0 M r M' h
  unfold f_X7_wordAt_K133 at h
  refine J_istore (pc' := 135) (lv' := [(6, .int s0), (0, .ref x0), (2, .long x2), (4, .int x4), (5, .int x5), (7, .int x7)]) C dX7_wordAt_133 rfl (by decide) rfl ?_
  refine J_iinc (pc' := 138) (lv' := [(7, .int (x7 + 1)), (6, .int s0), (0, .ref x0), (2, .long x2), (4, .int x4), (5, .int x5)]) C 5 dX7_wordAt_135 rfl rfl rfl (by decide) rfl ?_
  refine J_goto (tgt := 57) C dX7_wordAt_138 (by decide) ?_
  refine J_sub (lv' := [(0, .ref x0), (2, .long x2), (4, .int x4), (5, .int x5), (6, .int s0), (7, .int (x7 + 1))]) [2, 3, 4, 5, 1, 0] rfl ?_
  exact hk57 _ _ _ _ _ _ _ _ _ h
def f_X7_wordAt_K132 (N : Nat) (k8 : Nat → Int64 → Int32 → Int32 → A_M → Option (Int32 × A_M)) (k57 : Nat → Int64 → Int32 → Int32 → Int32 → Int32 → A_M → Option (Int32 × A_M)) (x0 : Nat) (x2 : Int64) (x4 : Int32) (x5 : Int32) (x7 : Int32) (M : A_M) : Option (Int32 × A_M) :=
  f_X7_wordAt_K133 N k8 k57 x0 x2 x4 x5 x7 (0 : Int32) M
set_option maxHeartbeats 4000000 in
set_option maxRecDepth 100000 in
theorem ok_X7_wordAt_K132 {X : JX} (C : Cx X cX7_wordAt RX7 8 (some .int) 1 25) (N : Nat) {k8 : Nat → Int64 → Int32 → Int32 → A_M → Option (Int32 × A_M)} (hk8 : ∀ (x0 : Nat) (x2 : Int64) (x4 : Int32) (x5 : Int32) (M : A_M) (r : Int32) (M' : A_M), k8 x0 x2 x4 x5 M = some (r, M') → J X 8 8 [(0, .ref x0), (2, .long x2), (4, .int x4), (5, .int x5)] [] M 0 0 (some (.int r)) M') {k57 : Nat → Int64 → Int32 → Int32 → Int32 → Int32 → A_M → Option (Int32 × A_M)} (hk57 : ∀ (x0 : Nat) (x2 : Int64) (x4 : Int32) (x5 : Int32) (x6 : Int32) (x7 : Int32) (M : A_M) (r : Int32) (M' : A_M), k57 x0 x2 x4 x5 x6 x7 M = some (r, M') → J X 8 57 [(0, .ref x0), (2, .long x2), (4, .int x4), (5, .int x5), (6, .int x6), (7, .int x7)] [] M 0 0 (some (.int r)) M') : ∀ (x0 : Nat) (x2 : Int64) (x4 : Int32) (x5 : Int32) (x7 : Int32) (M : A_M) (r : Int32) (M' : A_M), f_X7_wordAt_K132 N k8 k57 x0 x2 x4 x5 x7 M = some (r, M') → J X 8 132 [(0, .ref x0), (2, .long x2), (4, .int x4), (5, .int x5), (7, .int x7)] [] M 0 0 (some (.int r)) M' := by
  intro x0 x2 x4 x5 x7 M r M' h
  unfold f_X7_wordAt_K132 at h
  refine J_iconst (pc' := 133) (v := (0 : Int32)) C dX7_wordAt_132 rfl (by decide) ?_
  refine J_sub (lv' := [(0, .ref x0), (2, .long x2), (4, .int x4), (5, .int x5), (7, .int x7)]) [0, 1, 2, 3, 4] rfl ?_
  exact ok_X7_wordAt_K133 C N hk8 hk57 _ _ _ _ _ _ _ _ _ h
def f_X7_wordAt_K128 (N : Nat) (k8 : Nat → Int64 → Int32 → Int32 → A_M → Option (Int32 × A_M)) (k57 : Nat → Int64 → Int32 → Int32 → Int32 → Int32 → A_M → Option (Int32 × A_M)) (x0 : Nat) (x2 : Int64) (x4 : Int32) (x5 : Int32) (x7 : Int32) (M : A_M) : Option (Int32 × A_M) :=
  f_X7_wordAt_K133 N k8 k57 x0 x2 x4 x5 x7 (1 : Int32) M
set_option maxHeartbeats 4000000 in
set_option maxRecDepth 100000 in
theorem ok_X7_wordAt_K128 {X : JX} (C : Cx X cX7_wordAt RX7 8 (some .int) 1 25) (N : Nat) {k8 : Nat → Int64 → Int32 → Int32 → A_M → Option (Int32 × A_M)} (hk8 : ∀ (x0 : Nat) (x2 : Int64) (x4 : Int32) (x5 : Int32) (M : A_M) (r : Int32) (M' : A_M), k8 x0 x2 x4 x5 M = some (r, M') → J X 8 8 [(0, .ref x0), (2, .long x2), (4, .int x4), (5, .int x5)] [] M 0 0 (some (.int r)) M') {k57 : Nat → Int64 → Int32 → Int32 → Int32 → Int32 → A_M → Option (Int32 × A_M)} (hk57 : ∀ (x0 : Nat) (x2 : Int64) (x4 : Int32) (x5 : Int32) (x6 : Int32) (x7 : Int32) (M : A_M) (r : Int32) (M' : A_M), k57 x0 x2 x4 x5 x6 x7 M = some (r, M') → J X 8 57 [(0, .ref x0), (2, .long x2), (4, .int x4), (5, .int x5), (6, .int x6), (7, .int x7)] [] M 0 0 (some (.int r)) M') : ∀ (x0 : Nat) (x2 : Int64) (x4 : Int32) (x5 : Int32) (x7 : Int32) (M : A_M) (r : Int32) (M' : A_M), f_X7_wordAt_K128 N k8 k57 x0 x2 x4 x5 x7 M = some (r, M') → J X 8 128 [(0, .ref x0), (2, .long x2), (4, .int x4), (5, .int x5), (7, .int x7)] [] M 0 0 (some (.int r)) M' := by
  intro x0 x2 x4 x5 x7 M r M' h
  unfold f_X7_wordAt_K128 at h
  refine J_iconst (pc' := 129) (v := (1 : Int32)) C dX7_wordAt_128 rfl (by decide) ?_
  refine J_goto (tgt := 133) C dX7_wordAt_129 (by decide) ?_
  refine J_sub (lv' := [(0, .ref x0), (2, .long x2), (4, .int x4), (5, .int x5), (7, .int x7)]) [0, 1, 2, 3, 4] rfl ?_
  exact ok_X7_wordAt_K133 C N hk8 hk57 _ _ _ _ _ _ _ _ _ h
def f_X7_wordAt_K93 (N : Nat) (k8 : Nat → Int64 → Int32 → Int32 → A_M → Option (Int32 × A_M)) (k57 : Nat → Int64 → Int32 → Int32 → Int32 → Int32 → A_M → Option (Int32 × A_M)) (x0 : Nat) (x2 : Int64) (x4 : Int32) (x5 : Int32) (x6 : Int32) (x7 : Int32) (M : A_M) : Option (Int32 × A_M) :=
  if x6 = 0 then
  (if (24 : Int32) < x4 then
  (f_X7_wordAt_K132 N k8 k57 x0 x2 x4 x5 x7 M)
  else
  ((gR M x0 7 7).bind fun v109 =>
  (ldJ M v109 x7).bind fun v114 =>
  (gR M x0 7 8).bind fun v116 =>
  (ldI M v116 x7).bind fun v121 =>
  bnd2 (f_X7_begins N x2 x4 v114 v121 M) fun v122 M122 =>
  if v122 = 0 then
  (f_X7_wordAt_K132 N k8 k57 x0 x2 x4 x5 x7 M122)
  else
  (f_X7_wordAt_K128 N k8 k57 x0 x2 x4 x5 x7 M122)))
  else
  (f_X7_wordAt_K128 N k8 k57 x0 x2 x4 x5 x7 M)
set_option maxHeartbeats 4000000 in
set_option maxRecDepth 100000 in
theorem ok_X7_wordAt_K93 {X : JX} (C : Cx X cX7_wordAt RX7 8 (some .int) 1 25) (N : Nat) {k8 : Nat → Int64 → Int32 → Int32 → A_M → Option (Int32 × A_M)} (hk8 : ∀ (x0 : Nat) (x2 : Int64) (x4 : Int32) (x5 : Int32) (M : A_M) (r : Int32) (M' : A_M), k8 x0 x2 x4 x5 M = some (r, M') → J X 8 8 [(0, .ref x0), (2, .long x2), (4, .int x4), (5, .int x5)] [] M 0 0 (some (.int r)) M') {k57 : Nat → Int64 → Int32 → Int32 → Int32 → Int32 → A_M → Option (Int32 × A_M)} (hk57 : ∀ (x0 : Nat) (x2 : Int64) (x4 : Int32) (x5 : Int32) (x6 : Int32) (x7 : Int32) (M : A_M) (r : Int32) (M' : A_M), k57 x0 x2 x4 x5 x6 x7 M = some (r, M') → J X 8 57 [(0, .ref x0), (2, .long x2), (4, .int x4), (5, .int x5), (6, .int x6), (7, .int x7)] [] M 0 0 (some (.int r)) M') : ∀ (x0 : Nat) (x2 : Int64) (x4 : Int32) (x5 : Int32) (x6 : Int32) (x7 : Int32) (M : A_M) (r : Int32) (M' : A_M), f_X7_wordAt_K93 N k8 k57 x0 x2 x4 x5 x6 x7 M = some (r, M') → J X 8 93 [(0, .ref x0), (2, .long x2), (4, .int x4), (5, .int x5), (6, .int x6), (7, .int x7)] [] M 0 0 (some (.int r)) M' := by
  intro x0 x2 x4 x5 x6 x7 M r M' h
  unfold f_X7_wordAt_K93 at h
  refine J_iload (pc' := 95) C 4 dX7_wordAt_93 rfl rfl ?_
  refine J_if_ne (tgt := 128) (pc' := 98) C dX7_wordAt_95 (by decide) rfl (fun c95 => ?_) (fun c95 => ?_)
  · rw [if_neg c95] at h
    refine J_sub (lv' := [(0, .ref x0), (2, .long x2), (4, .int x4), (5, .int x5), (7, .int x7)]) [0, 1, 2, 3, 5] rfl ?_
    exact ok_X7_wordAt_K128 C N hk8 hk57 _ _ _ _ _ _ _ _ h
  · rw [if_pos c95] at h
    refine J_iload (pc' := 100) C 2 dX7_wordAt_98 rfl rfl ?_
    refine J_bipush (pc' := 102) (v := (24 : Int32)) C dX7_wordAt_100 rfl (by decide) ?_
    refine J_icmp_gt (tgt := 132) (pc' := 105) C dX7_wordAt_102 (by decide) rfl (fun c102 => ?_) (fun c102 => ?_)
    · rw [if_pos c102] at h
      refine J_sub (lv' := [(0, .ref x0), (2, .long x2), (4, .int x4), (5, .int x5), (7, .int x7)]) [0, 1, 2, 3, 5] rfl ?_
      exact ok_X7_wordAt_K132 C N hk8 hk57 _ _ _ _ _ _ _ _ h
    · rw [if_neg c102] at h
      refine J_lload_n (pc' := 106) C 1 dX7_wordAt_105 rfl rfl rfl ?_
      refine J_iload (pc' := 108) C 2 dX7_wordAt_106 rfl rfl ?_
      refine J_aload_n (pc' := 109) C 0 dX7_wordAt_108 rfl rfl rfl ?_
      obtain ⟨v109, e109, h⟩ := bd h
      refine jg_886 (pc' := 112) C dX7_wordAt_109 rfl (gR_some e109) ?_
      refine J_iload (pc' := 114) C 5 dX7_wordAt_112 rfl rfl ?_
      obtain ⟨v114, e114, h⟩ := bd h
      refine J_lald (pc' := 115) C dX7_wordAt_114 rfl e114 ?_
      refine J_aload_n (pc' := 116) C 0 dX7_wordAt_115 rfl rfl rfl ?_
      obtain ⟨v116, e116, h⟩ := bd h
      refine jg_887 (pc' := 119) C dX7_wordAt_116 rfl (gR_some e116) ?_
      refine J_iload (pc' := 121) C 5 dX7_wordAt_119 rfl rfl ?_
      obtain ⟨v121, e121, h⟩ := bd h
      refine J_iald (pc' := 122) C dX7_wordAt_121 rfl e121 ?_
      obtain ⟨v122, M122, e122, h⟩ := bd2 h
      refine J_cS (pc' := 125) (st := []) (st2 := [.int v122]) (cs2 := 0) (sl2 := 0) C (ok_X7_begins N e122) mw_X7_begins wq_1249 rfl dX7_wordAt_122 rfl rfl (Nat.le_of_ble_eq_true rfl) (by decide) (by decide) rfl rfl rfl (Nat.zero_le _) (Nat.zero_le _) ?_
      refine J_if_eq (tgt := 132) (pc' := 128) C dX7_wordAt_125 (by decide) rfl (fun c125 => ?_) (fun c125 => ?_)
      · rw [if_pos c125] at h
        refine J_sub (lv' := [(0, .ref x0), (2, .long x2), (4, .int x4), (5, .int x5), (7, .int x7)]) [0, 1, 2, 3, 5] rfl ?_
        exact ok_X7_wordAt_K132 C N hk8 hk57 _ _ _ _ _ _ _ _ h
      · rw [if_neg c125] at h
        refine J_sub (lv' := [(0, .ref x0), (2, .long x2), (4, .int x4), (5, .int x5), (7, .int x7)]) [0, 1, 2, 3, 5] rfl ?_
        exact ok_X7_wordAt_K128 C N hk8 hk57 _ _ _ _ _ _ _ _ h
def f_X7_wordAt_L57 (N : Nat) (k8 : Nat → Int64 → Int32 → Int32 → A_M → Option (Int32 × A_M)) : Nat → Nat → Int64 → Int32 → Int32 → Int32 → Int32 → A_M → Option (Int32 × A_M)
  | 0, _, _, _, _, _, _, _ => none
  | n + 1, x0, x2, x4, x5, x6, x7, M =>
    (gI M x0 7 3).bind fun v60 =>
    if v60 ≤ x7 then
    (f_X7_wordAt_K141 N k8 x0 x2 x4 x5 x6 M)
    else
    ((gR M x0 7 8).bind fun v67 =>
    (ldI M v67 x7).bind fun v72 =>
    if v72 = x4 then
    ((gR M x0 7 7).bind fun v79 =>
    (ldJ M v79 x7).bind fun v84 =>
    if (lg_cmp v84 x2) = 0 then
    (some (x7, M))
    else
    (f_X7_wordAt_K93 N k8 (f_X7_wordAt_L57 N k8 n) x0 x2 x4 x5 x6 x7 M))
    else
    (f_X7_wordAt_K93 N k8 (f_X7_wordAt_L57 N k8 n) x0 x2 x4 x5 x6 x7 M))
set_option maxHeartbeats 4000000 in
set_option maxRecDepth 100000 in
theorem ok_X7_wordAt_L57 {X : JX} (C : Cx X cX7_wordAt RX7 8 (some .int) 1 25) (N : Nat) {k8 : Nat → Int64 → Int32 → Int32 → A_M → Option (Int32 × A_M)} (hk8 : ∀ (x0 : Nat) (x2 : Int64) (x4 : Int32) (x5 : Int32) (M : A_M) (r : Int32) (M' : A_M), k8 x0 x2 x4 x5 M = some (r, M') → J X 8 8 [(0, .ref x0), (2, .long x2), (4, .int x4), (5, .int x5)] [] M 0 0 (some (.int r)) M') : ∀ (n : Nat) (x0 : Nat) (x2 : Int64) (x4 : Int32) (x5 : Int32) (x6 : Int32) (x7 : Int32) (M : A_M) (r : Int32) (M' : A_M), f_X7_wordAt_L57 N k8 n x0 x2 x4 x5 x6 x7 M = some (r, M') → J X 8 57 [(0, .ref x0), (2, .long x2), (4, .int x4), (5, .int x5), (6, .int x6), (7, .int x7)] [] M 0 0 (some (.int r)) M' := by
  intro n
  induction n with
  | zero =>
    intro x0 x2 x4 x5 x6 x7 M r M' h
    cases h
  | succ n ih =>
    intro x0 x2 x4 x5 x6 x7 M r M' h
    rw [f_X7_wordAt_L57] at h
    refine J_iload (pc' := 59) C 5 dX7_wordAt_57 rfl rfl ?_
    refine J_aload_n (pc' := 60) C 0 dX7_wordAt_59 rfl rfl rfl ?_
    obtain ⟨v60, e60, h⟩ := bd h
    refine jg_882 (pc' := 63) C dX7_wordAt_60 rfl (gI_some e60) ?_
    refine J_icmp_ge (tgt := 141) (pc' := 66) C dX7_wordAt_63 (by decide) rfl (fun c63 => ?_) (fun c63 => ?_)
    · rw [if_pos c63] at h
      refine J_sub (lv' := [(0, .ref x0), (2, .long x2), (4, .int x4), (5, .int x5), (6, .int x6)]) [0, 1, 2, 3, 4] rfl ?_
      exact ok_X7_wordAt_K141 C N hk8 _ _ _ _ _ _ _ _ h
    · rw [if_neg c63] at h
      refine J_aload_n (pc' := 67) C 0 dX7_wordAt_66 rfl rfl rfl ?_
      obtain ⟨v67, e67, h⟩ := bd h
      refine jg_887 (pc' := 70) C dX7_wordAt_67 rfl (gR_some e67) ?_
      refine J_iload (pc' := 72) C 5 dX7_wordAt_70 rfl rfl ?_
      obtain ⟨v72, e72, h⟩ := bd h
      refine J_iald (pc' := 73) C dX7_wordAt_72 rfl e72 ?_
      refine J_iload (pc' := 75) C 2 dX7_wordAt_73 rfl rfl ?_
      refine J_icmp_ne (tgt := 93) (pc' := 78) C dX7_wordAt_75 (by decide) rfl (fun c75 => ?_) (fun c75 => ?_)
      · rw [if_neg c75] at h
        refine J_sub (lv' := [(0, .ref x0), (2, .long x2), (4, .int x4), (5, .int x5), (6, .int x6), (7, .int x7)]) [0, 1, 2, 3, 4, 5] rfl ?_
        exact ok_X7_wordAt_K93 C N hk8 ih _ _ _ _ _ _ _ _ _ h
      · rw [if_pos c75] at h
        refine J_aload_n (pc' := 79) C 0 dX7_wordAt_78 rfl rfl rfl ?_
        obtain ⟨v79, e79, h⟩ := bd h
        refine jg_886 (pc' := 82) C dX7_wordAt_79 rfl (gR_some e79) ?_
        refine J_iload (pc' := 84) C 5 dX7_wordAt_82 rfl rfl ?_
        obtain ⟨v84, e84, h⟩ := bd h
        refine J_lald (pc' := 85) C dX7_wordAt_84 rfl e84 ?_
        refine J_lload_n (pc' := 86) C 1 dX7_wordAt_85 rfl rfl rfl ?_
        refine J_lcmp (pc' := 87) C dX7_wordAt_86 rfl ?_
        refine J_if_ne (tgt := 93) (pc' := 90) C dX7_wordAt_87 (by decide) rfl (fun c87 => ?_) (fun c87 => ?_)
        · rw [if_neg c87] at h
          refine J_sub (lv' := [(0, .ref x0), (2, .long x2), (4, .int x4), (5, .int x5), (6, .int x6), (7, .int x7)]) [0, 1, 2, 3, 4, 5] rfl ?_
          exact ok_X7_wordAt_K93 C N hk8 ih _ _ _ _ _ _ _ _ _ h
        · rw [if_pos c87] at h
          refine J_iload (pc' := 92) C 5 dX7_wordAt_90 rfl rfl ?_
          obtain ⟨rfl, rfl⟩ := rt2 h
          exact J_iret C dX7_wordAt_92 (Nat.zero_le _) (Nat.zero_le _)
def f_X7_wordAt_K47 (N : Nat) (k8 : Nat → Int64 → Int32 → Int32 → A_M → Option (Int32 × A_M)) (x0 : Nat) (x4 : Int32) (x5 : Int32) (s0 : Int64) (M : A_M) : Option (Int32 × A_M) :=
  f_X7_wordAt_L57 N k8 N x0 s0 (x4 + 1) x5 (0 : Int32) (0 : Int32) M
set_option maxHeartbeats 4000000 in
set_option maxRecDepth 100000 in
theorem ok_X7_wordAt_K47 {X : JX} (C : Cx X cX7_wordAt RX7 8 (some .int) 1 25) (N : Nat) {k8 : Nat → Int64 → Int32 → Int32 → A_M → Option (Int32 × A_M)} (hk8 : ∀ (x0 : Nat) (x2 : Int64) (x4 : Int32) (x5 : Int32) (M : A_M) (r : Int32) (M' : A_M), k8 x0 x2 x4 x5 M = some (r, M') → J X 8 8 [(0, .ref x0), (2, .long x2), (4, .int x4), (5, .int x5)] [] M 0 0 (some (.int r)) M') : ∀ (x0 : Nat) (x4 : Int32) (x5 : Int32) (s0 : Int64) (M : A_M) (r : Int32) (M' : A_M), f_X7_wordAt_K47 N k8 x0 x4 x5 s0 M = some (r, M') → J X 8 47 [(0, .ref x0), (4, .int x4), (5, .int x5)] [.long s0] M 0 0 (some (.int r)) M' := by
  intro x0 x4 x5 s0 M r M' h
  unfold f_X7_wordAt_K47 at h
  refine J_lstore_n (pc' := 48) (lv' := [(2, .long s0), (0, .ref x0), (4, .int x4), (5, .int x5)]) C dX7_wordAt_47 rfl rfl (by decide) rfl ?_
  refine J_iinc (pc' := 51) (lv' := [(4, .int (x4 + 1)), (2, .long s0), (0, .ref x0), (5, .int x5)]) C 2 dX7_wordAt_48 rfl rfl rfl (by decide) rfl ?_
  refine J_iconst (pc' := 52) (v := (0 : Int32)) C dX7_wordAt_51 rfl (by decide) ?_
  refine J_istore (pc' := 54) (lv' := [(6, .int (0 : Int32)), (4, .int (x4 + 1)), (2, .long s0), (0, .ref x0), (5, .int x5)]) C dX7_wordAt_52 rfl (by decide) rfl ?_
  refine J_iconst (pc' := 55) (v := (0 : Int32)) C dX7_wordAt_54 rfl (by decide) ?_
  refine J_istore (pc' := 57) (lv' := [(7, .int (0 : Int32)), (6, .int (0 : Int32)), (4, .int (x4 + 1)), (2, .long s0), (0, .ref x0), (5, .int x5)]) C dX7_wordAt_55 rfl (by decide) rfl ?_
  refine J_sub (lv' := [(0, .ref x0), (2, .long s0), (4, .int (x4 + 1)), (5, .int x5), (6, .int (0 : Int32)), (7, .int (0 : Int32))]) [4, 3, 2, 5, 1, 0] rfl ?_
  exact ok_X7_wordAt_L57 C N hk8 N _ _ _ _ _ _ _ _ _ h
def f_X7_wordAt_L8 (N : Nat) : Nat → Nat → Int64 → Int32 → Int32 → A_M → Option (Int32 × A_M)
  | 0, _, _, _, _, _ => none
  | n + 1, x0, x2, x4, x5, M =>
    (gI M x0 7 44).bind fun v11 =>
    if x5 = v11 then
    (some (((-x5) - (1 : Int32)), M))
    else
    (if x4 = (24 : Int32) then
    (f_X7_wordAt_K47 N (f_X7_wordAt_L8 N n) x0 x4 x5 x2 M)
    else
    ((gR M x0 7 43).bind fun v38 =>
    (ldI M v38 x5).bind fun v43 =>
    bnd2 (f_X7_with N x2 x4 v43 M) fun v44 M44 =>
    f_X7_wordAt_K47 N (f_X7_wordAt_L8 N n) x0 x4 x5 v44 M44))
set_option maxHeartbeats 4000000 in
set_option maxRecDepth 100000 in
theorem ok_X7_wordAt_L8 {X : JX} (C : Cx X cX7_wordAt RX7 8 (some .int) 1 25) (N : Nat) : ∀ (n : Nat) (x0 : Nat) (x2 : Int64) (x4 : Int32) (x5 : Int32) (M : A_M) (r : Int32) (M' : A_M), f_X7_wordAt_L8 N n x0 x2 x4 x5 M = some (r, M') → J X 8 8 [(0, .ref x0), (2, .long x2), (4, .int x4), (5, .int x5)] [] M 0 0 (some (.int r)) M' := by
  intro n
  induction n with
  | zero =>
    intro x0 x2 x4 x5 M r M' h
    cases h
  | succ n ih =>
    intro x0 x2 x4 x5 M r M' h
    rw [f_X7_wordAt_L8] at h
    refine J_iload (pc' := 10) C 3 dX7_wordAt_8 rfl rfl ?_
    refine J_aload_n (pc' := 11) C 0 dX7_wordAt_10 rfl rfl rfl ?_
    obtain ⟨v11, e11, h⟩ := bd h
    refine jg_923 (pc' := 14) C dX7_wordAt_11 rfl (gI_some e11) ?_
    refine J_icmp_ne (tgt := 23) (pc' := 17) C dX7_wordAt_14 (by decide) rfl (fun c14 => ?_) (fun c14 => ?_)
    · rw [if_neg c14] at h
      refine J_iload (pc' := 25) C 2 dX7_wordAt_23 rfl rfl ?_
      refine J_bipush (pc' := 27) (v := (24 : Int32)) C dX7_wordAt_25 rfl (by decide) ?_
      refine J_icmp_ne (tgt := 34) (pc' := 30) C dX7_wordAt_27 (by decide) rfl (fun c27 => ?_) (fun c27 => ?_)
      · rw [if_neg c27] at h
        refine J_lload_n (pc' := 35) C 1 dX7_wordAt_34 rfl rfl rfl ?_
        refine J_iload (pc' := 37) C 2 dX7_wordAt_35 rfl rfl ?_
        refine J_aload_n (pc' := 38) C 0 dX7_wordAt_37 rfl rfl rfl ?_
        obtain ⟨v38, e38, h⟩ := bd h
        refine jg_922 (pc' := 41) C dX7_wordAt_38 rfl (gR_some e38) ?_
        refine J_iload (pc' := 43) C 3 dX7_wordAt_41 rfl rfl ?_
        obtain ⟨v43, e43, h⟩ := bd h
        refine J_iald (pc' := 44) C dX7_wordAt_43 rfl e43 ?_
        obtain ⟨v44, M44, e44, h⟩ := bd2 h
        refine J_cS (pc' := 47) (st := []) (st2 := [.long v44]) (cs2 := 0) (sl2 := 0) C (ok_X7_with N e44) mw_X7_with wq_1186 rfl dX7_wordAt_44 rfl rfl (Nat.le_of_ble_eq_true rfl) (by decide) (by decide) rfl rfl rfl (Nat.zero_le _) (Nat.zero_le _) ?_
        refine J_sub (lv' := [(0, .ref x0), (4, .int x4), (5, .int x5)]) [0, 2, 3] rfl ?_
        exact ok_X7_wordAt_K47 C N ih _ _ _ _ _ _ _ h
      · rw [if_pos c27] at h
        refine J_lload_n (pc' := 31) C 1 dX7_wordAt_30 rfl rfl rfl ?_
        refine J_goto (tgt := 47) C dX7_wordAt_31 (by decide) ?_
        refine J_sub (lv' := [(0, .ref x0), (4, .int x4), (5, .int x5)]) [0, 2, 3] rfl ?_
        exact ok_X7_wordAt_K47 C N ih _ _ _ _ _ _ _ h
    · rw [if_pos c14] at h
      refine J_iload (pc' := 19) C 3 dX7_wordAt_17 rfl rfl ?_
      refine J_ineg (pc' := 20) C dX7_wordAt_19 rfl ?_
      refine J_iconst (pc' := 21) (v := (1 : Int32)) C dX7_wordAt_20 rfl (by decide) ?_
      refine J_isub (pc' := 22) C dX7_wordAt_21 rfl ?_
      obtain ⟨rfl, rfl⟩ := rt2 h
      exact J_iret C dX7_wordAt_22 (Nat.zero_le _) (Nat.zero_le _)
def f_X7_wordAt (N : Nat) (a0 : Nat) (a1 : Int32) (M : A_M) : Option (Int32 × A_M) :=
  f_X7_wordAt_L8 N N a0 (0 : Int64) (0 : Int32) a1 M
set_option maxHeartbeats 4000000 in
set_option maxRecDepth 100000 in
theorem ok_X7_wordAt (N : Nat) {a0 : Nat} {a1 : Int32} {M : A_M} {r : Int32} {M' : A_M} (h : f_X7_wordAt N a0 a1 M = some (r, M')) : Runs yX7_wordAt cX7_wordAt 8 (some .int) 1 25 0 0 [.ref a0, .int a1] M (some (.int r)) M' := by
  refine Runs.intro (by decide) (Nat.le_of_ble_eq_true rfl) (fun X C hnm hMC hMS => ?_)
  have C : Cx X cX7_wordAt RX7 8 (some .int) 1 25 := C
  show J X 8 0 [(0, .ref a0), (1, .int a1)] [] M 0 0 (some (.int r)) M'
  unfold f_X7_wordAt at h
  refine J_lconst (pc' := 1) (v := (0 : Int64)) C dX7_wordAt_0 rfl (by decide) ?_
  refine J_lstore_n (pc' := 2) (lv' := [(2, .long (0 : Int64)), (0, .ref a0), (1, .int a1)]) C dX7_wordAt_1 rfl rfl (by decide) rfl ?_
  refine J_iconst (pc' := 3) (v := (0 : Int32)) C dX7_wordAt_2 rfl (by decide) ?_
  refine J_istore (pc' := 5) (lv' := [(4, .int (0 : Int32)), (2, .long (0 : Int64)), (0, .ref a0), (1, .int a1)]) C dX7_wordAt_3 rfl (by decide) rfl ?_
  refine J_iload_n (pc' := 6) C 3 dX7_wordAt_5 rfl rfl rfl ?_
  refine J_istore (pc' := 8) (lv' := [(5, .int a1), (4, .int (0 : Int32)), (2, .long (0 : Int64)), (0, .ref a0), (1, .int a1)]) C dX7_wordAt_6 rfl (by decide) rfl ?_
  refine J_sub (lv' := [(0, .ref a0), (2, .long (0 : Int64)), (4, .int (0 : Int32)), (5, .int a1)]) [3, 2, 1, 0] rfl ?_
  exact ok_X7_wordAt_L8 C N N _ _ _ _ _ _ _ h
def f_X7_read_L27 (N : Nat) : Nat → Nat → Int32 → A_M → Option (Int32 × A_M)
  | 0, _, _, _ => none
  | n + 1, x0, x1, M =>
    (gI M x0 7 44).bind fun v29 =>
    if v29 ≤ x1 then
    ((gI M x0 7 46).bind fun v86 =>
    some (v86, M))
    else
    ((chk M x0 7).bind fun _ =>
    bnd2 (f_X7_wordAt N x0 x1 M) fun v37 M37 =>
    if 0 ≤ v37 then
    ((gR M37 x0 7 45).bind fun v54 =>
    (gI M37 x0 7 46).bind fun v58 =>
    (stI M37 v54 v58 v37).bind fun M62 =>
    (gI M62 x0 7 46).bind fun v65 =>
    (pV M62 x0 7 46 (.int (v65 + (1 : Int32)))).bind fun M70 =>
    (gR M70 x0 7 8).bind fun v75 =>
    (ldI M70 v75 v37).bind fun v79 =>
    f_X7_read_L27 N n x0 (x1 + v79) M70)
    else
    (some (((-100 : Int32) - ((-v37) - (1 : Int32))), M37)))
set_option maxHeartbeats 4000000 in
set_option maxRecDepth 100000 in
theorem ok_X7_read_L27 {X : JX} (C : Cx X cX7_read RX7 3 (some .int) 4 96) (N : Nat) : ∀ (n : Nat) (x0 : Nat) (x1 : Int32) (M : A_M) (r : Int32) (M' : A_M), f_X7_read_L27 N n x0 x1 M = some (r, M') → J X 3 27 [(0, .ref x0), (1, .int x1)] [] M 0 0 (some (.int r)) M' := by
  intro n
  induction n with
  | zero =>
    intro x0 x1 M r M' h
    cases h
  | succ n ih =>
    intro x0 x1 M r M' h
    rw [f_X7_read_L27] at h
    refine J_iload_n (pc' := 28) C 1 dX7_read_27 rfl rfl rfl ?_
    refine J_aload_n (pc' := 29) C 0 dX7_read_28 rfl rfl rfl ?_
    obtain ⟨v29, e29, h⟩ := bd h
    refine jg_923 (pc' := 32) C dX7_read_29 rfl (gI_some e29) ?_
    refine J_icmp_ge (tgt := 85) (pc' := 35) C dX7_read_32 (by decide) rfl (fun c32 => ?_) (fun c32 => ?_)
    · rw [if_pos c32] at h
      refine J_aload_n (pc' := 86) C 0 dX7_read_85 rfl rfl rfl ?_
      obtain ⟨v86, e86, h⟩ := bd h
      refine jg_925 (pc' := 89) C dX7_read_86 rfl (gI_some e86) ?_
      obtain ⟨rfl, rfl⟩ := rt2 h
      exact J_iret C dX7_read_89 (Nat.zero_le _) (Nat.zero_le _)
    · rw [if_neg c32] at h
      refine J_aload_n (pc' := 36) C 0 dX7_read_35 rfl rfl rfl ?_
      refine J_iload_n (pc' := 37) C 1 dX7_read_36 rfl rfl rfl ?_
      obtain ⟨_, q37, h⟩ := bd h
      obtain ⟨v37, M37, e37, h⟩ := bd2 h
      refine J_cV (pc' := 40) (st := []) (st2 := [.int v37]) (cs2 := 0) (sl2 := 0) C 7 rfl rfl q37 (ok_X7_wordAt N e37) mw_X7_wordAt wq_1341 rfl dX7_read_37 rfl rfl (Nat.le_of_ble_eq_true rfl) (by decide) (by decide) rfl rfl rfl (Nat.zero_le _) (Nat.zero_le _) ?_
      refine J_istore_n (pc' := 41) (lv' := [(2, .int v37), (0, .ref x0), (1, .int x1)]) C dX7_read_40 rfl rfl (by decide) rfl ?_
      refine J_iload_n (pc' := 42) C 0 dX7_read_41 rfl rfl rfl ?_
      refine J_if_ge (tgt := 53) (pc' := 45) C dX7_read_42 (by decide) rfl (fun c42 => ?_) (fun c42 => ?_)
      · rw [if_pos c42] at h
        refine J_aload_n (pc' := 54) C 1 dX7_read_53 rfl rfl rfl ?_
        obtain ⟨v54, e54, h⟩ := bd h
        refine jg_924 (pc' := 57) C dX7_read_54 rfl (gR_some e54) ?_
        refine J_aload_n (pc' := 58) C 1 dX7_read_57 rfl rfl rfl ?_
        obtain ⟨v58, e58, h⟩ := bd h
        refine jg_925 (pc' := 61) C dX7_read_58 rfl (gI_some e58) ?_
        refine J_iload_n (pc' := 62) C 0 dX7_read_61 rfl rfl rfl ?_
        obtain ⟨M62, e62, h⟩ := bd h
        refine J_iast (pc' := 63) C dX7_read_62 rfl e62 ?_
        refine J_aload_n (pc' := 64) C 1 dX7_read_63 rfl rfl rfl ?_
        refine J_dup (pc' := 65) C dX7_read_64 rfl rfl ?_
        obtain ⟨v65, e65, h⟩ := bd h
        refine jg_925 (pc' := 68) C dX7_read_65 rfl (gI_some e65) ?_
        refine J_iconst (pc' := 69) (v := (1 : Int32)) C dX7_read_68 rfl (by decide) ?_
        refine J_iadd (pc' := 70) C dX7_read_69 rfl ?_
        obtain ⟨M70, e70, h⟩ := bd h
        refine jp_925 (pc' := 73) C (fun _ => ⟨rfl, rfl⟩) dX7_read_70 rfl e70 ?_
        refine J_iload_n (pc' := 74) C 2 dX7_read_73 rfl rfl rfl ?_
        refine J_aload_n (pc' := 75) C 1 dX7_read_74 rfl rfl rfl ?_
        obtain ⟨v75, e75, h⟩ := bd h
        refine jg_887 (pc' := 78) C dX7_read_75 rfl (gR_some e75) ?_
        refine J_iload_n (pc' := 79) C 0 dX7_read_78 rfl rfl rfl ?_
        obtain ⟨v79, e79, h⟩ := bd h
        refine J_iald (pc' := 80) C dX7_read_79 rfl e79 ?_
        refine J_iadd (pc' := 81) C dX7_read_80 rfl ?_
        refine J_istore_n (pc' := 82) (lv' := [(1, .int (x1 + v79)), (2, .int v37), (0, .ref x0)]) C dX7_read_81 rfl rfl (by decide) rfl ?_
        refine J_goto (tgt := 27) C dX7_read_82 (by decide) ?_
        refine J_sub (lv' := [(0, .ref x0), (1, .int (x1 + v79))]) [2, 0] rfl ?_
        exact ih _ _ _ _ _ h
      · rw [if_neg c42] at h
        refine J_bipush (pc' := 47) (v := (-100 : Int32)) C dX7_read_45 rfl (by decide) ?_
        refine J_iload_n (pc' := 48) C 0 dX7_read_47 rfl rfl rfl ?_
        refine J_ineg (pc' := 49) C dX7_read_48 rfl ?_
        refine J_iconst (pc' := 50) (v := (1 : Int32)) C dX7_read_49 rfl (by decide) ?_
        refine J_isub (pc' := 51) C dX7_read_50 rfl ?_
        refine J_isub (pc' := 52) C dX7_read_51 rfl ?_
        obtain ⟨rfl, rfl⟩ := rt2 h
        exact J_iret C dX7_read_52 (Nat.zero_le _) (Nat.zero_le _)
def f_X7_read (N : Nat) (a0 : Nat) (M : A_M) : Option (Int32 × A_M) :=
  (gI M a0 7 4).bind fun v1 =>
  if v1 = 0 then
  (some ((-3 : Int32), M))
  else
  ((chk M a0 7).bind fun _ =>
  bnd2 (f_X7_isFree N a0 M) fun v11 M11 =>
  if v11 = 0 then
  (some ((-5 : Int32), M11))
  else
  ((pV M11 a0 7 46 (.int (0 : Int32))).bind fun M22 =>
  f_X7_read_L27 N N a0 (0 : Int32) M22))
set_option maxHeartbeats 4000000 in
set_option maxRecDepth 100000 in
theorem ok_X7_read (N : Nat) {a0 : Nat} {M : A_M} {r : Int32} {M' : A_M} (h : f_X7_read N a0 M = some (r, M')) : Runs yX7_read cX7_read 3 (some .int) 4 96 0 0 [.ref a0] M (some (.int r)) M' := by
  refine Runs.intro (by decide) (Nat.le_of_ble_eq_true rfl) (fun X C hnm hMC hMS => ?_)
  have C : Cx X cX7_read RX7 3 (some .int) 4 96 := C
  show J X 3 0 [(0, .ref a0)] [] M 0 0 (some (.int r)) M'
  unfold f_X7_read at h
  refine J_aload_n (pc' := 1) C 0 dX7_read_0 rfl rfl rfl ?_
  obtain ⟨v1, e1, h⟩ := bd h
  refine jg_883 (pc' := 4) C dX7_read_1 rfl (gI_some e1) ?_
  refine J_if_ne (tgt := 10) (pc' := 7) C dX7_read_4 (by decide) rfl (fun c4 => ?_) (fun c4 => ?_)
  · rw [if_neg c4] at h
    refine J_aload_n (pc' := 11) C 0 dX7_read_10 rfl rfl rfl ?_
    obtain ⟨_, q11, h⟩ := bd h
    obtain ⟨v11, M11, e11, h⟩ := bd2 h
    refine J_cV (pc' := 14) (st := []) (st2 := [.int v11]) (cs2 := 0) (sl2 := 0) C 7 rfl rfl q11 (ok_X7_isFree N e11) mw_X7_isFree wq_1290 rfl dX7_read_11 rfl rfl (Nat.le_of_ble_eq_true rfl) (by decide) (by decide) rfl rfl rfl (Nat.zero_le _) (Nat.zero_le _) ?_
    refine J_if_ne (tgt := 20) (pc' := 17) C dX7_read_14 (by decide) rfl (fun c14 => ?_) (fun c14 => ?_)
    · rw [if_neg c14] at h
      refine J_aload_n (pc' := 21) C 0 dX7_read_20 rfl rfl rfl ?_
      refine J_iconst (pc' := 22) (v := (0 : Int32)) C dX7_read_21 rfl (by decide) ?_
      obtain ⟨M22, e22, h⟩ := bd h
      refine jp_925 (pc' := 25) C (fun _ => ⟨rfl, rfl⟩) dX7_read_22 rfl e22 ?_
      refine J_iconst (pc' := 26) (v := (0 : Int32)) C dX7_read_25 rfl (by decide) ?_
      refine J_istore_n (pc' := 27) (lv' := [(1, .int (0 : Int32)), (0, .ref a0)]) C dX7_read_26 rfl rfl (by decide) rfl ?_
      refine J_sub (lv' := [(0, .ref a0), (1, .int (0 : Int32))]) [1, 0] rfl ?_
      exact ok_X7_read_L27 C N N _ _ _ _ _ h
    · rw [if_pos c14] at h
      refine J_bipush (pc' := 19) (v := (-5 : Int32)) C dX7_read_17 rfl (by decide) ?_
      obtain ⟨rfl, rfl⟩ := rt2 h
      exact J_iret C dX7_read_19 (Nat.zero_le _) (Nat.zero_le _)
  · rw [if_pos c4] at h
    refine J_bipush (pc' := 9) (v := (-3 : Int32)) C dX7_read_7 rfl (by decide) ?_
    obtain ⟨rfl, rfl⟩ := rt2 h
    exact J_iret C dX7_read_9 (Nat.zero_le _) (Nat.zero_le _)
def f_X7_item (N : Nat) (a0 : Nat) (a1 : Int32) (M : A_M) : Option (Int32 × A_M) :=
  (gI M a0 7 46).bind fun v4 =>
  bnd2 (f_X7_in N (a1.toInt64) (0 : Int64) ((v4 - (1 : Int32)).toInt64) M) fun v10 M10 =>
  if v10 = 0 then
  (some ((-6 : Int32), M10))
  else
  ((gR M10 a0 7 45).bind fun v17 =>
  (ldI M10 v17 a1).bind fun v21 =>
  some (v21, M10))
set_option maxHeartbeats 4000000 in
set_option maxRecDepth 100000 in
theorem ok_X7_item (N : Nat) {a0 : Nat} {a1 : Int32} {M : A_M} {r : Int32} {M' : A_M} (h : f_X7_item N a0 a1 M = some (r, M')) : Runs yX7_item cX7_item 2 (some .int) 1 25 0 0 [.ref a0, .int a1] M (some (.int r)) M' := by
  refine Runs.intro (by decide) (Nat.le_of_ble_eq_true rfl) (fun X C hnm hMC hMS => ?_)
  have C : Cx X cX7_item RX7 2 (some .int) 1 25 := C
  show J X 2 0 [(0, .ref a0), (1, .int a1)] [] M 0 0 (some (.int r)) M'
  unfold f_X7_item at h
  refine J_iload_n (pc' := 1) C 1 dX7_item_0 rfl rfl rfl ?_
  refine J_i2l (pc' := 2) C dX7_item_1 rfl ?_
  refine J_lconst (pc' := 3) (v := (0 : Int64)) C dX7_item_2 rfl (by decide) ?_
  refine J_aload_n (pc' := 4) C 0 dX7_item_3 rfl rfl rfl ?_
  obtain ⟨v4, e4, h⟩ := bd h
  refine jg_925 (pc' := 7) C dX7_item_4 rfl (gI_some e4) ?_
  refine J_iconst (pc' := 8) (v := (1 : Int32)) C dX7_item_7 rfl (by decide) ?_
  refine J_isub (pc' := 9) C dX7_item_8 rfl ?_
  refine J_i2l (pc' := 10) C dX7_item_9 rfl ?_
  obtain ⟨v10, M10, e10, h⟩ := bd2 h
  refine J_cS (pc' := 13) (st := []) (st2 := [.int v10]) (cs2 := 0) (sl2 := 0) C (ok_X7_in N e10) mw_X7_in wq_1057 rfl dX7_item_10 rfl rfl (Nat.le_of_ble_eq_true rfl) (by decide) (by decide) rfl rfl rfl (Nat.zero_le _) (Nat.zero_le _) ?_
  refine J_if_eq (tgt := 25) (pc' := 16) C dX7_item_13 (by decide) rfl (fun c13 => ?_) (fun c13 => ?_)
  · rw [if_pos c13] at h
    refine J_bipush (pc' := 27) (v := (-6 : Int32)) C dX7_item_25 rfl (by decide) ?_
    obtain ⟨rfl, rfl⟩ := rt2 h
    exact J_iret C dX7_item_27 (Nat.zero_le _) (Nat.zero_le _)
  · rw [if_neg c13] at h
    refine J_aload_n (pc' := 17) C 0 dX7_item_16 rfl rfl rfl ?_
    obtain ⟨v17, e17, h⟩ := bd h
    refine jg_924 (pc' := 20) C dX7_item_17 rfl (gR_some e17) ?_
    refine J_iload_n (pc' := 21) C 1 dX7_item_20 rfl rfl rfl ?_
    obtain ⟨v21, e21, h⟩ := bd h
    refine J_iald (pc' := 22) C dX7_item_21 rfl e21 ?_
    refine J_goto (tgt := 27) C dX7_item_22 (by decide) ?_
    obtain ⟨rfl, rfl⟩ := rt2 h
    exact J_iret C dX7_item_27 (Nat.zero_le _) (Nat.zero_le _)
def f_X7_grow_K33 (N : Nat) (x0 : Nat) (M : A_M) : Option (Int32 × A_M) :=
  (gR M x0 7 9).bind fun v35 =>
  (chk M x0 7).bind fun _ =>
  bnd2 (f_X7_buildFree N x0 v35 (24 : Int32) M) fun v40 M40 =>
  (chk M40 x0 7).bind fun _ =>
  (f_X7_comes N x0 M40).bind fun M45 =>
  (zb v40).bind fun _ =>
  (pV M45 x0 7 6 (.int v40)).bind fun M50 =>
  (pV M50 x0 7 44 (.int (0 : Int32))).bind fun M55 =>
  (gI M55 x0 7 3).bind fun v59 =>
  some (v59, M55)
set_option maxHeartbeats 4000000 in
set_option maxRecDepth 100000 in
theorem ok_X7_grow_K33 {X : JX} (C : Cx X cX7_grow RX7 2 (some .int) 6 172) (N : Nat) : ∀ (x0 : Nat) (M : A_M) (r : Int32) (M' : A_M), f_X7_grow_K33 N x0 M = some (r, M') → J X 2 33 [(0, .ref x0)] [] M 0 0 (some (.int r)) M' := by
  intro x0 M r M' h
  unfold f_X7_grow_K33 at h
  refine J_aload_n (pc' := 34) C 0 dX7_grow_33 rfl rfl rfl ?_
  refine J_aload_n (pc' := 35) C 0 dX7_grow_34 rfl rfl rfl ?_
  obtain ⟨v35, e35, h⟩ := bd h
  refine jg_888 (pc' := 38) C dX7_grow_35 rfl (gR_some e35) ?_
  refine J_bipush (pc' := 40) (v := (24 : Int32)) C dX7_grow_38 rfl (by decide) ?_
  obtain ⟨_, q40, h⟩ := bd h
  obtain ⟨v40, M40, e40, h⟩ := bd2 h
  refine J_cV (pc' := 43) (st := []) (st2 := [.int v40]) (cs2 := 0) (sl2 := 0) C 7 rfl rfl q40 (ok_X7_buildFree N e40) mw_X7_buildFree wq_1128 rfl dX7_grow_40 rfl rfl (Nat.le_of_ble_eq_true rfl) (by decide) (by decide) rfl rfl rfl (Nat.zero_le _) (Nat.zero_le _) ?_
  refine J_istore_n (pc' := 44) (lv' := [(1, .int v40), (0, .ref x0)]) C dX7_grow_43 rfl rfl (by decide) rfl ?_
  refine J_aload_n (pc' := 45) C 1 dX7_grow_44 rfl rfl rfl ?_
  obtain ⟨_, q45, h⟩ := bd h
  obtain ⟨M45, e45, h⟩ := bd h
  refine J_cV (pc' := 48) (st := []) (st2 := []) (cs2 := 0) (sl2 := 0) C 7 rfl rfl q45 (ok_X7_comes N e45) mw_X7_comes wq_1210 rfl dX7_grow_45 rfl rfl (Nat.le_of_ble_eq_true rfl) (by decide) (by decide) rfl rfl rfl (Nat.zero_le _) (Nat.zero_le _) ?_
  refine J_aload_n (pc' := 49) C 1 dX7_grow_48 rfl rfl rfl ?_
  refine J_iload_n (pc' := 50) C 0 dX7_grow_49 rfl rfl rfl ?_
  obtain ⟨_, z50, h⟩ := bd h
  obtain ⟨M50, e50, h⟩ := bd h
  refine jp_885 (pc' := 53) C (zb_ok (zb_some z50)) dX7_grow_50 rfl e50 ?_
  refine J_aload_n (pc' := 54) C 1 dX7_grow_53 rfl rfl rfl ?_
  refine J_iconst (pc' := 55) (v := (0 : Int32)) C dX7_grow_54 rfl (by decide) ?_
  obtain ⟨M55, e55, h⟩ := bd h
  refine jp_923 (pc' := 58) C (fun _ => ⟨rfl, rfl⟩) dX7_grow_55 rfl e55 ?_
  refine J_aload_n (pc' := 59) C 1 dX7_grow_58 rfl rfl rfl ?_
  obtain ⟨v59, e59, h⟩ := bd h
  refine jg_882 (pc' := 62) C dX7_grow_59 rfl (gI_some e59) ?_
  obtain ⟨rfl, rfl⟩ := rt2 h
  exact J_iret C dX7_grow_62 (Nat.zero_le _) (Nat.zero_le _)
def f_X7_grow_L12 (N : Nat) : Nat → Nat → Int32 → A_M → Option (Int32 × A_M)
  | 0, _, _, _ => none
  | n + 1, x0, x1, M =>
    (gI M x0 7 3).bind fun v14 =>
    if v14 ≤ x1 then
    (f_X7_grow_K33 N x0 M)
    else
    ((gR M x0 7 9).bind fun v21 =>
    (stI M v21 x1 (1 : Int32)).bind fun M26 =>
    f_X7_grow_L12 N n x0 (x1 + 1) M26)
set_option maxHeartbeats 4000000 in
set_option maxRecDepth 100000 in
theorem ok_X7_grow_L12 {X : JX} (C : Cx X cX7_grow RX7 2 (some .int) 6 172) (N : Nat) : ∀ (n : Nat) (x0 : Nat) (x1 : Int32) (M : A_M) (r : Int32) (M' : A_M), f_X7_grow_L12 N n x0 x1 M = some (r, M') → J X 2 12 [(0, .ref x0), (1, .int x1)] [] M 0 0 (some (.int r)) M' := by
  intro n
  induction n with
  | zero =>
    intro x0 x1 M r M' h
    cases h
  | succ n ih =>
    intro x0 x1 M r M' h
    rw [f_X7_grow_L12] at h
    refine J_iload_n (pc' := 13) C 1 dX7_grow_12 rfl rfl rfl ?_
    refine J_aload_n (pc' := 14) C 0 dX7_grow_13 rfl rfl rfl ?_
    obtain ⟨v14, e14, h⟩ := bd h
    refine jg_882 (pc' := 17) C dX7_grow_14 rfl (gI_some e14) ?_
    refine J_icmp_ge (tgt := 33) (pc' := 20) C dX7_grow_17 (by decide) rfl (fun c17 => ?_) (fun c17 => ?_)
    · rw [if_pos c17] at h
      refine J_sub (lv' := [(0, .ref x0)]) [0] rfl ?_
      exact ok_X7_grow_K33 C N _ _ _ _ h
    · rw [if_neg c17] at h
      refine J_aload_n (pc' := 21) C 0 dX7_grow_20 rfl rfl rfl ?_
      obtain ⟨v21, e21, h⟩ := bd h
      refine jg_888 (pc' := 24) C dX7_grow_21 rfl (gR_some e21) ?_
      refine J_iload_n (pc' := 25) C 1 dX7_grow_24 rfl rfl rfl ?_
      refine J_iconst (pc' := 26) (v := (1 : Int32)) C dX7_grow_25 rfl (by decide) ?_
      obtain ⟨M26, e26, h⟩ := bd h
      refine J_iast (pc' := 27) C dX7_grow_26 rfl e26 ?_
      refine J_iinc (pc' := 30) (lv' := [(1, .int (x1 + 1)), (0, .ref x0)]) C 1 dX7_grow_27 rfl rfl rfl (by decide) rfl ?_
      refine J_goto (tgt := 12) C dX7_grow_30 (by decide) ?_
      refine J_sub (lv' := [(0, .ref x0), (1, .int (x1 + 1))]) [1, 0] rfl ?_
      exact ih _ _ _ _ _ h
def f_X7_grow (N : Nat) (a0 : Nat) (M : A_M) : Option (Int32 × A_M) :=
  (chk M a0 7).bind fun _ =>
  bnd2 (f_X7_mayBeFree N a0 M) fun v1 M1 =>
  if v1 = 0 then
  (some ((-3 : Int32), M1))
  else
  (f_X7_grow_L12 N N a0 (0 : Int32) M1)
set_option maxHeartbeats 4000000 in
set_option maxRecDepth 100000 in
theorem ok_X7_grow (N : Nat) {a0 : Nat} {M : A_M} {r : Int32} {M' : A_M} (h : f_X7_grow N a0 M = some (r, M')) : Runs yX7_grow cX7_grow 2 (some .int) 6 172 0 0 [.ref a0] M (some (.int r)) M' := by
  refine Runs.intro (by decide) (Nat.le_of_ble_eq_true rfl) (fun X C hnm hMC hMS => ?_)
  have C : Cx X cX7_grow RX7 2 (some .int) 6 172 := C
  show J X 2 0 [(0, .ref a0)] [] M 0 0 (some (.int r)) M'
  unfold f_X7_grow at h
  refine J_aload_n (pc' := 1) C 0 dX7_grow_0 rfl rfl rfl ?_
  obtain ⟨_, q1, h⟩ := bd h
  obtain ⟨v1, M1, e1, h⟩ := bd2 h
  refine J_cV (pc' := 4) (st := []) (st2 := [.int v1]) (cs2 := 0) (sl2 := 0) C 7 rfl rfl q1 (ok_X7_mayBeFree N e1) mw_X7_mayBeFree wq_1116 rfl dX7_grow_1 rfl rfl (Nat.le_of_ble_eq_true rfl) (by decide) (by decide) rfl rfl rfl (Nat.zero_le _) (Nat.zero_le _) ?_
  refine J_if_ne (tgt := 10) (pc' := 7) C dX7_grow_4 (by decide) rfl (fun c4 => ?_) (fun c4 => ?_)
  · rw [if_neg c4] at h
    refine J_iconst (pc' := 11) (v := (0 : Int32)) C dX7_grow_10 rfl (by decide) ?_
    refine J_istore_n (pc' := 12) (lv' := [(1, .int (0 : Int32)), (0, .ref a0)]) C dX7_grow_11 rfl rfl (by decide) rfl ?_
    refine J_sub (lv' := [(0, .ref a0), (1, .int (0 : Int32))]) [1, 0] rfl ?_
    exact ok_X7_grow_L12 C N N _ _ _ _ _ h
  · rw [if_pos c4] at h
    refine J_bipush (pc' := 9) (v := (-3 : Int32)) C dX7_grow_7 rfl (by decide) ?_
    obtain ⟨rfl, rfl⟩ := rt2 h
    exact J_iret C dX7_grow_9 (Nat.zero_le _) (Nat.zero_le _)
def f_X7_send (N : Nat) (a0 : Nat) (a1 : Int32) (M : A_M) : Option (Int32 × A_M) :=
  (chk M a0 7).bind fun _ =>
  bnd2 (f_X7_isThing N a0 a1 M) fun v2 M2 =>
  if v2 = 0 then
  (some ((-1 : Int32), M2))
  else
  ((gI M2 a0 7 4).bind fun v11 =>
  if v11 = 0 then
  (some ((-3 : Int32), M2))
  else
  ((gI M2 a0 7 6).bind fun v18 =>
  if v18 = 0 then
  (some ((-3 : Int32), M2))
  else
  ((gI M2 a0 7 44).bind fun v28 =>
  (gR M2 a0 7 8).bind fun v32 =>
  (ldI M2 v32 a1).bind fun v36 =>
  if (v28 + v36) ≤ (200 : Int32) then
  ((chk M2 a0 7).bind fun _ =>
  (f_X7_writeWord N a0 a1 M2).bind fun M49 =>
  (gR M49 a0 7 9).bind fun v53 =>
  (ldI M49 v53 a1).bind fun v58 =>
  (stI M49 v53 a1 (v58 + (1 : Int32))).bind fun M61 =>
  (gR M61 a0 7 9).bind fun v65 =>
  (chk M61 a0 7).bind fun _ =>
  bnd2 (f_X7_buildFree N a0 v65 (24 : Int32) M61) fun v70 M70 =>
  (zb v70).bind fun _ =>
  (pV M70 a0 7 6 (.int v70)).bind fun M73 =>
  (gI M73 a0 7 44).bind fun v77 =>
  some (v77, M73))
  else
  (some ((-4 : Int32), M2)))))
set_option maxHeartbeats 4000000 in
set_option maxRecDepth 100000 in
theorem ok_X7_send (N : Nat) {a0 : Nat} {a1 : Int32} {M : A_M} {r : Int32} {M' : A_M} (h : f_X7_send N a0 a1 M = some (r, M')) : Runs yX7_send cX7_send 2 (some .int) 6 172 0 0 [.ref a0, .int a1] M (some (.int r)) M' := by
  refine Runs.intro (by decide) (Nat.le_of_ble_eq_true rfl) (fun X C hnm hMC hMS => ?_)
  have C : Cx X cX7_send RX7 2 (some .int) 6 172 := C
  show J X 2 0 [(0, .ref a0), (1, .int a1)] [] M 0 0 (some (.int r)) M'
  unfold f_X7_send at h
  refine J_aload_n (pc' := 1) C 0 dX7_send_0 rfl rfl rfl ?_
  refine J_iload_n (pc' := 2) C 1 dX7_send_1 rfl rfl rfl ?_
  obtain ⟨_, q2, h⟩ := bd h
  obtain ⟨v2, M2, e2, h⟩ := bd2 h
  refine J_cV (pc' := 5) (st := []) (st2 := [.int v2]) (cs2 := 0) (sl2 := 0) C 7 rfl rfl q2 (ok_X7_isThing N e2) mw_X7_isThing wq_1074 rfl dX7_send_2 rfl rfl (Nat.le_of_ble_eq_true rfl) (by decide) (by decide) rfl rfl rfl (Nat.zero_le _) (Nat.zero_le _) ?_
  refine J_if_ne (tgt := 10) (pc' := 8) C dX7_send_5 (by decide) rfl (fun c5 => ?_) (fun c5 => ?_)
  · rw [if_neg c5] at h
    refine J_aload_n (pc' := 11) C 0 dX7_send_10 rfl rfl rfl ?_
    obtain ⟨v11, e11, h⟩ := bd h
    refine jg_883 (pc' := 14) C dX7_send_11 rfl (gI_some e11) ?_
    refine J_if_eq (tgt := 24) (pc' := 17) C dX7_send_14 (by decide) rfl (fun c14 => ?_) (fun c14 => ?_)
    · rw [if_pos c14] at h
      refine J_bipush (pc' := 26) (v := (-3 : Int32)) C dX7_send_24 rfl (by decide) ?_
      obtain ⟨rfl, rfl⟩ := rt2 h
      exact J_iret C dX7_send_26 (Nat.zero_le _) (Nat.zero_le _)
    · rw [if_neg c14] at h
      refine J_aload_n (pc' := 18) C 0 dX7_send_17 rfl rfl rfl ?_
      obtain ⟨v18, e18, h⟩ := bd h
      refine jg_885 (pc' := 21) C dX7_send_18 rfl (gI_some e18) ?_
      refine J_if_ne (tgt := 27) (pc' := 24) C dX7_send_21 (by decide) rfl (fun c21 => ?_) (fun c21 => ?_)
      · rw [if_neg c21] at h
        refine J_aload_n (pc' := 28) C 0 dX7_send_27 rfl rfl rfl ?_
        obtain ⟨v28, e28, h⟩ := bd h
        refine jg_923 (pc' := 31) C dX7_send_28 rfl (gI_some e28) ?_
        refine J_aload_n (pc' := 32) C 0 dX7_send_31 rfl rfl rfl ?_
        obtain ⟨v32, e32, h⟩ := bd h
        refine jg_887 (pc' := 35) C dX7_send_32 rfl (gR_some e32) ?_
        refine J_iload_n (pc' := 36) C 1 dX7_send_35 rfl rfl rfl ?_
        obtain ⟨v36, e36, h⟩ := bd h
        refine J_iald (pc' := 37) C dX7_send_36 rfl e36 ?_
        refine J_iadd (pc' := 38) C dX7_send_37 rfl ?_
        refine J_sipush (pc' := 41) (v := (200 : Int32)) C dX7_send_38 rfl (by decide) ?_
        refine J_icmp_le (tgt := 47) (pc' := 44) C dX7_send_41 (by decide) rfl (fun c41 => ?_) (fun c41 => ?_)
        · rw [if_pos c41] at h
          refine J_aload_n (pc' := 48) C 0 dX7_send_47 rfl rfl rfl ?_
          refine J_iload_n (pc' := 49) C 1 dX7_send_48 rfl rfl rfl ?_
          obtain ⟨_, q49, h⟩ := bd h
          obtain ⟨M49, e49, h⟩ := bd h
          refine J_cV (pc' := 52) (st := []) (st2 := []) (cs2 := 0) (sl2 := 0) C 7 rfl rfl q49 (ok_X7_writeWord N e49) mw_X7_writeWord wq_1321 rfl dX7_send_49 rfl rfl (Nat.le_of_ble_eq_true rfl) (by decide) (by decide) rfl rfl rfl (Nat.zero_le _) (Nat.zero_le _) ?_
          refine J_aload_n (pc' := 53) C 0 dX7_send_52 rfl rfl rfl ?_
          obtain ⟨v53, e53, h⟩ := bd h
          refine jg_888 (pc' := 56) C dX7_send_53 rfl (gR_some e53) ?_
          refine J_iload_n (pc' := 57) C 1 dX7_send_56 rfl rfl rfl ?_
          refine J_dup2 (pc' := 58) C dX7_send_57 rfl rfl rfl ?_
          obtain ⟨v58, e58, h⟩ := bd h
          refine J_iald (pc' := 59) C dX7_send_58 rfl e58 ?_
          refine J_iconst (pc' := 60) (v := (1 : Int32)) C dX7_send_59 rfl (by decide) ?_
          refine J_iadd (pc' := 61) C dX7_send_60 rfl ?_
          obtain ⟨M61, e61, h⟩ := bd h
          refine J_iast (pc' := 62) C dX7_send_61 rfl e61 ?_
          refine J_aload_n (pc' := 63) C 0 dX7_send_62 rfl rfl rfl ?_
          refine J_aload_n (pc' := 64) C 0 dX7_send_63 rfl rfl rfl ?_
          refine J_aload_n (pc' := 65) C 0 dX7_send_64 rfl rfl rfl ?_
          obtain ⟨v65, e65, h⟩ := bd h
          refine jg_888 (pc' := 68) C dX7_send_65 rfl (gR_some e65) ?_
          refine J_bipush (pc' := 70) (v := (24 : Int32)) C dX7_send_68 rfl (by decide) ?_
          obtain ⟨_, q70, h⟩ := bd h
          obtain ⟨v70, M70, e70, h⟩ := bd2 h
          refine J_cV (pc' := 73) (st := [.ref a0]) (st2 := [.int v70, .ref a0]) (cs2 := 0) (sl2 := 0) C 7 rfl rfl q70 (ok_X7_buildFree N e70) mw_X7_buildFree wq_1128 rfl dX7_send_70 rfl rfl (Nat.le_of_ble_eq_true rfl) (by decide) (by decide) rfl rfl rfl (Nat.zero_le _) (Nat.zero_le _) ?_
          obtain ⟨_, z73, h⟩ := bd h
          obtain ⟨M73, e73, h⟩ := bd h
          refine jp_885 (pc' := 76) C (zb_ok (zb_some z73)) dX7_send_73 rfl e73 ?_
          refine J_aload_n (pc' := 77) C 0 dX7_send_76 rfl rfl rfl ?_
          obtain ⟨v77, e77, h⟩ := bd h
          refine jg_923 (pc' := 80) C dX7_send_77 rfl (gI_some e77) ?_
          obtain ⟨rfl, rfl⟩ := rt2 h
          exact J_iret C dX7_send_80 (Nat.zero_le _) (Nat.zero_le _)
        · rw [if_neg c41] at h
          refine J_bipush (pc' := 46) (v := (-4 : Int32)) C dX7_send_44 rfl (by decide) ?_
          obtain ⟨rfl, rfl⟩ := rt2 h
          exact J_iret C dX7_send_46 (Nat.zero_le _) (Nat.zero_le _)
      · rw [if_pos c21] at h
        refine J_bipush (pc' := 26) (v := (-3 : Int32)) C dX7_send_24 rfl (by decide) ?_
        obtain ⟨rfl, rfl⟩ := rt2 h
        exact J_iret C dX7_send_26 (Nat.zero_le _) (Nat.zero_le _)
  · rw [if_pos c5] at h
    refine J_iconst (pc' := 9) (v := (-1 : Int32)) C dX7_send_8 rfl (by decide) ?_
    obtain ⟨rfl, rfl⟩ := rt2 h
    exact J_iret C dX7_send_9 (Nat.zero_le _) (Nat.zero_le _)
def f_X7_hear_K160 (N : Nat) (k66 : Nat → Int32 → Int32 → A_M → Option (Int32 × A_M)) (x0 : Nat) (x1 : Int32) (x2 : Int32) (M : A_M) : Option (Int32 × A_M) :=
  k66 x0 x1 x2 M
set_option maxHeartbeats 4000000 in
set_option maxRecDepth 100000 in
theorem ok_X7_hear_K160 {X : JX} (C : Cx X cX7_hear RX7 5 (some .int) 6 172) (N : Nat) {k66 : Nat → Int32 → Int32 → A_M → Option (Int32 × A_M)} (hk66 : ∀ (x0 : Nat) (x1 : Int32) (x2 : Int32) (M : A_M) (r : Int32) (M' : A_M), k66 x0 x1 x2 M = some (r, M') → J X 5 66 [(0, .ref x0), (1, .int x1), (2, .int x2)] [] M 0 0 (some (.int r)) M') : ∀ (x0 : Nat) (x1 : Int32) (x2 : Int32) (M : A_M) (r : Int32) (M' : A_M), f_X7_hear_K160 N k66 x0 x1 x2 M = some (r, M') → J X 5 160 [(0, .ref x0), (1, .int x1), (2, .int x2)] [] M 0 0 (some (.int r)) M' := by
  intro x0 x1 x2 M r M' h
  unfold f_X7_hear_K160 at h
  refine J_goto (tgt := 66) C dX7_hear_160 (by decide) ?_
  refine J_sub (lv' := [(0, .ref x0), (1, .int x1), (2, .int x2)]) [0, 1, 2] rfl ?_
  exact hk66 _ _ _ _ _ _ h
def f_X7_hear_K102 (N : Nat) (k66 : Nat → Int32 → Int32 → A_M → Option (Int32 × A_M)) (x0 : Nat) (x1 : Int32) (x2 : Int32) (s0 : Int32) (M : A_M) : Option (Int32 × A_M) :=
  if 0 ≤ s0 then
  ((gR M x0 7 45).bind fun v119 =>
  (gI M x0 7 46).bind fun v123 =>
  (stI M v119 v123 s0).bind fun M128 =>
  (gI M128 x0 7 46).bind fun v131 =>
  (pV M128 x0 7 46 (.int (v131 + (1 : Int32)))).bind fun M136 =>
  (gR M136 x0 7 24).bind fun v140 =>
  (ldI M136 v140 s0).bind fun v146 =>
  (stI M136 v140 s0 (v146 + (1 : Int32))).bind fun M149 =>
  (gR M149 x0 7 8).bind fun v152 =>
  (ldI M149 v152 s0).bind fun v157 =>
  f_X7_hear_K160 N k66 x0 (x1 + v157) x2 M149)
  else
  (f_X7_hear_K160 N k66 x0 x1 ((-s0) - (1 : Int32)) M)
set_option maxHeartbeats 4000000 in
set_option maxRecDepth 100000 in
theorem ok_X7_hear_K102 {X : JX} (C : Cx X cX7_hear RX7 5 (some .int) 6 172) (N : Nat) {k66 : Nat → Int32 → Int32 → A_M → Option (Int32 × A_M)} (hk66 : ∀ (x0 : Nat) (x1 : Int32) (x2 : Int32) (M : A_M) (r : Int32) (M' : A_M), k66 x0 x1 x2 M = some (r, M') → J X 5 66 [(0, .ref x0), (1, .int x1), (2, .int x2)] [] M 0 0 (some (.int r)) M') : ∀ (x0 : Nat) (x1 : Int32) (x2 : Int32) (s0 : Int32) (M : A_M) (r : Int32) (M' : A_M), f_X7_hear_K102 N k66 x0 x1 x2 s0 M = some (r, M') → J X 5 102 [(0, .ref x0), (1, .int x1), (2, .int x2)] [.int s0] M 0 0 (some (.int r)) M' := by
  intro x0 x1 x2 s0 M r M' h
  unfold f_X7_hear_K102 at h
  refine J_istore (pc' := 104) (lv' := [(4, .int s0), (0, .ref x0), (1, .int x1), (2, .int x2)]) C dX7_hear_102 rfl (by decide) rfl ?_
  refine J_iload (pc' := 106) C 0 dX7_hear_104 rfl rfl ?_
  refine J_if_ge (tgt := 118) (pc' := 109) C dX7_hear_106 (by decide) rfl (fun c106 => ?_) (fun c106 => ?_)
  · rw [if_pos c106] at h
    refine J_aload_n (pc' := 119) C 1 dX7_hear_118 rfl rfl rfl ?_
    obtain ⟨v119, e119, h⟩ := bd h
    refine jg_924 (pc' := 122) C dX7_hear_119 rfl (gR_some e119) ?_
    refine J_aload_n (pc' := 123) C 1 dX7_hear_122 rfl rfl rfl ?_
    obtain ⟨v123, e123, h⟩ := bd h
    refine jg_925 (pc' := 126) C dX7_hear_123 rfl (gI_some e123) ?_
    refine J_iload (pc' := 128) C 0 dX7_hear_126 rfl rfl ?_
    obtain ⟨M128, e128, h⟩ := bd h
    refine J_iast (pc' := 129) C dX7_hear_128 rfl e128 ?_
    refine J_aload_n (pc' := 130) C 1 dX7_hear_129 rfl rfl rfl ?_
    refine J_dup (pc' := 131) C dX7_hear_130 rfl rfl ?_
    obtain ⟨v131, e131, h⟩ := bd h
    refine jg_925 (pc' := 134) C dX7_hear_131 rfl (gI_some e131) ?_
    refine J_iconst (pc' := 135) (v := (1 : Int32)) C dX7_hear_134 rfl (by decide) ?_
    refine J_iadd (pc' := 136) C dX7_hear_135 rfl ?_
    obtain ⟨M136, e136, h⟩ := bd h
    refine jp_925 (pc' := 139) C (fun _ => ⟨rfl, rfl⟩) dX7_hear_136 rfl e136 ?_
    refine J_aload_n (pc' := 140) C 1 dX7_hear_139 rfl rfl rfl ?_
    obtain ⟨v140, e140, h⟩ := bd h
    refine jg_903 (pc' := 143) C dX7_hear_140 rfl (gR_some e140) ?_
    refine J_iload (pc' := 145) C 0 dX7_hear_143 rfl rfl ?_
    refine J_dup2 (pc' := 146) C dX7_hear_145 rfl rfl rfl ?_
    obtain ⟨v146, e146, h⟩ := bd h
    refine J_iald (pc' := 147) C dX7_hear_146 rfl e146 ?_
    refine J_iconst (pc' := 148) (v := (1 : Int32)) C dX7_hear_147 rfl (by decide) ?_
    refine J_iadd (pc' := 149) C dX7_hear_148 rfl ?_
    obtain ⟨M149, e149, h⟩ := bd h
    refine J_iast (pc' := 150) C dX7_hear_149 rfl e149 ?_
    refine J_iload_n (pc' := 151) C 2 dX7_hear_150 rfl rfl rfl ?_
    refine J_aload_n (pc' := 152) C 1 dX7_hear_151 rfl rfl rfl ?_
    obtain ⟨v152, e152, h⟩ := bd h
    refine jg_887 (pc' := 155) C dX7_hear_152 rfl (gR_some e152) ?_
    refine J_iload (pc' := 157) C 0 dX7_hear_155 rfl rfl ?_
    obtain ⟨v157, e157, h⟩ := bd h
    refine J_iald (pc' := 158) C dX7_hear_157 rfl e157 ?_
    refine J_iadd (pc' := 159) C dX7_hear_158 rfl ?_
    refine J_istore_n (pc' := 160) (lv' := [(1, .int (x1 + v157)), (4, .int s0), (0, .ref x0), (2, .int x2)]) C dX7_hear_159 rfl rfl (by decide) rfl ?_
    refine J_sub (lv' := [(0, .ref x0), (1, .int (x1 + v157)), (2, .int x2)]) [2, 0, 3] rfl ?_
    exact ok_X7_hear_K160 C N hk66 _ _ _ _ _ _ h
  · rw [if_neg c106] at h
    refine J_iload (pc' := 111) C 0 dX7_hear_109 rfl rfl ?_
    refine J_ineg (pc' := 112) C dX7_hear_111 rfl ?_
    refine J_iconst (pc' := 113) (v := (1 : Int32)) C dX7_hear_112 rfl (by decide) ?_
    refine J_isub (pc' := 114) C dX7_hear_113 rfl ?_
    refine J_istore_n (pc' := 115) (lv' := [(2, .int ((-s0) - (1 : Int32))), (4, .int s0), (0, .ref x0), (1, .int x1)]) C dX7_hear_114 rfl rfl (by decide) rfl ?_
    refine J_goto (tgt := 160) C dX7_hear_115 (by decide) ?_
    refine J_sub (lv' := [(0, .ref x0), (1, .int x1), (2, .int ((-s0) - (1 : Int32)))]) [2, 3, 0] rfl ?_
    exact ok_X7_hear_K160 C N hk66 _ _ _ _ _ _ h
def f_X7_hear_L165 (N : Nat) : Nat → Nat → Int32 → Int32 → A_M → Option (Int32 × A_M)
  | 0, _, _, _, _ => none
  | n + 1, x0, x2, x3, M =>
    (gI M x0 7 3).bind fun v167 =>
    if v167 ≤ x3 then
    (if 0 ≤ x2 then
    (some (((-100 : Int32) - x2), M))
    else
    ((gI M x0 7 46).bind fun v208 =>
    some (v208, M)))
    else
    ((gR M x0 7 7).bind fun v174 =>
    (gR M x0 7 34).bind fun v179 =>
    (ldJ M v179 x3).bind fun v183 =>
    (stJ M v174 x3 v183).bind fun M184 =>
    (gR M184 x0 7 8).bind fun v186 =>
    (gR M184 x0 7 35).bind fun v191 =>
    (ldI M184 v191 x3).bind fun v195 =>
    (stI M184 v186 x3 v195).bind fun M196 =>
    f_X7_hear_L165 N n x0 x2 (x3 + 1) M196)
set_option maxHeartbeats 4000000 in
set_option maxRecDepth 100000 in
theorem ok_X7_hear_L165 {X : JX} (C : Cx X cX7_hear RX7 5 (some .int) 6 172) (N : Nat) : ∀ (n : Nat) (x0 : Nat) (x2 : Int32) (x3 : Int32) (M : A_M) (r : Int32) (M' : A_M), f_X7_hear_L165 N n x0 x2 x3 M = some (r, M') → J X 5 165 [(0, .ref x0), (2, .int x2), (3, .int x3)] [] M 0 0 (some (.int r)) M' := by
  intro n
  induction n with
  | zero =>
    intro x0 x2 x3 M r M' h
    cases h
  | succ n ih =>
    intro x0 x2 x3 M r M' h
    rw [f_X7_hear_L165] at h
    refine J_iload_n (pc' := 166) C 2 dX7_hear_165 rfl rfl rfl ?_
    refine J_aload_n (pc' := 167) C 0 dX7_hear_166 rfl rfl rfl ?_
    obtain ⟨v167, e167, h⟩ := bd h
    refine jg_882 (pc' := 170) C dX7_hear_167 rfl (gI_some e167) ?_
    refine J_icmp_ge (tgt := 203) (pc' := 173) C dX7_hear_170 (by decide) rfl (fun c170 => ?_) (fun c170 => ?_)
    · rw [if_pos c170] at h
      refine J_iload_n (pc' := 204) C 1 dX7_hear_203 rfl rfl rfl ?_
      refine J_if_ge (tgt := 214) (pc' := 207) C dX7_hear_204 (by decide) rfl (fun c204 => ?_) (fun c204 => ?_)
      · rw [if_pos c204] at h
        refine J_bipush (pc' := 216) (v := (-100 : Int32)) C dX7_hear_214 rfl (by decide) ?_
        refine J_iload_n (pc' := 217) C 1 dX7_hear_216 rfl rfl rfl ?_
        refine J_isub (pc' := 218) C dX7_hear_217 rfl ?_
        obtain ⟨rfl, rfl⟩ := rt2 h
        exact J_iret C dX7_hear_218 (Nat.zero_le _) (Nat.zero_le _)
      · rw [if_neg c204] at h
        refine J_aload_n (pc' := 208) C 0 dX7_hear_207 rfl rfl rfl ?_
        obtain ⟨v208, e208, h⟩ := bd h
        refine jg_925 (pc' := 211) C dX7_hear_208 rfl (gI_some e208) ?_
        refine J_goto (tgt := 218) C dX7_hear_211 (by decide) ?_
        obtain ⟨rfl, rfl⟩ := rt2 h
        exact J_iret C dX7_hear_218 (Nat.zero_le _) (Nat.zero_le _)
    · rw [if_neg c170] at h
      refine J_aload_n (pc' := 174) C 0 dX7_hear_173 rfl rfl rfl ?_
      obtain ⟨v174, e174, h⟩ := bd h
      refine jg_886 (pc' := 177) C dX7_hear_174 rfl (gR_some e174) ?_
      refine J_iload_n (pc' := 178) C 2 dX7_hear_177 rfl rfl rfl ?_
      refine J_aload_n (pc' := 179) C 0 dX7_hear_178 rfl rfl rfl ?_
      obtain ⟨v179, e179, h⟩ := bd h
      refine jg_913 (pc' := 182) C dX7_hear_179 rfl (gR_some e179) ?_
      refine J_iload_n (pc' := 183) C 2 dX7_hear_182 rfl rfl rfl ?_
      obtain ⟨v183, e183, h⟩ := bd h
      refine J_lald (pc' := 184) C dX7_hear_183 rfl e183 ?_
      obtain ⟨M184, e184, h⟩ := bd h
      refine J_last (pc' := 185) C dX7_hear_184 rfl e184 ?_
      refine J_aload_n (pc' := 186) C 0 dX7_hear_185 rfl rfl rfl ?_
      obtain ⟨v186, e186, h⟩ := bd h
      refine jg_887 (pc' := 189) C dX7_hear_186 rfl (gR_some e186) ?_
      refine J_iload_n (pc' := 190) C 2 dX7_hear_189 rfl rfl rfl ?_
      refine J_aload_n (pc' := 191) C 0 dX7_hear_190 rfl rfl rfl ?_
      obtain ⟨v191, e191, h⟩ := bd h
      refine jg_914 (pc' := 194) C dX7_hear_191 rfl (gR_some e191) ?_
      refine J_iload_n (pc' := 195) C 2 dX7_hear_194 rfl rfl rfl ?_
      obtain ⟨v195, e195, h⟩ := bd h
      refine J_iald (pc' := 196) C dX7_hear_195 rfl e195 ?_
      obtain ⟨M196, e196, h⟩ := bd h
      refine J_iast (pc' := 197) C dX7_hear_196 rfl e196 ?_
      refine J_iinc (pc' := 200) (lv' := [(3, .int (x3 + 1)), (0, .ref x0), (2, .int x2)]) C 2 dX7_hear_197 rfl rfl rfl (by decide) rfl ?_
      refine J_goto (tgt := 165) C dX7_hear_200 (by decide) ?_
      refine J_sub (lv' := [(0, .ref x0), (2, .int x2), (3, .int (x3 + 1))]) [1, 2, 0] rfl ?_
      exact ih _ _ _ _ _ _ h
def f_X7_hear_K163 (N : Nat) (x0 : Nat) (x2 : Int32) (M : A_M) : Option (Int32 × A_M) :=
  f_X7_hear_L165 N N x0 x2 (0 : Int32) M
set_option maxHeartbeats 4000000 in
set_option maxRecDepth 100000 in
theorem ok_X7_hear_K163 {X : JX} (C : Cx X cX7_hear RX7 5 (some .int) 6 172) (N : Nat) : ∀ (x0 : Nat) (x2 : Int32) (M : A_M) (r : Int32) (M' : A_M), f_X7_hear_K163 N x0 x2 M = some (r, M') → J X 5 163 [(0, .ref x0), (2, .int x2)] [] M 0 0 (some (.int r)) M' := by
  intro x0 x2 M r M' h
  unfold f_X7_hear_K163 at h
  refine J_iconst (pc' := 164) (v := (0 : Int32)) C dX7_hear_163 rfl (by decide) ?_
  refine J_istore_n (pc' := 165) (lv' := [(3, .int (0 : Int32)), (0, .ref x0), (2, .int x2)]) C dX7_hear_164 rfl rfl (by decide) rfl ?_
  refine J_sub (lv' := [(0, .ref x0), (2, .int x2), (3, .int (0 : Int32))]) [1, 2, 0] rfl ?_
  exact ok_X7_hear_L165 C N N _ _ _ _ _ _ h
def f_X7_hear_L66 (N : Nat) : Nat → Nat → Int32 → Int32 → A_M → Option (Int32 × A_M)
  | 0, _, _, _, _ => none
  | n + 1, x0, x1, x2, M =>
    (gI M x0 7 44).bind fun v68 =>
    if v68 ≤ x1 then
    (f_X7_hear_K163 N x0 x2 M)
    else
    (if 0 ≤ x2 then
    (f_X7_hear_K163 N x0 x2 M)
    else
    ((gR M x0 7 24).bind fun v80 =>
    (chk M x0 7).bind fun _ =>
    bnd2 (f_X7_buildFree N x0 v80 (24 : Int32) M) fun v85 M85 =>
    if v85 = 0 then
    (f_X7_hear_K102 N (f_X7_hear_L66 N n) x0 x1 x2 (-1 : Int32) M85)
    else
    ((chk M85 x0 7).bind fun _ =>
    bnd2 (f_X7_wordAt N x0 x1 M85) fun v95 M95 =>
    f_X7_hear_K102 N (f_X7_hear_L66 N n) x0 x1 x2 v95 M95)))
set_option maxHeartbeats 4000000 in
set_option maxRecDepth 100000 in
theorem ok_X7_hear_L66 {X : JX} (C : Cx X cX7_hear RX7 5 (some .int) 6 172) (N : Nat) : ∀ (n : Nat) (x0 : Nat) (x1 : Int32) (x2 : Int32) (M : A_M) (r : Int32) (M' : A_M), f_X7_hear_L66 N n x0 x1 x2 M = some (r, M') → J X 5 66 [(0, .ref x0), (1, .int x1), (2, .int x2)] [] M 0 0 (some (.int r)) M' := by
  intro n
  induction n with
  | zero =>
    intro x0 x1 x2 M r M' h
    cases h
  | succ n ih =>
    intro x0 x1 x2 M r M' h
    rw [f_X7_hear_L66] at h
    refine J_iload_n (pc' := 67) C 1 dX7_hear_66 rfl rfl rfl ?_
    refine J_aload_n (pc' := 68) C 0 dX7_hear_67 rfl rfl rfl ?_
    obtain ⟨v68, e68, h⟩ := bd h
    refine jg_923 (pc' := 71) C dX7_hear_68 rfl (gI_some e68) ?_
    refine J_icmp_ge (tgt := 163) (pc' := 74) C dX7_hear_71 (by decide) rfl (fun c71 => ?_) (fun c71 => ?_)
    · rw [if_pos c71] at h
      refine J_sub (lv' := [(0, .ref x0), (2, .int x2)]) [0, 2] rfl ?_
      exact ok_X7_hear_K163 C N _ _ _ _ _ h
    · rw [if_neg c71] at h
      refine J_iload_n (pc' := 75) C 2 dX7_hear_74 rfl rfl rfl ?_
      refine J_if_ge (tgt := 163) (pc' := 78) C dX7_hear_75 (by decide) rfl (fun c75 => ?_) (fun c75 => ?_)
      · rw [if_pos c75] at h
        refine J_sub (lv' := [(0, .ref x0), (2, .int x2)]) [0, 2] rfl ?_
        exact ok_X7_hear_K163 C N _ _ _ _ _ h
      · rw [if_neg c75] at h
        refine J_aload_n (pc' := 79) C 0 dX7_hear_78 rfl rfl rfl ?_
        refine J_aload_n (pc' := 80) C 0 dX7_hear_79 rfl rfl rfl ?_
        obtain ⟨v80, e80, h⟩ := bd h
        refine jg_903 (pc' := 83) C dX7_hear_80 rfl (gR_some e80) ?_
        refine J_bipush (pc' := 85) (v := (24 : Int32)) C dX7_hear_83 rfl (by decide) ?_
        obtain ⟨_, q85, h⟩ := bd h
        obtain ⟨v85, M85, e85, h⟩ := bd2 h
        refine J_cV (pc' := 88) (st := []) (st2 := [.int v85]) (cs2 := 0) (sl2 := 0) C 7 rfl rfl q85 (ok_X7_buildFree N e85) mw_X7_buildFree wq_1128 rfl dX7_hear_85 rfl rfl (Nat.le_of_ble_eq_true rfl) (by decide) (by decide) rfl rfl rfl (Nat.zero_le _) (Nat.zero_le _) ?_
        refine J_istore_n (pc' := 89) (lv' := [(3, .int v85), (0, .ref x0), (1, .int x1), (2, .int x2)]) C dX7_hear_88 rfl rfl (by decide) rfl ?_
        refine J_iload_n (pc' := 90) C 0 dX7_hear_89 rfl rfl rfl ?_
        refine J_if_eq (tgt := 101) (pc' := 93) C dX7_hear_90 (by decide) rfl (fun c90 => ?_) (fun c90 => ?_)
        · rw [if_pos c90] at h
          refine J_iconst (pc' := 102) (v := (-1 : Int32)) C dX7_hear_101 rfl (by decide) ?_
          refine J_sub (lv' := [(0, .ref x0), (1, .int x1), (2, .int x2)]) [1, 2, 3] rfl ?_
          exact ok_X7_hear_K102 C N ih _ _ _ _ _ _ _ h
        · rw [if_neg c90] at h
          refine J_aload_n (pc' := 94) C 1 dX7_hear_93 rfl rfl rfl ?_
          refine J_iload_n (pc' := 95) C 2 dX7_hear_94 rfl rfl rfl ?_
          obtain ⟨_, q95, h⟩ := bd h
          obtain ⟨v95, M95, e95, h⟩ := bd2 h
          refine J_cV (pc' := 98) (st := []) (st2 := [.int v95]) (cs2 := 0) (sl2 := 0) C 7 rfl rfl q95 (ok_X7_wordAt N e95) mw_X7_wordAt wq_1341 rfl dX7_hear_95 rfl rfl (Nat.le_of_ble_eq_true rfl) (by decide) (by decide) rfl rfl rfl (Nat.zero_le _) (Nat.zero_le _) ?_
          refine J_goto (tgt := 102) C dX7_hear_98 (by decide) ?_
          refine J_sub (lv' := [(0, .ref x0), (1, .int x1), (2, .int x2)]) [1, 2, 3] rfl ?_
          exact ok_X7_hear_K102 C N ih _ _ _ _ _ _ _ h
def f_X7_hear_K57 (N : Nat) (x0 : Nat) (M : A_M) : Option (Int32 × A_M) :=
  (pV M x0 7 46 (.int (0 : Int32))).bind fun M59 =>
  f_X7_hear_L66 N N x0 (0 : Int32) (-1 : Int32) M59
set_option maxHeartbeats 4000000 in
set_option maxRecDepth 100000 in
theorem ok_X7_hear_K57 {X : JX} (C : Cx X cX7_hear RX7 5 (some .int) 6 172) (N : Nat) : ∀ (x0 : Nat) (M : A_M) (r : Int32) (M' : A_M), f_X7_hear_K57 N x0 M = some (r, M') → J X 5 57 [(0, .ref x0)] [] M 0 0 (some (.int r)) M' := by
  intro x0 M r M' h
  unfold f_X7_hear_K57 at h
  refine J_aload_n (pc' := 58) C 0 dX7_hear_57 rfl rfl rfl ?_
  refine J_iconst (pc' := 59) (v := (0 : Int32)) C dX7_hear_58 rfl (by decide) ?_
  obtain ⟨M59, e59, h⟩ := bd h
  refine jp_925 (pc' := 62) C (fun _ => ⟨rfl, rfl⟩) dX7_hear_59 rfl e59 ?_
  refine J_iconst (pc' := 63) (v := (0 : Int32)) C dX7_hear_62 rfl (by decide) ?_
  refine J_istore_n (pc' := 64) (lv' := [(1, .int (0 : Int32)), (0, .ref x0)]) C dX7_hear_63 rfl rfl (by decide) rfl ?_
  refine J_iconst (pc' := 65) (v := (-1 : Int32)) C dX7_hear_64 rfl (by decide) ?_
  refine J_istore_n (pc' := 66) (lv' := [(2, .int (-1 : Int32)), (1, .int (0 : Int32)), (0, .ref x0)]) C dX7_hear_65 rfl rfl (by decide) rfl ?_
  refine J_sub (lv' := [(0, .ref x0), (1, .int (0 : Int32)), (2, .int (-1 : Int32))]) [2, 1, 0] rfl ?_
  exact ok_X7_hear_L66 C N N _ _ _ _ _ _ h
def f_X7_hear_L12 (N : Nat) : Nat → Nat → Int32 → A_M → Option (Int32 × A_M)
  | 0, _, _, _ => none
  | n + 1, x0, x1, M =>
    (gI M x0 7 3).bind fun v14 =>
    if v14 ≤ x1 then
    (f_X7_hear_K57 N x0 M)
    else
    ((gR M x0 7 34).bind fun v21 =>
    (gR M x0 7 7).bind fun v26 =>
    (ldJ M v26 x1).bind fun v30 =>
    (stJ M v21 x1 v30).bind fun M31 =>
    (gR M31 x0 7 35).bind fun v33 =>
    (gR M31 x0 7 8).bind fun v38 =>
    (ldI M31 v38 x1).bind fun v42 =>
    (stI M31 v33 x1 v42).bind fun M43 =>
    (gR M43 x0 7 24).bind fun v45 =>
    (stI M43 v45 x1 (1 : Int32)).bind fun M50 =>
    f_X7_hear_L12 N n x0 (x1 + 1) M50)
set_option maxHeartbeats 4000000 in
set_option maxRecDepth 100000 in
theorem ok_X7_hear_L12 {X : JX} (C : Cx X cX7_hear RX7 5 (some .int) 6 172) (N : Nat) : ∀ (n : Nat) (x0 : Nat) (x1 : Int32) (M : A_M) (r : Int32) (M' : A_M), f_X7_hear_L12 N n x0 x1 M = some (r, M') → J X 5 12 [(0, .ref x0), (1, .int x1)] [] M 0 0 (some (.int r)) M' := by
  intro n
  induction n with
  | zero =>
    intro x0 x1 M r M' h
    cases h
  | succ n ih =>
    intro x0 x1 M r M' h
    rw [f_X7_hear_L12] at h
    refine J_iload_n (pc' := 13) C 1 dX7_hear_12 rfl rfl rfl ?_
    refine J_aload_n (pc' := 14) C 0 dX7_hear_13 rfl rfl rfl ?_
    obtain ⟨v14, e14, h⟩ := bd h
    refine jg_882 (pc' := 17) C dX7_hear_14 rfl (gI_some e14) ?_
    refine J_icmp_ge (tgt := 57) (pc' := 20) C dX7_hear_17 (by decide) rfl (fun c17 => ?_) (fun c17 => ?_)
    · rw [if_pos c17] at h
      refine J_sub (lv' := [(0, .ref x0)]) [0] rfl ?_
      exact ok_X7_hear_K57 C N _ _ _ _ h
    · rw [if_neg c17] at h
      refine J_aload_n (pc' := 21) C 0 dX7_hear_20 rfl rfl rfl ?_
      obtain ⟨v21, e21, h⟩ := bd h
      refine jg_913 (pc' := 24) C dX7_hear_21 rfl (gR_some e21) ?_
      refine J_iload_n (pc' := 25) C 1 dX7_hear_24 rfl rfl rfl ?_
      refine J_aload_n (pc' := 26) C 0 dX7_hear_25 rfl rfl rfl ?_
      obtain ⟨v26, e26, h⟩ := bd h
      refine jg_886 (pc' := 29) C dX7_hear_26 rfl (gR_some e26) ?_
      refine J_iload_n (pc' := 30) C 1 dX7_hear_29 rfl rfl rfl ?_
      obtain ⟨v30, e30, h⟩ := bd h
      refine J_lald (pc' := 31) C dX7_hear_30 rfl e30 ?_
      obtain ⟨M31, e31, h⟩ := bd h
      refine J_last (pc' := 32) C dX7_hear_31 rfl e31 ?_
      refine J_aload_n (pc' := 33) C 0 dX7_hear_32 rfl rfl rfl ?_
      obtain ⟨v33, e33, h⟩ := bd h
      refine jg_914 (pc' := 36) C dX7_hear_33 rfl (gR_some e33) ?_
      refine J_iload_n (pc' := 37) C 1 dX7_hear_36 rfl rfl rfl ?_
      refine J_aload_n (pc' := 38) C 0 dX7_hear_37 rfl rfl rfl ?_
      obtain ⟨v38, e38, h⟩ := bd h
      refine jg_887 (pc' := 41) C dX7_hear_38 rfl (gR_some e38) ?_
      refine J_iload_n (pc' := 42) C 1 dX7_hear_41 rfl rfl rfl ?_
      obtain ⟨v42, e42, h⟩ := bd h
      refine J_iald (pc' := 43) C dX7_hear_42 rfl e42 ?_
      obtain ⟨M43, e43, h⟩ := bd h
      refine J_iast (pc' := 44) C dX7_hear_43 rfl e43 ?_
      refine J_aload_n (pc' := 45) C 0 dX7_hear_44 rfl rfl rfl ?_
      obtain ⟨v45, e45, h⟩ := bd h
      refine jg_903 (pc' := 48) C dX7_hear_45 rfl (gR_some e45) ?_
      refine J_iload_n (pc' := 49) C 1 dX7_hear_48 rfl rfl rfl ?_
      refine J_iconst (pc' := 50) (v := (1 : Int32)) C dX7_hear_49 rfl (by decide) ?_
      obtain ⟨M50, e50, h⟩ := bd h
      refine J_iast (pc' := 51) C dX7_hear_50 rfl e50 ?_
      refine J_iinc (pc' := 54) (lv' := [(1, .int (x1 + 1)), (0, .ref x0)]) C 1 dX7_hear_51 rfl rfl rfl (by decide) rfl ?_
      refine J_goto (tgt := 12) C dX7_hear_54 (by decide) ?_
      refine J_sub (lv' := [(0, .ref x0), (1, .int (x1 + 1))]) [1, 0] rfl ?_
      exact ih _ _ _ _ _ h
def f_X7_hear (N : Nat) (a0 : Nat) (M : A_M) : Option (Int32 × A_M) :=
  (chk M a0 7).bind fun _ =>
  bnd2 (f_X7_mayBeFree N a0 M) fun v1 M1 =>
  if v1 = 0 then
  (some ((-3 : Int32), M1))
  else
  (f_X7_hear_L12 N N a0 (0 : Int32) M1)
set_option maxHeartbeats 4000000 in
set_option maxRecDepth 100000 in
theorem ok_X7_hear (N : Nat) {a0 : Nat} {M : A_M} {r : Int32} {M' : A_M} (h : f_X7_hear N a0 M = some (r, M')) : Runs yX7_hear cX7_hear 5 (some .int) 6 172 0 0 [.ref a0] M (some (.int r)) M' := by
  refine Runs.intro (by decide) (Nat.le_of_ble_eq_true rfl) (fun X C hnm hMC hMS => ?_)
  have C : Cx X cX7_hear RX7 5 (some .int) 6 172 := C
  show J X 5 0 [(0, .ref a0)] [] M 0 0 (some (.int r)) M'
  unfold f_X7_hear at h
  refine J_aload_n (pc' := 1) C 0 dX7_hear_0 rfl rfl rfl ?_
  obtain ⟨_, q1, h⟩ := bd h
  obtain ⟨v1, M1, e1, h⟩ := bd2 h
  refine J_cV (pc' := 4) (st := []) (st2 := [.int v1]) (cs2 := 0) (sl2 := 0) C 7 rfl rfl q1 (ok_X7_mayBeFree N e1) mw_X7_mayBeFree wq_1116 rfl dX7_hear_1 rfl rfl (Nat.le_of_ble_eq_true rfl) (by decide) (by decide) rfl rfl rfl (Nat.zero_le _) (Nat.zero_le _) ?_
  refine J_if_ne (tgt := 10) (pc' := 7) C dX7_hear_4 (by decide) rfl (fun c4 => ?_) (fun c4 => ?_)
  · rw [if_neg c4] at h
    refine J_iconst (pc' := 11) (v := (0 : Int32)) C dX7_hear_10 rfl (by decide) ?_
    refine J_istore_n (pc' := 12) (lv' := [(1, .int (0 : Int32)), (0, .ref a0)]) C dX7_hear_11 rfl rfl (by decide) rfl ?_
    refine J_sub (lv' := [(0, .ref a0), (1, .int (0 : Int32))]) [1, 0] rfl ?_
    exact ok_X7_hear_L12 C N N _ _ _ _ _ h
  · rw [if_pos c4] at h
    refine J_bipush (pc' := 9) (v := (-3 : Int32)) C dX7_hear_7 rfl (by decide) ?_
    obtain ⟨rfl, rfl⟩ := rt2 h
    exact J_iret C dX7_hear_9 (Nat.zero_le _) (Nat.zero_le _)
def f_X7_grown (N : Nat) (a0 : Nat) (a1 : Int32) (M : A_M) : Option (Int32 × A_M) :=
  (chk M a0 7).bind fun _ =>
  bnd2 (f_X7_isThing N a0 a1 M) fun v2 M2 =>
  if v2 = 0 then
  (some ((-1 : Int32), M2))
  else
  ((gI M2 a0 7 4).bind fun v11 =>
  if v11 = 0 then
  (some ((-3 : Int32), M2))
  else
  ((gI M2 a0 7 6).bind fun v18 =>
  if v18 = 0 then
  (some ((-3 : Int32), M2))
  else
  ((gR M2 a0 7 9).bind fun v25 =>
  (ldI M2 v25 a1).bind fun v29 =>
  some (v29, M2))))
set_option maxHeartbeats 4000000 in
set_option maxRecDepth 100000 in
theorem ok_X7_grown (N : Nat) {a0 : Nat} {a1 : Int32} {M : A_M} {r : Int32} {M' : A_M} (h : f_X7_grown N a0 a1 M = some (r, M')) : Runs yX7_grown cX7_grown 2 (some .int) 2 46 0 0 [.ref a0, .int a1] M (some (.int r)) M' := by
  refine Runs.intro (by decide) (Nat.le_of_ble_eq_true rfl) (fun X C hnm hMC hMS => ?_)
  have C : Cx X cX7_grown RX7 2 (some .int) 2 46 := C
  show J X 2 0 [(0, .ref a0), (1, .int a1)] [] M 0 0 (some (.int r)) M'
  unfold f_X7_grown at h
  refine J_aload_n (pc' := 1) C 0 dX7_grown_0 rfl rfl rfl ?_
  refine J_iload_n (pc' := 2) C 1 dX7_grown_1 rfl rfl rfl ?_
  obtain ⟨_, q2, h⟩ := bd h
  obtain ⟨v2, M2, e2, h⟩ := bd2 h
  refine J_cV (pc' := 5) (st := []) (st2 := [.int v2]) (cs2 := 0) (sl2 := 0) C 7 rfl rfl q2 (ok_X7_isThing N e2) mw_X7_isThing wq_1074 rfl dX7_grown_2 rfl rfl (Nat.le_of_ble_eq_true rfl) (by decide) (by decide) rfl rfl rfl (Nat.zero_le _) (Nat.zero_le _) ?_
  refine J_if_ne (tgt := 10) (pc' := 8) C dX7_grown_5 (by decide) rfl (fun c5 => ?_) (fun c5 => ?_)
  · rw [if_neg c5] at h
    refine J_aload_n (pc' := 11) C 0 dX7_grown_10 rfl rfl rfl ?_
    obtain ⟨v11, e11, h⟩ := bd h
    refine jg_883 (pc' := 14) C dX7_grown_11 rfl (gI_some e11) ?_
    refine J_if_eq (tgt := 33) (pc' := 17) C dX7_grown_14 (by decide) rfl (fun c14 => ?_) (fun c14 => ?_)
    · rw [if_pos c14] at h
      refine J_bipush (pc' := 35) (v := (-3 : Int32)) C dX7_grown_33 rfl (by decide) ?_
      obtain ⟨rfl, rfl⟩ := rt2 h
      exact J_iret C dX7_grown_35 (Nat.zero_le _) (Nat.zero_le _)
    · rw [if_neg c14] at h
      refine J_aload_n (pc' := 18) C 0 dX7_grown_17 rfl rfl rfl ?_
      obtain ⟨v18, e18, h⟩ := bd h
      refine jg_885 (pc' := 21) C dX7_grown_18 rfl (gI_some e18) ?_
      refine J_if_eq (tgt := 33) (pc' := 24) C dX7_grown_21 (by decide) rfl (fun c21 => ?_) (fun c21 => ?_)
      · rw [if_pos c21] at h
        refine J_bipush (pc' := 35) (v := (-3 : Int32)) C dX7_grown_33 rfl (by decide) ?_
        obtain ⟨rfl, rfl⟩ := rt2 h
        exact J_iret C dX7_grown_35 (Nat.zero_le _) (Nat.zero_le _)
      · rw [if_neg c21] at h
        refine J_aload_n (pc' := 25) C 0 dX7_grown_24 rfl rfl rfl ?_
        obtain ⟨v25, e25, h⟩ := bd h
        refine jg_888 (pc' := 28) C dX7_grown_25 rfl (gR_some e25) ?_
        refine J_iload_n (pc' := 29) C 1 dX7_grown_28 rfl rfl rfl ?_
        obtain ⟨v29, e29, h⟩ := bd h
        refine J_iald (pc' := 30) C dX7_grown_29 rfl e29 ?_
        refine J_goto (tgt := 35) C dX7_grown_30 (by decide) ?_
        obtain ⟨rfl, rfl⟩ := rt2 h
        exact J_iret C dX7_grown_35 (Nat.zero_le _) (Nat.zero_le _)
  · rw [if_pos c5] at h
    refine J_iconst (pc' := 9) (v := (-1 : Int32)) C dX7_grown_8 rfl (by decide) ?_
    obtain ⟨rfl, rfl⟩ := rt2 h
    exact J_iret C dX7_grown_9 (Nat.zero_le _) (Nat.zero_le _)
def f_X7_makes_K104 (N : Nat) (k23 : Nat → Int32 → Int32 → Int32 → A_M → Option (Int32 × A_M)) (x0 : Nat) (x1 : Int32) (x2 : Int32) (x3 : Int32) (M : A_M) : Option (Int32 × A_M) :=
  k23 x0 x1 x2 (x3 + 1) M
set_option maxHeartbeats 4000000 in
set_option maxRecDepth 100000 in
theorem ok_X7_makes_K104 {X : JX} (C : Cx X cX7_makes RX7 5 (some .boolean) 0 0) (N : Nat) {k23 : Nat → Int32 → Int32 → Int32 → A_M → Option (Int32 × A_M)} (hk23 : ∀ (x0 : Nat) (x1 : Int32) (x2 : Int32) (x3 : Int32) (M : A_M) (r : Int32) (M' : A_M), k23 x0 x1 x2 x3 M = some (r, M') → J X 5 23 [(0, .ref x0), (1, .int x1), (2, .int x2), (3, .int x3)] [] M 0 0 (some (.int r)) M') : ∀ (x0 : Nat) (x1 : Int32) (x2 : Int32) (x3 : Int32) (M : A_M) (r : Int32) (M' : A_M), f_X7_makes_K104 N k23 x0 x1 x2 x3 M = some (r, M') → J X 5 104 [(0, .ref x0), (1, .int x1), (2, .int x2), (3, .int x3)] [] M 0 0 (some (.int r)) M' := by
  intro x0 x1 x2 x3 M r M' h
  unfold f_X7_makes_K104 at h
  refine J_iinc (pc' := 107) (lv' := [(3, .int (x3 + 1)), (0, .ref x0), (1, .int x1), (2, .int x2)]) C 3 dX7_makes_104 rfl rfl rfl (by decide) rfl ?_
  refine J_goto (tgt := 23) C dX7_makes_107 (by decide) ?_
  refine J_sub (lv' := [(0, .ref x0), (1, .int x1), (2, .int x2), (3, .int (x3 + 1))]) [1, 2, 3, 0] rfl ?_
  exact hk23 _ _ _ _ _ _ _ h
def f_X7_makes_L23 (N : Nat) : Nat → Nat → Int32 → Int32 → Int32 → A_M → Option (Int32 × A_M)
  | 0, _, _, _, _, _ => none
  | n + 1, x0, x1, x2, x3, M =>
    (gI M x0 7 40).bind fun v25 =>
    if v25 ≤ x3 then
    (some ((1 : Int32), M))
    else
    ((gR M x0 7 47).bind fun v32 =>
    (ldJ M v32 (((9 : Int32) * x1) + (x3 / (64 : Int32)))).bind fun v44 =>
    if (lg_cmp ((v44 >>> ((x3 - x3 / (64 : Int32) * (64 : Int32)).toInt64 &&& 63)) &&& (1 : Int64)) (1 : Int64)) = 0 then
    ((gR M x0 7 41).bind fun v58 =>
    (ldI M v58 (((4 : Int32) * x3) + x2)).bind fun v66 =>
    if 0 ≤ v66 then
    ((gR M x0 7 51).bind fun v77 =>
    (gR M x0 7 51).bind fun v86 =>
    (ldJ M v86 (v66 / (64 : Int32))).bind fun v94 =>
    (stJ M v77 (v66 / (64 : Int32)) (v94 ||| ((1 : Int64) <<< ((v66 - v66 / (64 : Int32) * (64 : Int32)).toInt64 &&& 63)))).bind fun M103 =>
    f_X7_makes_K104 N (f_X7_makes_L23 N n) x0 x1 x2 x3 M103)
    else
    (some ((0 : Int32), M)))
    else
    (f_X7_makes_K104 N (f_X7_makes_L23 N n) x0 x1 x2 x3 M))
set_option maxHeartbeats 4000000 in
set_option maxRecDepth 100000 in
theorem ok_X7_makes_L23 {X : JX} (C : Cx X cX7_makes RX7 5 (some .boolean) 0 0) (N : Nat) : ∀ (n : Nat) (x0 : Nat) (x1 : Int32) (x2 : Int32) (x3 : Int32) (M : A_M) (r : Int32) (M' : A_M), f_X7_makes_L23 N n x0 x1 x2 x3 M = some (r, M') → J X 5 23 [(0, .ref x0), (1, .int x1), (2, .int x2), (3, .int x3)] [] M 0 0 (some (.int r)) M' := by
  intro n
  induction n with
  | zero =>
    intro x0 x1 x2 x3 M r M' h
    cases h
  | succ n ih =>
    intro x0 x1 x2 x3 M r M' h
    rw [f_X7_makes_L23] at h
    refine J_iload_n (pc' := 24) C 3 dX7_makes_23 rfl rfl rfl ?_
    refine J_aload_n (pc' := 25) C 0 dX7_makes_24 rfl rfl rfl ?_
    obtain ⟨v25, e25, h⟩ := bd h
    refine jg_919 (pc' := 28) C dX7_makes_25 rfl (gI_some e25) ?_
    refine J_icmp_ge (tgt := 110) (pc' := 31) C dX7_makes_28 (by decide) rfl (fun c28 => ?_) (fun c28 => ?_)
    · rw [if_pos c28] at h
      refine J_iconst (pc' := 111) (v := (1 : Int32)) C dX7_makes_110 rfl (by decide) ?_
      obtain ⟨rfl, rfl⟩ := rt2 h
      exact J_zret C rfl dX7_makes_111 (Nat.zero_le _) (Nat.zero_le _)
    · rw [if_neg c28] at h
      refine J_aload_n (pc' := 32) C 0 dX7_makes_31 rfl rfl rfl ?_
      obtain ⟨v32, e32, h⟩ := bd h
      refine jg_926 (pc' := 35) C dX7_makes_32 rfl (gR_some e32) ?_
      refine J_bipush (pc' := 37) (v := (9 : Int32)) C dX7_makes_35 rfl (by decide) ?_
      refine J_iload_n (pc' := 38) C 1 dX7_makes_37 rfl rfl rfl ?_
      refine J_imul (pc' := 39) C dX7_makes_38 rfl ?_
      refine J_iload_n (pc' := 40) C 3 dX7_makes_39 rfl rfl rfl ?_
      refine J_bipush (pc' := 42) (v := (64 : Int32)) C dX7_makes_40 rfl (by decide) ?_
      refine J_idiv (pc' := 43) C (by decide) dX7_makes_42 rfl ?_
      refine J_iadd (pc' := 44) C dX7_makes_43 rfl ?_
      obtain ⟨v44, e44, h⟩ := bd h
      refine J_lald (pc' := 45) C dX7_makes_44 rfl e44 ?_
      refine J_iload_n (pc' := 46) C 3 dX7_makes_45 rfl rfl rfl ?_
      refine J_bipush (pc' := 48) (v := (64 : Int32)) C dX7_makes_46 rfl (by decide) ?_
      refine J_irem (pc' := 49) C (by decide) dX7_makes_48 rfl ?_
      refine J_lshr (pc' := 50) C dX7_makes_49 rfl ?_
      refine J_lconst (pc' := 51) (v := (1 : Int64)) C dX7_makes_50 rfl (by decide) ?_
      refine J_land (pc' := 52) C dX7_makes_51 rfl ?_
      refine J_lconst (pc' := 53) (v := (1 : Int64)) C dX7_makes_52 rfl (by decide) ?_
      refine J_lcmp (pc' := 54) C dX7_makes_53 rfl ?_
      refine J_if_ne (tgt := 104) (pc' := 57) C dX7_makes_54 (by decide) rfl (fun c54 => ?_) (fun c54 => ?_)
      · rw [if_neg c54] at h
        refine J_sub (lv' := [(0, .ref x0), (1, .int x1), (2, .int x2), (3, .int x3)]) [0, 1, 2, 3] rfl ?_
        exact ok_X7_makes_K104 C N ih _ _ _ _ _ _ _ h
      · rw [if_pos c54] at h
        refine J_aload_n (pc' := 58) C 0 dX7_makes_57 rfl rfl rfl ?_
        obtain ⟨v58, e58, h⟩ := bd h
        refine jg_920 (pc' := 61) C dX7_makes_58 rfl (gR_some e58) ?_
        refine J_iconst (pc' := 62) (v := (4 : Int32)) C dX7_makes_61 rfl (by decide) ?_
        refine J_iload_n (pc' := 63) C 3 dX7_makes_62 rfl rfl rfl ?_
        refine J_imul (pc' := 64) C dX7_makes_63 rfl ?_
        refine J_iload_n (pc' := 65) C 2 dX7_makes_64 rfl rfl rfl ?_
        refine J_iadd (pc' := 66) C dX7_makes_65 rfl ?_
        obtain ⟨v66, e66, h⟩ := bd h
        refine J_iald (pc' := 67) C dX7_makes_66 rfl e66 ?_
        refine J_istore (pc' := 69) (lv' := [(4, .int v66), (0, .ref x0), (1, .int x1), (2, .int x2), (3, .int x3)]) C dX7_makes_67 rfl (by decide) rfl ?_
        refine J_iload (pc' := 71) C 0 dX7_makes_69 rfl rfl ?_
        refine J_if_ge (tgt := 76) (pc' := 74) C dX7_makes_71 (by decide) rfl (fun c71 => ?_) (fun c71 => ?_)
        · rw [if_pos c71] at h
          refine J_aload_n (pc' := 77) C 1 dX7_makes_76 rfl rfl rfl ?_
          obtain ⟨v77, e77, h⟩ := bd h
          refine jg_930 (pc' := 80) C dX7_makes_77 rfl (gR_some e77) ?_
          refine J_iload (pc' := 82) C 0 dX7_makes_80 rfl rfl ?_
          refine J_bipush (pc' := 84) (v := (64 : Int32)) C dX7_makes_82 rfl (by decide) ?_
          refine J_idiv (pc' := 85) C (by decide) dX7_makes_84 rfl ?_
          refine J_aload_n (pc' := 86) C 1 dX7_makes_85 rfl rfl rfl ?_
          obtain ⟨v86, e86, h⟩ := bd h
          refine jg_930 (pc' := 89) C dX7_makes_86 rfl (gR_some e86) ?_
          refine J_iload (pc' := 91) C 0 dX7_makes_89 rfl rfl ?_
          refine J_bipush (pc' := 93) (v := (64 : Int32)) C dX7_makes_91 rfl (by decide) ?_
          refine J_idiv (pc' := 94) C (by decide) dX7_makes_93 rfl ?_
          obtain ⟨v94, e94, h⟩ := bd h
          refine J_lald (pc' := 95) C dX7_makes_94 rfl e94 ?_
          refine J_lconst (pc' := 96) (v := (1 : Int64)) C dX7_makes_95 rfl (by decide) ?_
          refine J_iload (pc' := 98) C 0 dX7_makes_96 rfl rfl ?_
          refine J_bipush (pc' := 100) (v := (64 : Int32)) C dX7_makes_98 rfl (by decide) ?_
          refine J_irem (pc' := 101) C (by decide) dX7_makes_100 rfl ?_
          refine J_lshl (pc' := 102) C dX7_makes_101 rfl ?_
          refine J_lor (pc' := 103) C dX7_makes_102 rfl ?_
          obtain ⟨M103, e103, h⟩ := bd h
          refine J_last (pc' := 104) C dX7_makes_103 rfl e103 ?_
          refine J_sub (lv' := [(0, .ref x0), (1, .int x1), (2, .int x2), (3, .int x3)]) [1, 2, 3, 4] rfl ?_
          exact ok_X7_makes_K104 C N ih _ _ _ _ _ _ _ h
        · rw [if_neg c71] at h
          refine J_iconst (pc' := 75) (v := (0 : Int32)) C dX7_makes_74 rfl (by decide) ?_
          obtain ⟨rfl, rfl⟩ := rt2 h
          exact J_zret C rfl dX7_makes_75 (Nat.zero_le _) (Nat.zero_le _)
def f_X7_makes_K21 (N : Nat) (x0 : Nat) (x1 : Int32) (x2 : Int32) (M : A_M) : Option (Int32 × A_M) :=
  f_X7_makes_L23 N N x0 x1 x2 (0 : Int32) M
set_option maxHeartbeats 4000000 in
set_option maxRecDepth 100000 in
theorem ok_X7_makes_K21 {X : JX} (C : Cx X cX7_makes RX7 5 (some .boolean) 0 0) (N : Nat) : ∀ (x0 : Nat) (x1 : Int32) (x2 : Int32) (M : A_M) (r : Int32) (M' : A_M), f_X7_makes_K21 N x0 x1 x2 M = some (r, M') → J X 5 21 [(0, .ref x0), (1, .int x1), (2, .int x2)] [] M 0 0 (some (.int r)) M' := by
  intro x0 x1 x2 M r M' h
  unfold f_X7_makes_K21 at h
  refine J_iconst (pc' := 22) (v := (0 : Int32)) C dX7_makes_21 rfl (by decide) ?_
  refine J_istore_n (pc' := 23) (lv' := [(3, .int (0 : Int32)), (0, .ref x0), (1, .int x1), (2, .int x2)]) C dX7_makes_22 rfl rfl (by decide) rfl ?_
  refine J_sub (lv' := [(0, .ref x0), (1, .int x1), (2, .int x2), (3, .int (0 : Int32))]) [1, 2, 3, 0] rfl ?_
  exact ok_X7_makes_L23 C N N _ _ _ _ _ _ _ h
def f_X7_makes_L2 (N : Nat) : Nat → Nat → Int32 → Int32 → Int32 → A_M → Option (Int32 × A_M)
  | 0, _, _, _, _, _ => none
  | n + 1, x0, x1, x2, x3, M =>
    if (9 : Int32) ≤ x3 then
    (f_X7_makes_K21 N x0 x1 x2 M)
    else
    ((gR M x0 7 51).bind fun v9 =>
    (stJ M v9 x3 (0 : Int64)).bind fun M14 =>
    f_X7_makes_L2 N n x0 x1 x2 (x3 + 1) M14)
set_option maxHeartbeats 4000000 in
set_option maxRecDepth 100000 in
theorem ok_X7_makes_L2 {X : JX} (C : Cx X cX7_makes RX7 5 (some .boolean) 0 0) (N : Nat) : ∀ (n : Nat) (x0 : Nat) (x1 : Int32) (x2 : Int32) (x3 : Int32) (M : A_M) (r : Int32) (M' : A_M), f_X7_makes_L2 N n x0 x1 x2 x3 M = some (r, M') → J X 5 2 [(0, .ref x0), (1, .int x1), (2, .int x2), (3, .int x3)] [] M 0 0 (some (.int r)) M' := by
  intro n
  induction n with
  | zero =>
    intro x0 x1 x2 x3 M r M' h
    cases h
  | succ n ih =>
    intro x0 x1 x2 x3 M r M' h
    rw [f_X7_makes_L2] at h
    refine J_iload_n (pc' := 3) C 3 dX7_makes_2 rfl rfl rfl ?_
    refine J_bipush (pc' := 5) (v := (9 : Int32)) C dX7_makes_3 rfl (by decide) ?_
    refine J_icmp_ge (tgt := 21) (pc' := 8) C dX7_makes_5 (by decide) rfl (fun c5 => ?_) (fun c5 => ?_)
    · rw [if_pos c5] at h
      refine J_sub (lv' := [(0, .ref x0), (1, .int x1), (2, .int x2)]) [0, 1, 2] rfl ?_
      exact ok_X7_makes_K21 C N _ _ _ _ _ _ h
    · rw [if_neg c5] at h
      refine J_aload_n (pc' := 9) C 0 dX7_makes_8 rfl rfl rfl ?_
      obtain ⟨v9, e9, h⟩ := bd h
      refine jg_930 (pc' := 12) C dX7_makes_9 rfl (gR_some e9) ?_
      refine J_iload_n (pc' := 13) C 3 dX7_makes_12 rfl rfl rfl ?_
      refine J_lconst (pc' := 14) (v := (0 : Int64)) C dX7_makes_13 rfl (by decide) ?_
      obtain ⟨M14, e14, h⟩ := bd h
      refine J_last (pc' := 15) C dX7_makes_14 rfl e14 ?_
      refine J_iinc (pc' := 18) (lv' := [(3, .int (x3 + 1)), (0, .ref x0), (1, .int x1), (2, .int x2)]) C 3 dX7_makes_15 rfl rfl rfl (by decide) rfl ?_
      refine J_goto (tgt := 2) C dX7_makes_18 (by decide) ?_
      refine J_sub (lv' := [(0, .ref x0), (1, .int x1), (2, .int x2), (3, .int (x3 + 1))]) [1, 2, 3, 0] rfl ?_
      exact ih _ _ _ _ _ _ _ h
def f_X7_makes (N : Nat) (a0 : Nat) (a1 : Int32) (a2 : Int32) (M : A_M) : Option (Int32 × A_M) :=
  f_X7_makes_L2 N N a0 a1 a2 (0 : Int32) M
set_option maxHeartbeats 4000000 in
set_option maxRecDepth 100000 in
theorem ok_X7_makes (N : Nat) {a0 : Nat} {a1 : Int32} {a2 : Int32} {M : A_M} {r : Int32} {M' : A_M} (h : f_X7_makes N a0 a1 a2 M = some (r, M')) : Runs yX7_makes cX7_makes 5 (some .boolean) 0 0 0 0 [.ref a0, .int a1, .int a2] M (some (.int r)) M' := by
  refine Runs.intro (by decide) (Nat.le_of_ble_eq_true rfl) (fun X C hnm hMC hMS => ?_)
  have C : Cx X cX7_makes RX7 5 (some .boolean) 0 0 := C
  show J X 5 0 [(0, .ref a0), (1, .int a1), (2, .int a2)] [] M 0 0 (some (.int r)) M'
  unfold f_X7_makes at h
  refine J_iconst (pc' := 1) (v := (0 : Int32)) C dX7_makes_0 rfl (by decide) ?_
  refine J_istore_n (pc' := 2) (lv' := [(3, .int (0 : Int32)), (0, .ref a0), (1, .int a1), (2, .int a2)]) C dX7_makes_1 rfl rfl (by decide) rfl ?_
  refine J_sub (lv' := [(0, .ref a0), (1, .int a1), (2, .int a2), (3, .int (0 : Int32))]) [1, 2, 3, 0] rfl ?_
  exact ok_X7_makes_L2 C N N _ _ _ _ _ _ _ h
def f_X7_isSet_K63 (N : Nat) (k4 : Nat → Int32 → Int32 → A_M → Option (Int32 × A_M)) (x0 : Nat) (x1 : Int32) (x2 : Int32) (M : A_M) : Option (Int32 × A_M) :=
  k4 x0 x1 (x2 + 1) M
set_option maxHeartbeats 4000000 in
set_option maxRecDepth 100000 in
theorem ok_X7_isSet_K63 {X : JX} (C : Cx X cX7_isSet RX7 4 (some .boolean) 0 0) (N : Nat) {k4 : Nat → Int32 → Int32 → A_M → Option (Int32 × A_M)} (hk4 : ∀ (x0 : Nat) (x1 : Int32) (x2 : Int32) (M : A_M) (r : Int32) (M' : A_M), k4 x0 x1 x2 M = some (r, M') → J X 4 4 [(0, .ref x0), (1, .int x1), (2, .int x2)] [] M 0 0 (some (.int r)) M') : ∀ (x0 : Nat) (x1 : Int32) (x2 : Int32) (M : A_M) (r : Int32) (M' : A_M), f_X7_isSet_K63 N k4 x0 x1 x2 M = some (r, M') → J X 4 63 [(0, .ref x0), (1, .int x1), (2, .int x2)] [] M 0 0 (some (.int r)) M' := by
  intro x0 x1 x2 M r M' h
  unfold f_X7_isSet_K63 at h
  refine J_iinc (pc' := 66) (lv' := [(2, .int (x2 + 1)), (0, .ref x0), (1, .int x1)]) C 2 dX7_isSet_63 rfl rfl rfl (by decide) rfl ?_
  refine J_goto (tgt := 4) C dX7_isSet_66 (by decide) ?_
  refine J_sub (lv' := [(0, .ref x0), (1, .int x1), (2, .int (x2 + 1))]) [1, 2, 0] rfl ?_
  exact hk4 _ _ _ _ _ _ h
def f_X7_isSet_K56 (N : Nat) (k4 : Nat → Int32 → Int32 → A_M → Option (Int32 × A_M)) (k20 : Nat → Int32 → Int32 → Int32 → A_M → Option (Int32 × A_M)) (x0 : Nat) (x2 : Int32) (x3 : Int32) (s0 : Int32) (M : A_M) : Option (Int32 × A_M) :=
  k20 x0 s0 x2 (x3 + 1) M
set_option maxHeartbeats 4000000 in
set_option maxRecDepth 100000 in
theorem ok_X7_isSet_K56 {X : JX} (C : Cx X cX7_isSet RX7 4 (some .boolean) 0 0) (N : Nat) {k4 : Nat → Int32 → Int32 → A_M → Option (Int32 × A_M)} (hk4 : ∀ (x0 : Nat) (x1 : Int32) (x2 : Int32) (M : A_M) (r : Int32) (M' : A_M), k4 x0 x1 x2 M = some (r, M') → J X 4 4 [(0, .ref x0), (1, .int x1), (2, .int x2)] [] M 0 0 (some (.int r)) M') {k20 : Nat → Int32 → Int32 → Int32 → A_M → Option (Int32 × A_M)} (hk20 : ∀ (x0 : Nat) (x1 : Int32) (x2 : Int32) (x3 : Int32) (M : A_M) (r : Int32) (M' : A_M), k20 x0 x1 x2 x3 M = some (r, M') → J X 4 20 [(0, .ref x0), (1, .int x1), (2, .int x2), (3, .int x3)] [] M 0 0 (some (.int r)) M') : ∀ (x0 : Nat) (x2 : Int32) (x3 : Int32) (s0 : Int32) (M : A_M) (r : Int32) (M' : A_M), f_X7_isSet_K56 N k4 k20 x0 x2 x3 s0 M = some (r, M') → J X 4 56 [(0, .ref x0), (2, .int x2), (3, .int x3)] [.int s0] M 0 0 (some (.int r)) M' := by
  intro x0 x2 x3 s0 M r M' h
  unfold f_X7_isSet_K56 at h
  refine J_istore_n (pc' := 57) (lv' := [(1, .int s0), (0, .ref x0), (2, .int x2), (3, .int x3)]) C dX7_isSet_56 rfl rfl (by decide) rfl ?_
  refine J_iinc (pc' := 60) (lv' := [(3, .int (x3 + 1)), (1, .int s0), (0, .ref x0), (2, .int x2)]) C 3 dX7_isSet_57 rfl rfl rfl (by decide) rfl ?_
  refine J_goto (tgt := 20) C dX7_isSet_60 (by decide) ?_
  refine J_sub (lv' := [(0, .ref x0), (1, .int s0), (2, .int x2), (3, .int (x3 + 1))]) [2, 1, 3, 0] rfl ?_
  exact hk20 _ _ _ _ _ _ _ h
def f_X7_isSet_L20 (N : Nat) (k4 : Nat → Int32 → Int32 → A_M → Option (Int32 × A_M)) : Nat → Nat → Int32 → Int32 → Int32 → A_M → Option (Int32 × A_M)
  | 0, _, _, _, _, _ => none
  | n + 1, x0, x1, x2, x3, M =>
    if (9 : Int32) ≤ x3 then
    (f_X7_isSet_K63 N k4 x0 x1 x2 M)
    else
    (if x1 = 0 then
    (f_X7_isSet_K63 N k4 x0 x1 x2 M)
    else
    ((gR M x0 7 47).bind fun v31 =>
    (ldJ M v31 (((9 : Int32) * x2) + x3)).bind fun v40 =>
    (gR M x0 7 51).bind fun v42 =>
    (ldJ M v42 x3).bind fun v46 =>
    if (lg_cmp v40 v46) = 0 then
    (f_X7_isSet_K56 N k4 (f_X7_isSet_L20 N k4 n) x0 x2 x3 (1 : Int32) M)
    else
    (f_X7_isSet_K56 N k4 (f_X7_isSet_L20 N k4 n) x0 x2 x3 (0 : Int32) M)))
set_option maxHeartbeats 4000000 in
set_option maxRecDepth 100000 in
theorem ok_X7_isSet_L20 {X : JX} (C : Cx X cX7_isSet RX7 4 (some .boolean) 0 0) (N : Nat) {k4 : Nat → Int32 → Int32 → A_M → Option (Int32 × A_M)} (hk4 : ∀ (x0 : Nat) (x1 : Int32) (x2 : Int32) (M : A_M) (r : Int32) (M' : A_M), k4 x0 x1 x2 M = some (r, M') → J X 4 4 [(0, .ref x0), (1, .int x1), (2, .int x2)] [] M 0 0 (some (.int r)) M') : ∀ (n : Nat) (x0 : Nat) (x1 : Int32) (x2 : Int32) (x3 : Int32) (M : A_M) (r : Int32) (M' : A_M), f_X7_isSet_L20 N k4 n x0 x1 x2 x3 M = some (r, M') → J X 4 20 [(0, .ref x0), (1, .int x1), (2, .int x2), (3, .int x3)] [] M 0 0 (some (.int r)) M' := by
  intro n
  induction n with
  | zero =>
    intro x0 x1 x2 x3 M r M' h
    cases h
  | succ n ih =>
    intro x0 x1 x2 x3 M r M' h
    rw [f_X7_isSet_L20] at h
    refine J_iload_n (pc' := 21) C 3 dX7_isSet_20 rfl rfl rfl ?_
    refine J_bipush (pc' := 23) (v := (9 : Int32)) C dX7_isSet_21 rfl (by decide) ?_
    refine J_icmp_ge (tgt := 63) (pc' := 26) C dX7_isSet_23 (by decide) rfl (fun c23 => ?_) (fun c23 => ?_)
    · rw [if_pos c23] at h
      refine J_sub (lv' := [(0, .ref x0), (1, .int x1), (2, .int x2)]) [0, 1, 2] rfl ?_
      exact ok_X7_isSet_K63 C N hk4 _ _ _ _ _ _ h
    · rw [if_neg c23] at h
      refine J_iload_n (pc' := 27) C 1 dX7_isSet_26 rfl rfl rfl ?_
      refine J_if_eq (tgt := 63) (pc' := 30) C dX7_isSet_27 (by decide) rfl (fun c27 => ?_) (fun c27 => ?_)
      · rw [if_pos c27] at h
        refine J_sub (lv' := [(0, .ref x0), (1, .int x1), (2, .int x2)]) [0, 1, 2] rfl ?_
        exact ok_X7_isSet_K63 C N hk4 _ _ _ _ _ _ h
      · rw [if_neg c27] at h
        refine J_aload_n (pc' := 31) C 0 dX7_isSet_30 rfl rfl rfl ?_
        obtain ⟨v31, e31, h⟩ := bd h
        refine jg_926 (pc' := 34) C dX7_isSet_31 rfl (gR_some e31) ?_
        refine J_bipush (pc' := 36) (v := (9 : Int32)) C dX7_isSet_34 rfl (by decide) ?_
        refine J_iload_n (pc' := 37) C 2 dX7_isSet_36 rfl rfl rfl ?_
        refine J_imul (pc' := 38) C dX7_isSet_37 rfl ?_
        refine J_iload_n (pc' := 39) C 3 dX7_isSet_38 rfl rfl rfl ?_
        refine J_iadd (pc' := 40) C dX7_isSet_39 rfl ?_
        obtain ⟨v40, e40, h⟩ := bd h
        refine J_lald (pc' := 41) C dX7_isSet_40 rfl e40 ?_
        refine J_aload_n (pc' := 42) C 0 dX7_isSet_41 rfl rfl rfl ?_
        obtain ⟨v42, e42, h⟩ := bd h
        refine jg_930 (pc' := 45) C dX7_isSet_42 rfl (gR_some e42) ?_
        refine J_iload_n (pc' := 46) C 3 dX7_isSet_45 rfl rfl rfl ?_
        obtain ⟨v46, e46, h⟩ := bd h
        refine J_lald (pc' := 47) C dX7_isSet_46 rfl e46 ?_
        refine J_lcmp (pc' := 48) C dX7_isSet_47 rfl ?_
        refine J_if_ne (tgt := 55) (pc' := 51) C dX7_isSet_48 (by decide) rfl (fun c48 => ?_) (fun c48 => ?_)
        · rw [if_neg c48] at h
          refine J_iconst (pc' := 56) (v := (0 : Int32)) C dX7_isSet_55 rfl (by decide) ?_
          refine J_sub (lv' := [(0, .ref x0), (2, .int x2), (3, .int x3)]) [0, 2, 3] rfl ?_
          exact ok_X7_isSet_K56 C N hk4 ih _ _ _ _ _ _ _ h
        · rw [if_pos c48] at h
          refine J_iconst (pc' := 52) (v := (1 : Int32)) C dX7_isSet_51 rfl (by decide) ?_
          refine J_goto (tgt := 56) C dX7_isSet_52 (by decide) ?_
          refine J_sub (lv' := [(0, .ref x0), (2, .int x2), (3, .int x3)]) [0, 2, 3] rfl ?_
          exact ok_X7_isSet_K56 C N hk4 ih _ _ _ _ _ _ _ h
def f_X7_isSet_L4 (N : Nat) : Nat → Nat → Int32 → Int32 → A_M → Option (Int32 × A_M)
  | 0, _, _, _, _ => none
  | n + 1, x0, x1, x2, M =>
    (gI M x0 7 50).bind fun v6 =>
    if v6 ≤ x2 then
    ((zb x1).bind fun _ =>
    some (x1, M))
    else
    (if x1 = 0 then
    (f_X7_isSet_L20 N (f_X7_isSet_L4 N n) N x0 (1 : Int32) x2 (0 : Int32) M)
    else
    ((zb x1).bind fun _ =>
    some (x1, M)))
set_option maxHeartbeats 4000000 in
set_option maxRecDepth 100000 in
theorem ok_X7_isSet_L4 {X : JX} (C : Cx X cX7_isSet RX7 4 (some .boolean) 0 0) (N : Nat) : ∀ (n : Nat) (x0 : Nat) (x1 : Int32) (x2 : Int32) (M : A_M) (r : Int32) (M' : A_M), f_X7_isSet_L4 N n x0 x1 x2 M = some (r, M') → J X 4 4 [(0, .ref x0), (1, .int x1), (2, .int x2)] [] M 0 0 (some (.int r)) M' := by
  intro n
  induction n with
  | zero =>
    intro x0 x1 x2 M r M' h
    cases h
  | succ n ih =>
    intro x0 x1 x2 M r M' h
    rw [f_X7_isSet_L4] at h
    refine J_iload_n (pc' := 5) C 2 dX7_isSet_4 rfl rfl rfl ?_
    refine J_aload_n (pc' := 6) C 0 dX7_isSet_5 rfl rfl rfl ?_
    obtain ⟨v6, e6, h⟩ := bd h
    refine jg_929 (pc' := 9) C dX7_isSet_6 rfl (gI_some e6) ?_
    refine J_icmp_ge (tgt := 69) (pc' := 12) C dX7_isSet_9 (by decide) rfl (fun c9 => ?_) (fun c9 => ?_)
    · rw [if_pos c9] at h
      refine J_iload_n (pc' := 70) C 1 dX7_isSet_69 rfl rfl rfl ?_
      obtain ⟨_, z70, h⟩ := bd h
      obtain ⟨rfl, rfl⟩ := rt2 h
      exact J_zret C (zb_n (zb_some z70)) dX7_isSet_70 (Nat.zero_le _) (Nat.zero_le _)
    · rw [if_neg c9] at h
      refine J_iload_n (pc' := 13) C 1 dX7_isSet_12 rfl rfl rfl ?_
      refine J_if_ne (tgt := 69) (pc' := 16) C dX7_isSet_13 (by decide) rfl (fun c13 => ?_) (fun c13 => ?_)
      · rw [if_neg c13] at h
        refine J_iload_n (pc' := 70) C 1 dX7_isSet_69 rfl rfl rfl ?_
        obtain ⟨_, z70, h⟩ := bd h
        obtain ⟨rfl, rfl⟩ := rt2 h
        exact J_zret C (zb_n (zb_some z70)) dX7_isSet_70 (Nat.zero_le _) (Nat.zero_le _)
      · rw [if_pos c13] at h
        refine J_iconst (pc' := 17) (v := (1 : Int32)) C dX7_isSet_16 rfl (by decide) ?_
        refine J_istore_n (pc' := 18) (lv' := [(1, .int (1 : Int32)), (0, .ref x0), (2, .int x2)]) C dX7_isSet_17 rfl rfl (by decide) rfl ?_
        refine J_iconst (pc' := 19) (v := (0 : Int32)) C dX7_isSet_18 rfl (by decide) ?_
        refine J_istore_n (pc' := 20) (lv' := [(3, .int (0 : Int32)), (1, .int (1 : Int32)), (0, .ref x0), (2, .int x2)]) C dX7_isSet_19 rfl rfl (by decide) rfl ?_
        refine J_sub (lv' := [(0, .ref x0), (1, .int (1 : Int32)), (2, .int x2), (3, .int (0 : Int32))]) [2, 1, 3, 0] rfl ?_
        exact ok_X7_isSet_L20 C N ih N _ _ _ _ _ _ _ h
def f_X7_isSet (N : Nat) (a0 : Nat) (M : A_M) : Option (Int32 × A_M) :=
  f_X7_isSet_L4 N N a0 (0 : Int32) (0 : Int32) M
set_option maxHeartbeats 4000000 in
set_option maxRecDepth 100000 in
theorem ok_X7_isSet (N : Nat) {a0 : Nat} {M : A_M} {r : Int32} {M' : A_M} (h : f_X7_isSet N a0 M = some (r, M')) : Runs yX7_isSet cX7_isSet 4 (some .boolean) 0 0 0 0 [.ref a0] M (some (.int r)) M' := by
  refine Runs.intro (by decide) (Nat.le_of_ble_eq_true rfl) (fun X C hnm hMC hMS => ?_)
  have C : Cx X cX7_isSet RX7 4 (some .boolean) 0 0 := C
  show J X 4 0 [(0, .ref a0)] [] M 0 0 (some (.int r)) M'
  unfold f_X7_isSet at h
  refine J_iconst (pc' := 1) (v := (0 : Int32)) C dX7_isSet_0 rfl (by decide) ?_
  refine J_istore_n (pc' := 2) (lv' := [(1, .int (0 : Int32)), (0, .ref a0)]) C dX7_isSet_1 rfl rfl (by decide) rfl ?_
  refine J_iconst (pc' := 3) (v := (0 : Int32)) C dX7_isSet_2 rfl (by decide) ?_
  refine J_istore_n (pc' := 4) (lv' := [(2, .int (0 : Int32)), (1, .int (0 : Int32)), (0, .ref a0)]) C dX7_isSet_3 rfl rfl (by decide) rfl ?_
  refine J_sub (lv' := [(0, .ref a0), (1, .int (0 : Int32)), (2, .int (0 : Int32))]) [2, 1, 0] rfl ?_
  exact ok_X7_isSet_L4 C N N _ _ _ _ _ _ h
