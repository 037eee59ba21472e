/-! room and mean -/
/-- what both loops of room have of a sum: nothing, or a normal double -/
def Sm (x : UInt64) (i : Nat) : Prop := (i = 0 ∧ x = Jvm.FP.dconst0) ∨ (0 < i ∧ ∃ c q, Nm x c q ∧ -130 ≤ q ∧ q ≤ 2 * (i : Int) - 20)
theorem Sm.add {x y : UInt64} {i : Nat} (hi : i < 24) (h : Sm x i) (hy : ∃ c q, Nm y c q ∧ -130 ≤ q ∧ q ≤ -28) : nz (Jvm.FP.dadd x y) = some (Jvm.FP.dadd x y) ∧ Sm (Jvm.FP.dadd x y) (i + 1) := by
  obtain ⟨d, r, y1, y2, y3⟩ := hy
  rcases h with ⟨h0, rfl⟩ | ⟨h0, c, q, x1, x2, x3⟩
  · rw [nm_add0 y1]
    exact ⟨y1.nz, Or.inr ⟨by omega, d, r, y1, y2, by omega⟩⟩
  · obtain ⟨c', q', e1, e2, e3⟩ := nm_add x1 y1 (by omega) (by omega) (by omega) (by omega)
    exact ⟨e1.nz, Or.inr ⟨by omega, c', q', e1, by omega, by omega⟩⟩
/-- a share behind k divisions -/
def shr (g : UInt64) : Nat → UInt64 → UInt64
  | 0, x => x
  | k + 1, x => shr g k (Jvm.FP.ddiv x g)
def Sh (x : UInt64) (k : Nat) : Prop := ∃ c q, Nm x c q ∧ -52 - 3 * (k : Int) ≤ q ∧ q ≤ -52 + (k : Int)
theorem Sh.div {x g : UInt64} {k : Nat} (hk : k < 24) (h : Sh x k) (hg : ∃ c q, Nm g c q ∧ -52 ≤ q ∧ q ≤ -50) : nz (Jvm.FP.ddiv x g) = some (Jvm.FP.ddiv x g) ∧ Sh (Jvm.FP.ddiv x g) (k + 1) := by
  obtain ⟨c, q, x1, x2, x3⟩ := h
  obtain ⟨d, r, y1, y2, y3⟩ := hg
  obtain ⟨c', q', e1, e2, e3⟩ := nm_div x1 y1 (by omega) (by omega)
  exact ⟨e1.nz, c', q', e1, by omega, by omega⟩
theorem shr_Sh {g : UInt64} (hg : ∃ c q, Nm g c q ∧ -52 ≤ q ∧ q ≤ -50) : ∀ (d k : Nat) (x : UInt64), k + d ≤ 24 → Sh x k → Sh (shr g d x) (k + d) := by
  intro d
  induction d with
  | zero => intro k x _ h; exact h
  | succ d ih =>
    intro k x hk h
    have := ih (k + 1) (Jvm.FP.ddiv x g) (by omega) (h.div (by omega) hg).2
    rw [show k + 1 + d = k + (d + 1) by omega] at this
    exact this
/-- the whole sum -/
def rmS (g : UInt64) (n : Nat → Nat) : Nat → Nat → UInt64 → UInt64
  | 0, _, x => x
  | d + 1, i, x => rmS g n d (i + 1) (Jvm.FP.dadd x (shr g (n i) Jvm.FP.dconst1))
theorem rmS_Sm {g : UInt64} {n : Nat → Nat} {t : Nat} (ht : t ≤ 24) (hn : ∀ i, i < t → n i ≤ 24) (hg : ∃ c q, Nm g c q ∧ -52 ≤ q ∧ q ≤ -50) : ∀ (d i : Nat) (x : UInt64), i + d = t → Sm x i → Sm (rmS g n d i x) t := by
  intro d
  induction d with
  | zero => intro i x h hx; rw [← h]; exact hx
  | succ d ih =>
    intro i x h hx
    have hs := shr_Sh hg (n i) 0 Jvm.FP.dconst1 (by have := hn i (by omega); omega) ⟨_, _, nm_one, by omega, by omega⟩
    obtain ⟨c, q, e1, e2, e3⟩ := hs
    have hni := hn i (by omega)
    exact ih (i + 1) _ (by omega) (hx.add (by omega) ⟨c, q, e1, by omega, by omega⟩).2
theorem sg_i2d {s : Nat} (h1 : 1 ≤ s) (h2 : s ≤ 4) : ∃ c q, Nm (Jvm.FP.i2d (nI s)) c q ∧ -52 ≤ q ∧ q ≤ -50 := by
  have : s = 1 ∨ s = 2 ∨ s = 3 ∨ s = 4 := by omega
  rcases this with rfl | rfl | rfl | rfl
  · exact ⟨4503599627370496, -52, ⟨by decide +kernel, by decide, by decide, by decide, by decide⟩, by decide, by decide⟩
  · exact ⟨4503599627370496, -51, ⟨by decide +kernel, by decide, by decide, by decide, by decide⟩, by decide, by decide⟩
  · exact ⟨6755399441055744, -51, ⟨by decide +kernel, by decide, by decide, by decide, by decide⟩, by decide, by decide⟩
  · exact ⟨4503599627370496, -50, ⟨by decide +kernel, by decide, by decide, by decide, by decide⟩, by decide, by decide⟩
section Rm
variable {A : Nat → Nat → Int32} {B : Nat → Nat → Int64} {G : Nat → Nat → Int32} {fl : Nat → Bool} {N s t : Nat} {n : Nat → Nat}
theorem s_roomX1 (h1 : 1 ≤ s) (h4 : s ≤ 4) (hG : G 0 10 = nI s) (k23 : Nat → UInt64 → Int32 → A_M → Option (Int64 × A_M)) {i l : Nat} (hi : i < 24) (hl : l ≤ 24) (ha : A 15 i = nI l) (x : UInt64) (hx : Sm x i) : ∀ (d k m : Nat) (y : UInt64), k + d = l → d < m → Sh y k → f_X6_room_L40 N k23 m 0 x (nI i) y (nI k) (mem A B G fl) = k23 0 (Jvm.FP.dadd x (shr (Jvm.FP.i2d (nI s)) d y)) (nI (i + 1)) (mem A B G fl) := by
  intro d
  induction d with
  | zero =>
    intro k m y h hm hy
    obtain ⟨m, rfl⟩ : ∃ j, m = j + 1 := ⟨m - 1, by omega⟩
    obtain ⟨c, q, e1, e2, e3⟩ := hy
    have hz := (hx.add hi ⟨c, q, e1, by omega, by omega⟩).1
    rw [f_X6_room_L40, gx_0_7, sb, gx_13_1, sb, ldI_n (ly15 fl) (by omega) (by decide), sb, ha, if_pos (nI_le (by omega) (by omega)), f_X6_room_K70, hz, sb, nI_1]
    rfl
  | succ d ih =>
    intro k m y h hm hy
    obtain ⟨m, rfl⟩ : ∃ j, m = j + 1 := ⟨m - 1, by omega⟩
    have hd := hy.div (by omega) (sg_i2d h1 h4)
    rw [f_X6_room_L40, gx_0_7, sb, gx_13_1, sb, ldI_n (ly15 fl) (by omega) (by decide), sb, ha, if_neg (nI_ge (by omega) (by omega)), gx_0_10, sb, hG, hd.1, sb, nI_1, ih (k + 1) m _ (by omega) (by omega) hd.2]
    rfl
theorem s_roomX (h1 : 1 ≤ s) (h4 : s ≤ 4) (hN : 1000 < N) (hG : G 0 10 = nI s) (hT : G 13 2 = nI t) (ht : t ≤ 24) (ht0 : 0 < t) (hn : ∀ i, i < t → n i ≤ 24 ∧ A 15 i = nI (n i)) : ∀ (d i m : Nat) (x : UInt64), i + d = t → d < m → Sm x i → f_X6_room_L23 N m 0 x (nI i) (mem A B G fl) = some ((rmS (Jvm.FP.i2d (nI s)) n d i x).toInt64, mem A B G fl) := by
  intro d
  induction d with
  | zero =>
    intro i m x h hm hx
    obtain ⟨m, rfl⟩ : ∃ j, m = j + 1 := ⟨m - 1, by omega⟩
    rcases hx with ⟨h0, -⟩ | ⟨h0, c, q, x1, x2, x3⟩
    · omega
    · rw [f_X6_room_L23, gx_0_7, sb, gx_13_2, sb, hT, if_pos (nI_le (by omega) (by omega)), s_bits hN x1 (by omega) (by omega), b2s]
      rfl
  | succ d ih =>
    intro i m x h hm hx
    obtain ⟨m, rfl⟩ : ∃ j, m = j + 1 := ⟨m - 1, by omega⟩
    obtain ⟨n1, n2⟩ := hn i (by omega)
    have hs := shr_Sh (sg_i2d h1 h4) (n i) 0 Jvm.FP.dconst1 (by omega) ⟨_, _, nm_one, by omega, by omega⟩
    obtain ⟨c, q, e1, e2, e3⟩ := hs
    rw [f_X6_room_L23, gx_0_7, sb, gx_13_2, sb, hT, if_neg (nI_ge (by omega) (by omega)), show (0 : Int32) = nI 0 from rfl, s_roomX1 h1 h4 hG _ (by omega) n1 n2 x hx (n i) 0 N _ (by omega) (by omega) ⟨_, _, nm_one, by omega, by omega⟩, ih (i + 1) m _ (by omega) (by omega) (hx.add (by omega) ⟨c, q, e1, by omega, by omega⟩).2]
    rfl
theorem s_roomM1 (h1 : 1 ≤ s) (h4 : s ≤ 4) (hG : G 44 1 = nI s) (k23 : Nat → UInt64 → Int32 → A_M → Option (Int64 × A_M)) {i l : Nat} (hi : i < 24) (hl : l ≤ 24) (ha : A 48 i = nI l) (x : UInt64) (hx : Sm x i) : ∀ (d k m : Nat) (y : UInt64), k + d = l → d < m → Sh y k → f_X7_room_L29 N k23 m 44 x (nI i) y (nI k) (mem A B G fl) = k23 44 (Jvm.FP.dadd x (shr (Jvm.FP.i2d (nI s)) d y)) (nI (i + 1)) (mem A B G fl) := by
  intro d
  induction d with
  | zero =>
    intro k m y h hm hy
    obtain ⟨m, rfl⟩ : ∃ j, m = j + 1 := ⟨m - 1, by omega⟩
    obtain ⟨c, q, e1, e2, e3⟩ := hy
    have hz := (hx.add hi ⟨c, q, e1, by omega, by omega⟩).1
    rw [f_X7_room_L29, gx_44_8, sb, ldI_n (ly48 fl) (by omega) (by decide), sb, ha, if_pos (nI_le (by omega) (by omega)), f_X7_room_K56, hz, sb, nI_1]
    rfl
  | succ d ih =>
    intro k m y h hm hy
    obtain ⟨m, rfl⟩ : ∃ j, m = j + 1 := ⟨m - 1, by omega⟩
    have hd := hy.div (by omega) (sg_i2d h1 h4)
    rw [f_X7_room_L29, gx_44_8, sb, ldI_n (ly48 fl) (by omega) (by decide), sb, ha, if_neg (nI_ge (by omega) (by omega)), gx_44_1, sb, hG, hd.1, sb, nI_1, ih (k + 1) m _ (by omega) (by omega) hd.2]
    rfl
theorem s_roomM (h1 : 1 ≤ s) (h4 : s ≤ 4) (hN : 1000 < N) (hG : G 44 1 = nI s) (hT : G 44 3 = nI t) (ht : t ≤ 24) (ht0 : 0 < t) (hn : ∀ i, i < t → n i ≤ 24 ∧ A 48 i = nI (n i)) : ∀ (d i m : Nat) (x : UInt64), i + d = t → d < m → Sm x i → f_X7_room_L15 N m 44 x (nI i) (mem A B G fl) = some ((rmS (Jvm.FP.i2d (nI s)) n d i x).toInt64, mem A B G fl) := by
  intro d
  induction d with
  | zero =>
    intro i m x h hm hx
    obtain ⟨m, rfl⟩ : ∃ j, m = j + 1 := ⟨m - 1, by omega⟩
    rcases hx with ⟨h0, -⟩ | ⟨h0, c, q, x1, x2, x3⟩
    · omega
    · rw [f_X7_room_L15, gx_44_3, sb, hT, if_pos (nI_le (by omega) (by omega)), s_bitsM x1, b2s]
      rfl
  | succ d ih =>
    intro i m x h hm hx
    obtain ⟨m, rfl⟩ : ∃ j, m = j + 1 := ⟨m - 1, by omega⟩
    obtain ⟨n1, n2⟩ := hn i (by omega)
    have hs := shr_Sh (sg_i2d h1 h4) (n i) 0 Jvm.FP.dconst1 (by omega) ⟨_, _, nm_one, by omega, by omega⟩
    obtain ⟨c, q, e1, e2, e3⟩ := hs
    rw [f_X7_room_L15, gx_44_3, sb, hT, if_neg (nI_ge (by omega) (by omega)), show (0 : Int32) = nI 0 from rfl, s_roomM1 h1 h4 hG _ (by omega) n1 n2 x hx (n i) 0 N _ (by omega) (by omega) ⟨_, _, nm_one, by omega, by omega⟩, ih (i + 1) m _ (by omega) (by omega) (hx.add (by omega) ⟨c, q, e1, by omega, by omega⟩).2]
    rfl
/-- the counts' sum -/
def ctS (C : Nat → Nat) : Nat → Nat → Nat
  | 0, _ => 0
  | d + 1, i => C i + ctS C d (i + 1)
theorem ctS_b {C : Nat → Nat} {t : Nat} (hC : ∀ i, i < t → 1 ≤ C i ∧ C i ≤ 1000000) : ∀ d i, i + d = t → d ≤ ctS C d i ∧ ctS C d i ≤ 1000000 * d := by
  intro d
  induction d with
  | zero => intro i _; exact ⟨Nat.le_refl _, Nat.zero_le _⟩
  | succ d ih =>
    intro i h
    have h1 := ih (i + 1) (by omega)
    have h2 := hC i (by omega)
    show d + 1 ≤ C i + ctS C d (i + 1) ∧ C i + ctS C d (i + 1) ≤ _
    omega
theorem csum_le {P C R n : Nat → Nat} {s t : Nat} (hP : ∀ j, j < s → P j ≤ 9) (hC : ∀ i, i < t → C i ≤ 1000000) (hn : ∀ i, i < t → n i ≤ 24) (hd : ∀ i, i < t → ∀ k, k < n i → dg (R i) k < s) : ∀ d i, i + d = t → csum P C R n d i ≤ 216000000 * d := by
  intro d
  induction d with
  | zero => intro i _; exact Nat.zero_le _
  | succ d ih =>
    intro i h
    have h1 := ih (i + 1) (by omega)
    have h2 := wsum_le (R := R i) hP (n i) 0 (fun j _ hj => hd i (by omega) j (by omega))
    have h3 := hn i (by omega)
    have h4 := Nat.mul_le_mul (hC i (by omega)) (show wsum P (R i) (n i) 0 ≤ 216 by omega)
    show C i * wsum P (R i) (n i) 0 + csum P C R n d (i + 1) ≤ _
    omega
theorem s_ctX {C : Nat → Nat} (hT : G 0 11 = nI t) (ht : t ≤ 24) (hC : ∀ i, i < t → A 2 i = nI (C i) ∧ C i ≤ 1000000) : ∀ (d i m x : Nat), i + d = t → d < m → f_X6_mean_L15 N m 0 (lN x) (nI i) (mem A B G fl) = f_X6_mean_K39 N 0 (lN (x + ctS C d i)) (mem A B G fl) := by
  intro d
  induction d with
  | zero =>
    intro i m x h hm
    obtain ⟨m, rfl⟩ : ∃ j, m = j + 1 := ⟨m - 1, by omega⟩
    rw [f_X6_mean_L15, gx_0_11, sb, hT, if_pos (nI_le (by omega) (by omega))]
    rfl
  | succ d ih =>
    intro i m x h hm
    obtain ⟨m, rfl⟩ : ∃ j, m = j + 1 := ⟨m - 1, by omega⟩
    obtain ⟨c1, c2⟩ := hC i (by omega)
    rw [f_X6_mean_L15, gx_0_11, sb, hT, if_neg (nI_ge (by omega) (by omega)), gx_0_1, sb, ldI_n (ly2 fl) (by omega) (by decide), sb, c1, nI_l (by omega), lN_add, nI_1, ih (i + 1) m _ (by omega) (by omega), Nat.add_assoc]
    rfl
theorem s_ctM {C : Nat → Nat} (ht : t ≤ 24) (hC : ∀ i, i < t → A 46 i = nI (C i) ∧ C i ≤ 1000000) : ∀ (d i m x : Nat), i + d = t → d < m → f_X7_countsOf_L5 N m 44 (nI t) (lN x) (nI i) (mem A B G fl) = some (lN (x + ctS C d i), mem A B G fl) := by
  intro d
  induction d with
  | zero =>
    intro i m x h hm
    obtain ⟨m, rfl⟩ : ∃ j, m = j + 1 := ⟨m - 1, by omega⟩
    rw [f_X7_countsOf_L5, if_pos (nI_le (by omega) (by omega))]
    rfl
  | succ d ih =>
    intro i m x h hm
    obtain ⟨m, rfl⟩ : ∃ j, m = j + 1 := ⟨m - 1, by omega⟩
    obtain ⟨c1, c2⟩ := hC i (by omega)
    rw [f_X7_countsOf_L5, if_neg (nI_ge (by omega) (by omega)), gx_44_2, sb, ldI_n (ly46 fl) (by omega) (by decide), sb, c1, nI_l (by omega), lN_add, nI_1, ih (i + 1) m _ (by omega) (by omega), Nat.add_assoc]
    rfl
end Rm
theorem lo_room : LO_room Inv := LawJ.mk (fx := f_X6_room NN 0) (fm := f_X7_room NN 44) (fun h => ok_X6_room NN h) (fun h => ok_X7_room NN h) (by
  intro z A B G fl hz hR
  obtain ⟨s, t, h1, hc, h3, h4, h5, h6, h7, h8⟩ := id hR
  obtain ⟨n1, n2, n3, n4, n5, n6, n7, n8⟩ := id h1
  unfold f_X6_room f_X7_room
  rcases hc with ⟨c1, c2⟩ | ⟨c1, c2, c3, c4, c5, -⟩
  · refine ⟨-3, A, B, G, A, B, G, ?_, ?_, hR.next⟩
    · rw [ck_0, sb, s_hasCode0 c1, b2s, if_pos rfl]
    · rw [gx_44_4, sb, c2, if_pos rfl]
  · obtain ⟨R, n, w1, w2⟩ := ws_both c5
    refine ⟨(rmS (Jvm.FP.i2d (nI s)) n t 0 Jvm.FP.dconst0).toInt64, A, B, G, A, B, G, ?_, ?_, hR.next⟩
    · rw [ck_0, sb, s_hasCode1 c1 c3 n6, b2s, if_neg (show ¬ (1 : Int32) = 0 by decide), gx_0_10, sb, n1, if_pos (show (1 : Int32) ≤ nI s from nI_le (a := 1) (by omega) (by omega)), show (0 : Int32) = nI 0 from rfl]
      exact s_roomX (by omega) n3 (by decide) n1 c1 n6 c3 (fun i hi => ⟨(w1 i hi).2.2.2.1, (w1 i hi).2.1⟩) t 0 NN _ (by omega) (by show _ < 300000; omega) (Or.inl ⟨rfl, rfl⟩)
    · rw [gx_44_4, sb, c2, if_neg (show ¬ (1 : Int32) = 0 by decide), show (0 : Int32) = nI 0 from rfl]
      exact s_roomM (by omega) n3 (by decide) n2 n5 n6 c3 (fun i hi => ⟨(w2 i hi).2.2.2.1, (w2 i hi).2.1⟩) t 0 NN _ (by omega) (by show _ < 300000; omega) (Or.inl ⟨rfl, rfl⟩))
/-- nothing divided by a sum -/
theorem div_zero_nm {v : Int64} {y : UInt64} {d : Nat} {r : Int} (hv : v.toInt = 0) (hy : Nm y d r) : Jvm.FP.ddiv (Jvm.FP.l2d v) y = Jvm.FP.dconst0 := by
  have e0 : Jvm.FP.Core.val64 (Jvm.FP.Core.l2d v) = .fin false 0 (-1074) := by
    rw [Jvm.FP.Core.val64_l2d, hv]
    decide +kernel
  have e : Jvm.FP.Core.val64 (Jvm.FP.ddiv (Jvm.FP.l2d v) y) = .fin false 0 (-1074) := by
    rw [Jvm.FP.Core.val64_ddiv, e0, hy.1]
    show (if d = 0 then (if (0 : Nat) = 0 then Jvm.FP.Core.Datum.nan else .inf false) else Jvm.FP.Core.roundRatio Jvm.FP.Core.b64 false 0 d (-1074 - r)) = _
    rw [if_neg (by have := hy.2.1; omega)]
    unfold Jvm.FP.Core.roundRatio
    rw [if_pos rfl, b64q]
  exact Jvm.FP.Core.val64_inj (by rw [e]; intro h; cases h) (by rw [e, v_zero])
theorem lo_mean : LO_mean Inv := LawJ.mk (fx := f_X6_mean NN 0) (fm := f_X7_mean NN 44) (fun h => ok_X6_mean NN h) (fun h => ok_X7_mean NN h) (by
  intro z A B G fl hz hR
  obtain ⟨s, t, h1, hc, h3, h4, h5, h6, h7, h8⟩ := id hR
  obtain ⟨n1, n2, n3, n4, n5, n6, n7, n8⟩ := id h1
  unfold f_X6_mean f_X7_mean
  rcases hc with ⟨c1, c2⟩ | ⟨c1, c2, c3, c4, c5, -⟩
  · refine ⟨-3, A, B, G, A, B, G, ?_, ?_, hR.next⟩
    · rw [ck_0, sb, s_hasCode0 c1, b2s, if_pos rfl]
    · rw [gx_44_4, sb, c2, if_pos rfl]
  · obtain ⟨P, C, hP, hC⟩ := h1.nums
    obtain ⟨R, n, w1, w2⟩ := ws_both c5
    have b1 := ctS_b (fun i hi => (hC i hi).2.2) t 0 (by omega)
    have b2 := csum_le (R := R) (n := n) (fun j hj => (hP j hj).2.2.2) (fun i hi => (hC i hi).2.2.2) (fun i hi => (w1 i hi).2.2.2.1) (fun i hi => (w1 i hi).2.2.2.2.2) t 0 (by omega)
    have eX : f_X6_costAtHand NN 0 (mem A B G fl) = some (lN (0 + csum P C R n t 0), mem A B G fl) := by
      unfold f_X6_costAtHand
      rw [show (0 : Int64) = lN 0 from rfl, show (0 : Int32) = nI 0 from rfl, s_costX n3 n6 (fun j hj => (hP j hj).1) (fun j hj => (hP j hj).2.2.2) (fun j hj => (hC j hj).1) (fun j hj => by have := (hC j hj).2.2.2; omega) w1 (by show _ < 300000; omega) c1 t 0 NN 0 (by omega) (by show _ < 300000; omega)]
    have eM : f_X7_costNow NN 44 (mem A B G fl) = some (lN (0 + csum P C R n t 0), mem A B G fl) := by
      unfold f_X7_costNow
      rw [show (0 : Int64) = lN 0 from rfl, show (0 : Int32) = nI 0 from rfl, s_costM n3 n6 (fun j hj => (hP j hj).2.1) (fun j hj => (hP j hj).2.2.2) (fun j hj => (hC j hj).2.1) (fun j hj => by have := (hC j hj).2.2.2; omega) w2 (by show _ < 300000; omega) n5 t 0 NN 0 (by omega) (by show _ < 300000; omega)]
    rw [Nat.zero_add] at eX eM
    generalize csum P C R n t 0 = K at b2 eX eM
    have tS : (lN (ctS C t 0)).toInt = (ctS C t 0 : Int) := by rw [lN_ti (by omega), if_pos (by omega)]
    have tK : (lN K).toInt = (K : Int) := by rw [lN_ti (by omega), if_pos (by omega)]
    obtain ⟨d, r, y1, y2, y3⟩ := nm_l2d tS (by omega) (by omega)
    refine ⟨(Jvm.FP.ddiv (Jvm.FP.l2d (lN K)) (Jvm.FP.l2d (lN (ctS C t 0)))).toInt64, A, B, G, A, B, G, ?_, ?_, hR.next⟩
    · rw [ck_0, sb, s_hasCode1 c1 c3 n6, b2s, if_neg (show ¬ (1 : Int32) = 0 by decide), show (0 : Int64) = lN 0 from rfl, show (0 : Int32) = nI 0 from rfl, s_ctX n4 n6 (fun i hi => ⟨(hC i hi).1, (hC i hi).2.2.2⟩) t 0 NN 0 (by omega) (by show _ < 300000; omega), Nat.zero_add]
      unfold f_X6_mean_K39
      rw [show (1 : Int64) = lN 1 from rfl, if_pos (show (0 : Int32) ≤ lg_cmp (lN (ctS C t 0)) (lN 1) from Int32.not_lt.mp (fun hh => by have := (lg_lt (by omega) (by omega)).mp hh; omega)), ck_0, sb, eX, b2s]
      by_cases hK : K = 0
      · subst hK
        rw [div_zero_nm tK y1]
        rfl
      · obtain ⟨c, q, x1, x2, x3⟩ := nm_l2d tK (by omega) (by omega)
        obtain ⟨c', q', e1, e2, e3⟩ := nm_div x1 y1 (by omega) (by omega)
        rw [e1.nz, sb, s_bits (by decide) e1 (by omega) (by omega), b2s]
    · rw [gx_44_4, sb, c2, if_neg (show ¬ (1 : Int32) = 0 by decide), ck_44, sb, eM, b2s, gx_44_3, sb, ck_44, sb, n5]
      unfold f_X7_countsOf
      rw [show (0 : Int64) = lN 0 from rfl, show (0 : Int32) = nI 0 from rfl, s_ctM n6 (fun i hi => ⟨(hC i hi).2.1, (hC i hi).2.2.2⟩) t 0 NN 0 (by omega) (by show _ < 300000; omega), Nat.zero_add, b2s]
      by_cases hK : K = 0
      · subst hK
        rw [div_zero_nm tK y1]
        rfl
      · obtain ⟨c, q, x1, x2, x3⟩ := nm_l2d tK (by omega) (by omega)
        obtain ⟨c', q', e1, e2, e3⟩ := nm_div x1 y1 (by omega) (by omega)
        rw [e1.nz, sb, s_bitsM e1, b2s])
