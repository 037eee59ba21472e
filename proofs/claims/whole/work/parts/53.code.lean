/-! CODES: begin, take, giveWord; differs -/
theorem lgE (x y : Int64) : lg_cmp x y = 0 ↔ x = y := by
  unfold lg_cmp
  by_cases e1 : x > y
  · rw [if_pos e1]
    refine ⟨fun h => absurd h (by decide), fun h => ?_⟩
    rw [h] at e1
    have : y.toInt < y.toInt := Int64.lt_iff_toInt_lt.mp e1
    omega
  · rw [if_neg e1]
    by_cases e2 : x = y
    · rw [if_pos e2]; exact ⟨fun _ => e2, fun _ => rfl⟩
    · rw [if_neg e2]; exact ⟨fun h => absurd h (by decide), fun h => absurd h e2⟩
/-- the first i below i0 + d where P holds, or NONE -/
def fst (P : Nat → Bool) : Nat → Nat → Int32
  | 0, _ => -6
  | d + 1, i => if P i = true then nI i else fst P d (i + 1)
theorem fst_congr {P Q : Nat → Bool} : ∀ (d i : Nat), (∀ j, i ≤ j → j < i + d → P j = Q j) → fst P d i = fst Q d i := by
  intro d
  induction d with
  | zero => intro i _; rfl
  | succ d ih =>
    intro i h
    show (if P i = true then nI i else fst P d (i + 1)) = (if Q i = true then nI i else fst Q d (i + 1))
    rw [h i (by omega) (by omega), ih (i + 1) (fun j h1 h2 => h j (by omega) (by omega))]
section Cd
variable {A : Nat → Nat → Int32} {B : Nat → Nat → Int64} {G : Nat → Nat → Int32} {fl : Nat → Bool} {N k : Nat}
theorem s_giveWord (hk : cdL fl k) {i : Nat} (hi : i < 24) (row : Int64) (sz : Int32) : f_X0_giveWord N k (nI i) row sz (mem A B G fl) = some (mem (upA A (k + 2) (upd (A (k + 2)) i sz)) (upA B (k + 1) (vp_updL (B (k + 1)) i row)) G fl) := by
  unfold f_X0_giveWord
  rw [cd_rows hk, sb, stJ_n hk.2.1 hi (by decide), sb, cd_sizes hk, sb, stI_n hk.2.2.1 hi (by decide), sb]
theorem s_take {k2 : Nat} (hk : cdL fl k) (h2 : cdL fl k2) (hne : k ≠ k2) : f_X0_take N k k2 (mem A B G fl) = some (mem (upA A (k + 2) (va_cpy (A (k2 + 2)) (A (k + 2)) 0 0 24)) (upA B (k + 1) (va_cpy (B (k2 + 1)) (B (k + 1)) 0 0 24)) (upA G k (upd (G k) 2 (G k2 2))) fl) := by
  unfold f_X0_take
  rw [cd_num h2, sb, cd_put hk, sb, cd_rows h2, sb, cd_rows hk, sb, show (0 : Int32) = nI 0 from rfl, show (24 : Int32) = nI 24 from rfl, cpJ_mem h2.2.1 hk.2.1 (by decide) (by decide) (by decide) (by decide), sb, cd_sizes h2, sb, cd_sizes hk, sb, cpI_mem h2.2.2.1 hk.2.2.1 (by decide) (by decide) (by decide) (by decide), sb]
theorem s_fillI {n a : Nat} (ha : lay fl a = some (.inl (0, n))) (hn : n < 2 ^ 31) (v : Int32) : ∀ (d i m : Nat) (A : Nat → Nat → Int32), i + d = n → d < m → f_J7_fill_53178_L5 N m a v (nI i) (nI n) (mem A B G fl) = some (mem (upA A a (fun j => if i ≤ j ∧ j < n then v else A a j)) B G fl) := by
  intro d
  induction d with
  | zero =>
    intro i m A h1 h2
    obtain ⟨m, rfl⟩ : ∃ j, m = j + 1 := ⟨m - 1, by omega⟩
    rw [f_J7_fill_53178_L5, if_pos (nI_le (by omega) (by omega))]
    congr 2
    funext b
    by_cases e : b = a
    · subst e
      rw [upA_same]
      funext j
      rw [if_neg (by omega)]
    · rw [upA_ne _ _ _ e]
  | succ d ih =>
    intro i m A h1 h2
    obtain ⟨m, rfl⟩ : ∃ j, m = j + 1 := ⟨m - 1, by omega⟩
    rw [f_J7_fill_53178_L5, if_neg (nI_ge (by omega) (by omega)), stI_n ha (by omega) (by omega), sb, nI_1, ih (i + 1) m _ (by omega) (by omega)]
    congr 2
    funext b
    by_cases e : b = a
    · subst e
      rw [upA_same, upA_same, upA_same]
      funext j
      by_cases e2 : j = i
      · subst e2
        rw [if_neg (by omega), if_pos (by omega), upd_eq]
      · rw [upd_ne _ _ _ e2]
        by_cases e3 : i + 1 ≤ j ∧ j < n
        · rw [if_pos e3, if_pos (by omega)]
        · rw [if_neg e3, if_neg (by omega)]
    · rw [upA_ne _ _ _ e, upA_ne _ _ _ e, upA_ne _ _ _ e]
theorem vpL_eq (f : Nat → Int64) (k : Nat) (x : Int64) : vp_updL f k x k = x := if_pos rfl
theorem vpL_ne (f : Nat → Int64) (k : Nat) (x : Int64) {j : Nat} (h : j ≠ k) : vp_updL f k x j = f j := if_neg h
theorem s_fillJ {n a : Nat} (ha : lay fl a = some (.inl (1, n))) (hn : n < 2 ^ 31) (v : Int64) : ∀ (d i m : Nat) (B : Nat → Nat → Int64), i + d = n → d < m → f_J7_fill_d0a16_L6 N m a v (nI i) (nI n) (mem A B G fl) = some (mem A (upA B a (fun j => if i ≤ j ∧ j < n then v else B a j)) G fl) := by
  intro d
  induction d with
  | zero =>
    intro i m B h1 h2
    obtain ⟨m, rfl⟩ : ∃ j, m = j + 1 := ⟨m - 1, by omega⟩
    rw [f_J7_fill_d0a16_L6, if_pos (nI_le (by omega) (by omega))]
    congr 2
    funext b
    by_cases e : b = a
    · subst e
      rw [upA_same]
      funext j
      rw [if_neg (by omega)]
    · rw [upA_ne _ _ _ e]
  | succ d ih =>
    intro i m B h1 h2
    obtain ⟨m, rfl⟩ : ∃ j, m = j + 1 := ⟨m - 1, by omega⟩
    rw [f_J7_fill_d0a16_L6, if_neg (nI_ge (by omega) (by omega)), stJ_n ha (by omega) (by omega), sb, nI_1, ih (i + 1) m _ (by omega) (by omega)]
    congr 2
    funext b
    by_cases e : b = a
    · subst e
      rw [upA_same, upA_same, upA_same]
      funext j
      by_cases e2 : j = i
      · subst e2
        rw [if_neg (by omega), if_pos (by omega), vpL_eq]
      · rw [vpL_ne _ _ _ e2]
        by_cases e3 : i + 1 ≤ j ∧ j < n
        · rw [if_pos e3, if_pos (by omega)]
        · rw [if_neg e3, if_neg (by omega)]
    · rw [upA_ne _ _ _ e, upA_ne _ _ _ e, upA_ne _ _ _ e]
/-- begin: a number, and all rows and sizes 0 -/
theorem s_begin (hk : cdL fl k) (hN : 24 < N) (v : Int32) : f_X0_begin N k v (mem A B G fl) = some (mem (upA A (k + 2) (fun j => if 0 ≤ j ∧ j < 24 then 0 else A (k + 2) j)) (upA B (k + 1) (fun j => if 0 ≤ j ∧ j < 24 then 0 else B (k + 1) j)) (upA G k (upd (G k) 2 v)) fl) := by
  unfold f_X0_begin f_J7_fill_d0a16 f_J7_fill_53178
  rw [cd_put hk, sb, cd_rows hk, sb, lenJ_mem hk.2.1, sb, show (0 : Int32) = nI 0 from rfl, s_fillJ hk.2.1 (by decide) 0 24 0 N B (by decide) hN, sb, cd_sizes hk, sb, lenI_mem hk.2.2.1, sb, s_fillI hk.2.2.1 (by decide) (nI 0) 24 0 N A (by decide) hN, sb]
end Cd
theorem ldA8 {A : Nat → Nat → Int32} {B : Nat → Nat → Int64} {G : Nat → Nat → Int32} {fl : Nat → Bool} {p : Nat} (hp : p < 8) : ldA (mem A B G fl) 19 (nI p) = some (20 + 3 * p) := ldA_n hp
section Df
variable {A : Nat → Nat → Int32} {B : Nat → Nat → Int64} {G : Nat → Nat → Int32} {fl : Nat → Bool} {N p n t : Nat}
theorem s_isPlace (a : Int32) {M : A_M} : f_X6_isPlace N a M = some (bz (0 ≤ a.toInt ∧ a.toInt < (8 : Nat)), M) := by
  unfold f_X6_isPlace
  by_cases h1 : a < 0
  · rw [if_pos h1, bz_f (by have := (i_neg a).mp h1; omega)]
  · have h1' : ¬ a.toInt < 0 := fun q => h1 ((i_neg a).mpr q)
    rw [if_neg h1]
    by_cases h2 : nI 8 ≤ a
    · rw [if_pos (show (8 : Int32) ≤ a from h2), bz_f (by have := (i_ge (by decide) a).mp h2; omega)]
    · rw [if_neg (show ¬ (8 : Int32) ≤ a from h2), bz_t (by have q2 : ¬ ((8 : Nat) : Int) ≤ a.toInt := fun q => h2 ((i_ge (by decide) a).mpr q); omega)]
theorem s_in07 (a : Int32) {M : A_M} : f_X7_in N a.toInt64 0 7 M = some (bz (0 ≤ a.toInt ∧ a.toInt < (8 : Nat)), M) := by
  rw [s_in, i64]
  congr 2
  apply bz_congr
  show 0 ≤ a.toInt ∧ a.toInt ≤ 7 ↔ _
  omega
theorem s_isKept (hp : p < 8) (hn : n ≤ 24) (hg : G (20 + 3 * p) 2 = nI n) : f_X6_isKept N 0 (nI p) (mem A B G fl) = some (bz (0 < n), mem A B G fl) := by
  unfold f_X6_isKept
  have h : 0 ≤ (nI p).toInt ∧ (nI p).toInt < (8 : Nat) := by rw [nI_toInt (by omega)]; omega
  rw [s_isPlace, b2s, if_neg (bz1 h), gx_0_9, sb, ldA8 hp, sb, cd_num (cdP fl hp), sb, hg]
  by_cases h0 : 0 < n
  · rw [if_neg (nI_nle h0 (by omega)), bz_t h0]
  · rw [if_pos (show nI n ≤ 0 from by rw [show n = 0 by omega]; decide), bz_f h0]
theorem s_differsX (hp : p < 8) (hn : n ≤ 24) (ht : t ≤ 24) (hg : G (20 + 3 * p) 2 = nI n) (hh : G 13 2 = nI t) : ∀ (d i m : Nat), i + d = min n t → d < m → f_X6_differs_L29 N m 0 (20 + 3 * p) (nI i) (mem A B G fl) = some (fst (fun i => !(decide (A (22 + 3 * p) i = A 15 i) && decide (B (21 + 3 * p) i = B 14 i))) d i, mem A B G fl) := by
  have hc := cdP fl hp
  have hr : ∀ i, i < 24 → ldJ (mem A B G fl) (20 + 3 * p + 1) (nI i) = some (B (21 + 3 * p) i) := fun i hi => by rw [ldJ_n hc.2.1 hi (by decide), show 20 + 3 * p + 1 = 21 + 3 * p by omega]
  have hz : ∀ i, i < 24 → ldI (mem A B G fl) (20 + 3 * p + 2) (nI i) = some (A (22 + 3 * p) i) := fun i hi => by rw [ldI_n hc.2.2.1 hi (by decide), show 20 + 3 * p + 2 = 22 + 3 * p by omega]
  intro d
  induction d with
  | zero =>
    intro i m h1 h2
    obtain ⟨m, rfl⟩ : ∃ j, m = j + 1 := ⟨m - 1, by omega⟩
    rw [f_X6_differs_L29, cd_num hc, sb, hg]
    by_cases e : n ≤ i
    · rw [if_pos (nI_le e (by omega))]
      rfl
    · rw [if_neg (nI_ge (by omega) (by omega)), gx_0_7, sb, gx_13_2, sb, hh, if_pos (nI_le (by omega) (by omega))]
      rfl
  | succ d ih =>
    intro i m h1 h2
    obtain ⟨m, rfl⟩ : ∃ j, m = j + 1 := ⟨m - 1, by omega⟩
    rw [f_X6_differs_L29, cd_num hc, sb, hg, if_neg (nI_ge (by omega) (by omega)), gx_0_7, sb, gx_13_2, sb, hh, if_neg (nI_ge (by omega) (by omega)), cd_sizes hc, sb, hz i (by omega), sb, sb, gx_13_1, sb, ldI_n (ly15 fl) (by omega) (by decide), sb]
    show _ = some ((if (!(decide (A (22 + 3 * p) i = A 15 i) && decide (B (21 + 3 * p) i = B 14 i))) = true then nI i else fst _ d (i + 1)), _)
    by_cases e1 : A (22 + 3 * p) i = A 15 i
    · rw [if_pos e1, cd_rows hc, sb, hr i (by omega), sb, sb, gx_13_0, sb, ldJ_n (ly14 fl) (by omega) (by decide), sb]
      by_cases e2 : B (21 + 3 * p) i = B 14 i
      · rw [if_pos ((lgE _ _).mpr e2), if_neg (by simp [e1, e2]), nI_1]
        exact ih (i + 1) m (by omega) (by omega)
      · rw [if_neg (fun q => e2 ((lgE _ _).mp q)), if_pos (by simp [e2])]
    · rw [if_neg e1, if_pos (by simp [e1])]
theorem s_differsM (hp : p < 8) (hn : n ≤ 24) (ht : t ≤ 24) (hg : A 81 p = nI n) (hh : G 44 3 = nI t) : ∀ (d i m : Nat), i + d = min n t → d < m → f_X7_differs_L35 N m 44 (nI p) (nI i) (mem A B G fl) = some (fst (fun i => !(decide (A 48 i = A 80 (24 * p + i)) && decide (B 47 i = B 79 (24 * p + i)))) d i, mem A B G fl) := by
  have hx : ∀ i, (24 : Int32) * nI p + nI i = nI (24 * p + i) := fun i => by rw [show (24 : Int32) = nI 24 from rfl, pk_mul, nI_add]
  intro d
  induction d with
  | zero =>
    intro i m h1 h2
    obtain ⟨m, rfl⟩ : ∃ j, m = j + 1 := ⟨m - 1, by omega⟩
    rw [f_X7_differs_L35, gx_44_3, sb, hh]
    by_cases e : t ≤ i
    · rw [if_pos (nI_le e (by omega))]
      rfl
    · rw [if_neg (nI_ge (by omega) (by omega)), gx_44_56, sb, ldI_n (ly81 fl) hp (by decide), sb, hg, if_pos (nI_le (by omega) (by omega))]
      rfl
  | succ d ih =>
    intro i m h1 h2
    obtain ⟨m, rfl⟩ : ∃ j, m = j + 1 := ⟨m - 1, by omega⟩
    rw [f_X7_differs_L35, gx_44_3, sb, hh, if_neg (nI_ge (by omega) (by omega)), gx_44_56, sb, ldI_n (ly81 fl) hp (by decide), sb, hg, if_neg (nI_ge (by omega) (by omega)), gx_44_7, sb, ldJ_n (ly47 fl) (by omega) (by decide), sb, gx_44_54, sb, hx, ldJ_n (ly79 fl) (by omega) (by decide), sb]
    show _ = some ((if (!(decide (A 48 i = A 80 (24 * p + i)) && decide (B 47 i = B 79 (24 * p + i)))) = true then nI i else fst _ d (i + 1)), _)
    by_cases e2 : B 47 i = B 79 (24 * p + i)
    · rw [if_pos ((lgE _ _).mpr e2), gx_44_8, sb, ldI_n (ly48 fl) (by omega) (by decide), sb, gx_44_55, sb, ldI_n (ly80 fl) (by omega) (by decide), sb]
      by_cases e1 : A 48 i = A 80 (24 * p + i)
      · rw [if_pos e1, if_neg (by simp [e1, e2]), nI_1]
        exact ih (i + 1) m (by omega) (by omega)
      · rw [if_neg e1, if_pos (by simp [e1])]
    · rw [if_neg (fun q => e2 ((lgE _ _).mp q)), if_pos (by simp [e2])]
end Df
theorem lo_differs : LO_differs Inv := fun a => LawI.mk (fx := f_X6_differs NN 0 a) (fm := f_X7_differs NN 44 a) (fun h => ok_X6_differs NN h) (fun h => ok_X7_differs NN h) (by
  intro z A B G fl hz hR
  obtain ⟨s, t, ⟨n1, n2, n3, n4, n5, n6, n7, n8⟩, hc, -, -, -, hch, -⟩ := id hR
  unfold f_X6_differs f_X7_differs
  by_cases h : 0 ≤ a.toInt ∧ a.toInt < (8 : Nat)
  · obtain ⟨p, hp, rfl⟩ := ix_of h (by decide)
    obtain ⟨n, p1, p2, p3, p4, p5⟩ := hch p hp
    by_cases h0 : 0 < n
    · rcases hc with ⟨c1, c2⟩ | ⟨c1, c2, c3, c4, c5, -⟩
      · refine ⟨-3, A, B, G, A, B, G, ?_, ?_, hR.next⟩
        · rw [ck_0, sb, s_isKept hp (by omega) p2, b2s, if_neg (bz1 h0), ck_0, sb, s_hasCode0 c1, b2s, if_pos rfl]
        · rw [s_in07, b2s, if_neg (bz1 h), gx_44_56, sb, ldI_n (ly81 fl) hp (by decide), sb, p3, if_neg (nI_ne0 h0 (by omega)), gx_44_4, sb, c2, if_pos rfl]
      · refine ⟨fst (fun i => !(decide (A (22 + 3 * p) i = A 15 i) && decide (B (21 + 3 * p) i = B 14 i))) (min n t) 0, A, B, G, A, B, G, ?_, ?_, hR.next⟩
        · rw [ck_0, sb, s_isKept hp (by omega) p2, b2s, if_neg (bz1 h0), ck_0, sb, s_hasCode1 c1 c3 n6, b2s, if_neg (show ¬ (1 : Int32) = 0 by decide), gx_0_9, sb, ldA8 hp, sb, show (0 : Int32) = nI 0 from rfl]
          exact s_differsX hp (by omega) n6 p2 c1 _ 0 NN (by omega) (by show _ < 300000; omega)
        · rw [s_in07, b2s, if_neg (bz1 h), gx_44_56, sb, ldI_n (ly81 fl) hp (by decide), sb, p3, if_neg (nI_ne0 h0 (by omega)), gx_44_4, sb, c2, if_neg (show ¬ (1 : Int32) = 0 by decide), show (0 : Int32) = nI 0 from rfl, s_differsM hp (by omega) n6 p3 n5 (min n t) 0 NN (by omega) (by show _ < 300000; omega)]
          congr 2
          apply fst_congr
          intro j _ hj
          have q1 := c5 j (by omega)
          have q2 := p5 j (by omega)
          rw [q1.1, q1.2.1, q2.1, q2.2.1]
          congr 2
          · exact decide_eq_decide.mpr eq_comm
          · exact decide_eq_decide.mpr eq_comm
    · have hn0 : n = 0 := by omega
      refine ⟨-1, A, B, G, A, B, G, ?_, ?_, hR.next⟩
      · rw [ck_0, sb, s_isKept hp (by omega) p2, b2s, if_pos (bz0 h0)]
      · rw [s_in07, b2s, if_neg (bz1 h), gx_44_56, sb, ldI_n (ly81 fl) hp (by decide), sb, p3, if_pos (show nI n = 0 by rw [hn0]; rfl)]
  · refine ⟨-1, A, B, G, A, B, G, ?_, ?_, hR.next⟩
    · rw [ck_0, sb]
      unfold f_X6_isKept
      rw [s_isPlace, b2s, if_pos (bz0 h), b2s, if_pos rfl]
    · rw [s_in07, b2s, if_pos (bz0 h)])
