/-! WHAT HOLDS BETWEEN TWO CALLS -/
/-- signs, things, prices, counts -/
def Num (A : Nat → Nat → Int32) (G : Nat → Nat → Int32) (s t : Nat) : Prop :=
  G 0 10 = nI s ∧ G 44 1 = nI s ∧ s ≤ 4 ∧ G 0 11 = nI t ∧ G 44 3 = nI t ∧ t ≤ 24 ∧ (∀ i, i < s → A 45 i = A 1 i ∧ ∃ p, 1 ≤ p ∧ p ≤ 9 ∧ A 1 i = nI p) ∧ (∀ i, i < t → A 46 i = A 2 i ∧ ∃ c, 1 ≤ c ∧ c ≤ 1000000 ∧ A 2 i = nI c)
/-- a word: a row of n signs below s -/
def Wd (s : Nat) (row : Int64) (len : Int32) : Prop := ∃ R n, row = lN R ∧ len = nI n ∧ R < 4 ^ 24 ∧ n ≤ 24 ∧ rz R n ∧ ∀ k, k < n → dg R k < s
/-- FREE may be built -/
def MayFree (A : Nat → Nat → Int32) (s t : Nat) : Prop := 2 ≤ s ∧ 0 < t ∧ ((∀ i, i < s → A 1 i = A 1 0) ∨ (t ≤ 8 ∧ ∀ i, i < s → ∃ p, p ≤ 3 ∧ A 1 i = nI p))
/-- the code at hand -/
def CodeOk (z : Nat) (A : Nat → Nat → Int32) (B : Nat → Nat → Int64) (G : Nat → Nat → Int32) (fl : Nat → Bool) (s t : Nat) : Prop :=
  (G 13 2 = 0 ∧ G 44 4 = 0) ∨ (G 13 2 = nI t ∧ G 44 4 = 1 ∧ 0 < t ∧ 2 ≤ s ∧ (∀ i, i < t → B 47 i = B 14 i ∧ A 48 i = A 15 i ∧ Wd s (B 14 i) (A 15 i)) ∧
    ((G 0 12 = 0 ∧ G 44 5 = 0 ∧ G 44 6 = 0) ∨ (G 0 12 = 1 ∧ G 44 5 = 1 ∧ G 44 6 = 0) ∨ (G 0 12 = 2 ∧ G 44 5 = 0 ∧ G 44 6 = 1 ∧ fl 1 = true ∧ MayFree A s t ∧ ∀ i, i < t → A 49 i = A 4 i ∧ ∃ c, 1 ≤ c ∧ c ≤ z + 1 ∧ A 4 i = nI c)))
def LineOk (A : Nat → Nat → Int32) (G : Nat → Nat → Int32) : Prop := ∃ n, G 6 2 = nI n ∧ G 44 44 = nI n ∧ n ≤ 200 ∧ ∀ i, i < n → A 72 i = A 7 i ∧ ∃ v, v < 4 ∧ A 7 i = nI v
def ItemOk (A : Nat → Nat → Int32) (G : Nat → Nat → Int32) : Prop := ∃ n, G 6 3 = nI n ∧ G 44 46 = nI n ∧ n ≤ 200 ∧ ∀ i, i < n → A 73 i = A 8 i
def BrkOk (G : Nat → Nat → Int32) : Prop := G 44 36 = G 0 13 ∧ G 44 37 = G 0 14
def ChestOk (A : Nat → Nat → Int32) (B : Nat → Nat → Int64) (G : Nat → Nat → Int32) (s t : Nat) : Prop :=
  ∀ p, p < 8 → ∃ n, n ≤ t ∧ G (20 + 3 * p) 2 = nI n ∧ A 81 p = nI n ∧ (0 < n → 2 ≤ s) ∧ ∀ i, i < n → B 79 (24 * p + i) = B (21 + 3 * p) i ∧ A 80 (24 * p + i) = A (22 + 3 * p) i ∧ Wd s (B (21 + 3 * p) i) (A (22 + 3 * p) i)
/-- the latest STEP: the class keeps the way back, the reference the signs -/
def StepOk (A : Nat → Nat → Int32) (G : Nat → Nat → Int32) (fl : Nat → Bool) : Prop :=
  (fl 3 = false ∧ G 44 53 = 0 ∧ G 44 50 = 0) ∨ (fl 3 = true ∧ G 98 8 = G 44 50 ∧ ((G 98 9 = -1 ∧ G 44 53 = 0) ∨
    ∃ (st : Nat) (c : Nat → Nat), G 98 9 = nI (c 0) ∧ G 98 10 = nI st ∧ G 44 53 = nI st ∧ st ≤ 2000 ∧ c 0 < 2000 ∧ ∀ j, j < st → c j < 2000 ∧ A 101 (c j) = nI (c (j + 1)) ∧ A 102 (c j) = A 78 (st - 1 - j)))
/-- the LevelMaker's stamps are of the past -/
def LmOk (z : Nat) (A : Nat → Nat → Int32) (G : Nat → Nat → Int32) (fl : Nat → Bool) : Prop := fl 1 = true → ∃ sp, sp ≤ 300 * z ∧ G 82 7 = nI sp ∧ ∀ j, j < 7200 → ∃ q, q ≤ sp ∧ A 84 j = nI q
def Rv (z : Nat) (A : Nat → Nat → Int32) (B : Nat → Nat → Int64) (G : Nat → Nat → Int32) (fl : Nat → Bool) : Prop :=
  ∃ s t, Num A G s t ∧ CodeOk z A B G fl s t ∧ LineOk A G ∧ ItemOk A G ∧ BrkOk G ∧ ChestOk A B G s t ∧ StepOk A G fl ∧ LmOk z A G fl
def csF (fl : Nat → Bool) : Nat := 82 + (if fl 1 = true then 11 else 0) + (if fl 2 = true then 5 else 0) + (if fl 3 = true then 7 else 0)
def slF (fl : Nat → Bool) : Nat := 465970 + (if fl 1 = true then 14764 else 0) + (if fl 2 = true then 3490 else 0) + (if fl 3 = true then 28328 else 0)
def Inv (z : Nat) (M : A_M) (cs sl : Nat) : Prop := ∃ A B G fl, M = mem A B G fl ∧ cs = csF fl ∧ sl = slF fl ∧ Rv z A B G fl
theorem invB : InvB Inv := by
  rintro z M cs sl ⟨A, B, G, fl, rfl, rfl, rfl, -⟩
  refine ⟨?_, ?_, ?_, ?_⟩
  · unfold csF; split <;> split <;> split <;> decide
  · unfold slF; split <;> split <;> split <;> decide
  · rw [mem_O (ly0 fl)]; exact Option.some_ne_none _
  · rw [mem_O (ly44 fl)]; exact Option.some_ne_none _
/-- the fuel -/
def NN : Nat := 300000
theorem LawI.mk {yx : MethodName} {bx : ByteArray} {lx Fx Lox : Nat} {ym : MethodName} {bm : ByteArray} {lm1 Fm Lom : Nat} {ax : List Value} {fx fm : A_M → Option (Int32 × A_M)}
    (hx : ∀ {M r M'}, fx M = some (r, M') → Runs yx bx lx (some .int) Fx Lox 0 0 (.ref 0 :: ax) M (some (.int r)) M') (hm : ∀ {M r M'}, fm M = some (r, M') → Runs ym bm lm1 (some .int) Fm Lom 0 0 (.ref 44 :: ax) M (some (.int r)) M')
    (h : ∀ z A B G fl, z < 1536 → Rv z A B G fl → ∃ r A1 B1 G1 A2 B2 G2, fx (mem A B G fl) = some (r, mem A1 B1 G1 fl) ∧ fm (mem A1 B1 G1 fl) = some (r, mem A2 B2 G2 fl) ∧ Rv (z + 1) A2 B2 G2 fl) : LawI Inv yx bx lx Fx Lox ym bm lm1 Fm Lom ax := by
  rintro z M cs sl hz ⟨A, B, G, fl, rfl, rfl, rfl, hR⟩
  obtain ⟨r, A1, B1, G1, A2, B2, G2, e1, e2, hR2⟩ := h z A B G fl hz hR
  exact ⟨r, _, _, 0, 0, hx e1, hm e2, ck_0, ck_44, A2, B2, G2, fl, rfl, rfl, rfl, hR2⟩
theorem LawJ.mk {yx : MethodName} {bx : ByteArray} {lx Fx Lox : Nat} {ym : MethodName} {bm : ByteArray} {lm1 Fm Lom : Nat} {ax : List Value} {fx fm : A_M → Option (Int64 × A_M)}
    (hx : ∀ {M r M'}, fx M = some (r, M') → Runs yx bx lx (some .long) Fx Lox 0 0 (.ref 0 :: ax) M (some (.long r)) M') (hm : ∀ {M r M'}, fm M = some (r, M') → Runs ym bm lm1 (some .long) Fm Lom 0 0 (.ref 44 :: ax) M (some (.long r)) M')
    (h : ∀ z A B G fl, z < 1536 → Rv z A B G fl → ∃ r A1 B1 G1 A2 B2 G2, fx (mem A B G fl) = some (r, mem A1 B1 G1 fl) ∧ fm (mem A1 B1 G1 fl) = some (r, mem A2 B2 G2 fl) ∧ Rv (z + 1) A2 B2 G2 fl) : LawJ Inv yx bx lx Fx Lox ym bm lm1 Fm Lom ax := by
  rintro z M cs sl hz ⟨A, B, G, fl, rfl, rfl, rfl, hR⟩
  obtain ⟨r, A1, B1, G1, A2, B2, G2, e1, e2, hR2⟩ := h z A B G fl hz hR
  exact ⟨r, _, _, 0, 0, hx e1, hm e2, ck_0, ck_44, A2, B2, G2, fl, rfl, rfl, rfl, hR2⟩
/-- nothing changed: one call later -/
theorem CodeOk.next {z : Nat} {A : Nat → Nat → Int32} {B : Nat → Nat → Int64} {G : Nat → Nat → Int32} {fl : Nat → Bool} {s t : Nat} (h : CodeOk z A B G fl s t) : CodeOk (z + 1) A B G fl s t := by
  rcases h with h | ⟨h1, h2, h3, h4, h5, h6⟩
  · exact Or.inl h
  · refine Or.inr ⟨h1, h2, h3, h4, h5, ?_⟩
    rcases h6 with h | h | ⟨q1, q2, q3, q4, q5, q6⟩
    · exact Or.inl h
    · exact Or.inr (Or.inl h)
    · exact Or.inr (Or.inr ⟨q1, q2, q3, q4, q5, fun i hi => ⟨(q6 i hi).1, by obtain ⟨c, a1, a2, a3⟩ := (q6 i hi).2; exact ⟨c, a1, by omega, a3⟩⟩⟩)
theorem LmOk.next {z : Nat} {A : Nat → Nat → Int32} {G : Nat → Nat → Int32} {fl : Nat → Bool} (h : LmOk z A G fl) : LmOk (z + 1) A G fl := fun hf => by
  obtain ⟨sp, h1, h2⟩ := h hf
  exact ⟨sp, by omega, h2⟩
theorem Rv.next {z : Nat} {A : Nat → Nat → Int32} {B : Nat → Nat → Int64} {G : Nat → Nat → Int32} {fl : Nat → Bool} (h : Rv z A B G fl) : Rv (z + 1) A B G fl := by
  obtain ⟨s, t, h1, h2, h3, h4, h5, h6, h7, h8⟩ := h
  exact ⟨s, t, h1, h2.next, h3, h4, h5, h6, h7, h8.next⟩
/-! indices -/
theorem i_neg (a : Int32) : a < 0 ↔ a.toInt < 0 := by rw [Int32.lt_iff_toInt_lt]; rfl
theorem i_ge {n : Nat} (hn : n < 2 ^ 31) (a : Int32) : nI n ≤ a ↔ (n : Int) ≤ a.toInt := by rw [Int32.le_iff_toInt_le, nI_toInt hn]
theorem i_lt {n : Nat} (hn : n < 2 ^ 31) (a : Int32) : a < nI n ↔ a.toInt < (n : Int) := by rw [Int32.lt_iff_toInt_lt, nI_toInt hn]
theorem i64 (a : Int32) : a.toInt64.toInt = a.toInt := Int32.toInt_toInt64 a
theorem lgL (x y : Int64) : lg_cmp x y < 0 ↔ x.toInt < y.toInt := by
  unfold lg_cmp
  by_cases e1 : x > y
  · have e1' : y.toInt < x.toInt := Int64.lt_iff_toInt_lt.mp e1
    rw [if_pos e1]
    exact ⟨fun h => absurd h (by decide), fun h => absurd h (by omega)⟩
  · have e1' : ¬ y.toInt < x.toInt := fun h => e1 (Int64.lt_iff_toInt_lt.mpr h)
    rw [if_neg e1]
    by_cases e2 : x = y
    · rw [if_pos e2, e2]
      exact ⟨fun h => absurd h (by decide), fun h => absurd h (by omega)⟩
    · have e2' : x.toInt ≠ y.toInt := fun h => e2 (Int64.toInt_inj.mp h)
      rw [if_neg e2]
      exact ⟨fun _ => by omega, fun _ => by decide⟩
theorem lgG (x y : Int64) : 0 < lg_cmp x y ↔ y.toInt < x.toInt := by
  unfold lg_cmp
  by_cases e1 : x > y
  · have e1' : y.toInt < x.toInt := Int64.lt_iff_toInt_lt.mp e1
    rw [if_pos e1]
    exact ⟨fun _ => e1', fun _ => by decide⟩
  · have e1' : ¬ y.toInt < x.toInt := fun h => e1 (Int64.lt_iff_toInt_lt.mpr h)
    rw [if_neg e1]
    by_cases e2 : x = y
    · rw [if_pos e2]
      exact ⟨fun h => absurd h (by decide), fun h => absurd h e1'⟩
    · rw [if_neg e2]
      exact ⟨fun h => absurd h (by decide), fun h => absurd h e1'⟩
theorem s_in {N : Nat} {M : A_M} (x lo hi : Int64) : f_X7_in N x lo hi M = some (bz (lo.toInt ≤ x.toInt ∧ x.toInt ≤ hi.toInt), M) := by
  unfold f_X7_in
  by_cases h1 : lg_cmp x lo < 0
  · rw [if_pos h1, bz_f (by have := (lgL x lo).mp h1; omega)]
  · have h1' : ¬ x.toInt < lo.toInt := fun h => h1 ((lgL x lo).mpr h)
    rw [if_neg h1]
    by_cases h2 : 0 < lg_cmp x hi
    · rw [if_pos h2, bz_f (by have := (lgG x hi).mp h2; omega)]
    · have h2' : ¬ hi.toInt < x.toInt := fun h => h2 ((lgG x hi).mpr h)
      rw [if_neg h2, bz_t (by omega)]
theorem pred_toInt {n : Nat} (hn : n < 2 ^ 30) : (nI n - 1).toInt64.toInt = (n : Int) - 1 := by
  rw [i64, show (1 : Int32) = nI 1 from rfl, pk_sub_toInt hn (by decide)]
  rfl
/-- in 0 .. n - 1 -/
theorem s_in0 {N n : Nat} {M : A_M} (hn : n < 2 ^ 30) (a : Int32) : f_X7_in N a.toInt64 0 ((nI n - 1).toInt64) M = some (bz (0 ≤ a.toInt ∧ a.toInt < n), M) := by
  rw [s_in, i64, pred_toInt hn]
  congr 2
  apply bz_congr
  show 0 ≤ a.toInt ∧ a.toInt ≤ (n : Int) - 1 ↔ _
  omega
section Ix
variable {A : Nat → Nat → Int32} {B : Nat → Nat → Int64} {G : Nat → Nat → Int32} {fl : Nat → Bool} {N n : Nat}
theorem s_isSignX (h : G 0 10 = nI n) (hn : n < 2 ^ 30) (a : Int32) : f_X6_isSign N 0 a (mem A B G fl) = some (bz (0 ≤ a.toInt ∧ a.toInt < n), mem A B G fl) := by
  unfold f_X6_isSign
  by_cases h1 : a < 0
  · rw [if_pos h1, bz_f (by have := (i_neg a).mp h1; omega)]
  · have h1' : ¬ a.toInt < 0 := fun q => h1 ((i_neg a).mpr q)
    rw [if_neg h1, gx_0_10, sb, h]
    by_cases h2 : nI n ≤ a
    · rw [if_pos h2, bz_f (by have := (i_ge (by omega) a).mp h2; omega)]
    · rw [if_neg h2, bz_t (by have q2 : ¬ (n : Int) ≤ a.toInt := fun q => h2 ((i_ge (by omega) a).mpr q); omega)]
theorem s_isThingX (h : G 0 11 = nI n) (hn : n < 2 ^ 30) (a : Int32) : f_X6_isThing N 0 a (mem A B G fl) = some (bz (0 ≤ a.toInt ∧ a.toInt < n), mem A B G fl) := by
  unfold f_X6_isThing
  by_cases h1 : a < 0
  · rw [if_pos h1, bz_f (by have := (i_neg a).mp h1; omega)]
  · have h1' : ¬ a.toInt < 0 := fun q => h1 ((i_neg a).mpr q)
    rw [if_neg h1, gx_0_11, sb, h]
    by_cases h2 : nI n ≤ a
    · rw [if_pos h2, bz_f (by have := (i_ge (by omega) a).mp h2; omega)]
    · rw [if_neg h2, bz_t (by have q2 : ¬ (n : Int) ≤ a.toInt := fun q => h2 ((i_ge (by omega) a).mpr q); omega)]
theorem s_isSignM (h : G 44 1 = nI n) (hn : n < 2 ^ 30) (a : Int32) : f_X7_isSign N 44 a (mem A B G fl) = some (bz (0 ≤ a.toInt ∧ a.toInt < n), mem A B G fl) := by
  unfold f_X7_isSign
  rw [gx_44_1, sb, h, s_in0 hn, b2s, bz_zb, sb]
theorem s_isThingM (h : G 44 3 = nI n) (hn : n < 2 ^ 30) (a : Int32) : f_X7_isThing N 44 a (mem A B G fl) = some (bz (0 ≤ a.toInt ∧ a.toInt < n), mem A B G fl) := by
  unfold f_X7_isThing
  rw [gx_44_3, sb, h, s_in0 hn, b2s, bz_zb, sb]
end Ix
