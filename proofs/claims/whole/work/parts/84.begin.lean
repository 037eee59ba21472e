/-! the beginning -/
def gZero : Nat → Nat → Int32 := fun k j => if (k = 0 ∧ (j = 13 ∨ j = 14)) ∨ (k = 44 ∧ (j = 36 ∨ j = 37)) then -6 else 0
def mZero : A_M := mem (fun _ _ => 0) (fun _ _ => 0) gZero (fun _ => false)
def S0 : A_M := upM (fun _ => none) 0 (.inr (6, dX6))
def S1 : A_M := (f_X6_init 1 1 0 S0).getD (fun _ => none)
theorem s1_is : (f_X6_init 1 1 0 S0).isSome = true := by decide +kernel
def chs : Nat → Option Nat := fun p => if p < 8 then some (20 + 3 * p) else none
def chsOf : Option A_C → Nat → Option Nat
  | some (.inl (_, (_, .inr (.inr (.inr (.inr f)))))) => f
  | _ => fun _ => none
theorem chs_eq : chsOf (S1 19) = chs := by
  funext p
  match p with
  | 0 => rfl
  | 1 => rfl
  | 2 => rfl
  | 3 => rfl
  | 4 => rfl
  | 5 => rfl
  | 6 => rfl
  | 7 => rfl
  | n + 8 => rfl
theorem s1_19 : S1 19 = mZero 19 := by
  have h : S1 19 = (some (Sum.inl (3, (8, Sum.inr (Sum.inr (Sum.inr (Sum.inr (chsOf (S1 19)))))))) : Option A_C) := rfl
  rw [h]
  rw [chs_eq]
  rfl
def C1 : A_M := fun k => if k < 44 then mZero k else none
theorem s1_eq : S1 = C1 := by
  funext k
  match k with
  | 0 => rfl
  | 1 => rfl
  | 2 => rfl
  | 3 => rfl
  | 4 => rfl
  | 5 => rfl
  | 6 => rfl
  | 7 => rfl
  | 8 => rfl
  | 9 => rfl
  | 10 => rfl
  | 11 => rfl
  | 12 => rfl
  | 13 => rfl
  | 14 => rfl
  | 15 => rfl
  | 16 => rfl
  | 17 => rfl
  | 18 => rfl
  | 19 => exact s1_19
  | 20 => rfl
  | 21 => rfl
  | 22 => rfl
  | 23 => rfl
  | 24 => rfl
  | 25 => rfl
  | 26 => rfl
  | 27 => rfl
  | 28 => rfl
  | 29 => rfl
  | 30 => rfl
  | 31 => rfl
  | 32 => rfl
  | 33 => rfl
  | 34 => rfl
  | 35 => rfl
  | 36 => rfl
  | 37 => rfl
  | 38 => rfl
  | 39 => rfl
  | 40 => rfl
  | 41 => rfl
  | 42 => rfl
  | 43 => rfl
  | n + 44 =>
    have h : C1 (n + 44) = none := if_neg (by omega)
    rw [h]
    rfl
def S2 : A_M := upM C1 44 (.inr (7, dX7))
def S3 : A_M := (f_X7_init 1 45 44 S2).getD (fun _ => none)
theorem s3_is : (f_X7_init 1 45 44 S2).isSome = true := by decide +kernel
theorem s3_eq : S3 = mZero := by
  funext k
  match k with
  | 0 => rfl
  | 1 => rfl
  | 2 => rfl
  | 3 => rfl
  | 4 => rfl
  | 5 => rfl
  | 6 => rfl
  | 7 => rfl
  | 8 => rfl
  | 9 => rfl
  | 10 => rfl
  | 11 => rfl
  | 12 => rfl
  | 13 => rfl
  | 14 => rfl
  | 15 => rfl
  | 16 => rfl
  | 17 => rfl
  | 18 => rfl
  | 19 => rfl
  | 20 => rfl
  | 21 => rfl
  | 22 => rfl
  | 23 => rfl
  | 24 => rfl
  | 25 => rfl
  | 26 => rfl
  | 27 => rfl
  | 28 => rfl
  | 29 => rfl
  | 30 => rfl
  | 31 => rfl
  | 32 => rfl
  | 33 => rfl
  | 34 => rfl
  | 35 => rfl
  | 36 => rfl
  | 37 => rfl
  | 38 => rfl
  | 39 => rfl
  | 40 => rfl
  | 41 => rfl
  | 42 => rfl
  | 43 => rfl
  | 44 => rfl
  | 45 => rfl
  | 46 => rfl
  | 47 => rfl
  | 48 => rfl
  | 49 => rfl
  | 50 => rfl
  | 51 => rfl
  | 52 => rfl
  | 53 => rfl
  | 54 => rfl
  | 55 => rfl
  | 56 => rfl
  | 57 => rfl
  | 58 => rfl
  | 59 => rfl
  | 60 => rfl
  | 61 => rfl
  | 62 => rfl
  | 63 => rfl
  | 64 => rfl
  | 65 => rfl
  | 66 => rfl
  | 67 => rfl
  | 68 => rfl
  | 69 => rfl
  | 70 => rfl
  | 71 => rfl
  | 72 => rfl
  | 73 => rfl
  | 74 => rfl
  | 75 => rfl
  | 76 => rfl
  | 77 => rfl
  | 78 => rfl
  | 79 => rfl
  | 80 => rfl
  | 81 => rfl
  | 82 => rfl
  | 83 => rfl
  | 84 => rfl
  | 85 => rfl
  | 86 => rfl
  | 87 => rfl
  | 88 => rfl
  | 89 => rfl
  | 90 => rfl
  | 91 => rfl
  | 92 => rfl
  | 93 => rfl
  | 94 => rfl
  | 95 => rfl
  | 96 => rfl
  | 97 => rfl
  | 98 => rfl
  | 99 => rfl
  | 100 => rfl
  | 101 => rfl
  | 102 => rfl
  | 103 => rfl
  | 104 => rfl
  | n + 105 => rfl
theorem startOk : StartOk Inv := by
  have e1 : f_X6_init 1 1 0 S0 = some S1 := by
    unfold S1
    cases h : f_X6_init 1 1 0 S0 with
    | none => have := s1_is; rw [h] at this; cases this
    | some M => rfl
  have e3 : f_X7_init 1 45 44 S2 = some S3 := by
    unfold S3
    cases h : f_X7_init 1 45 44 S2 with
    | none => have := s3_is; rw [h] at this; cases this
    | some M => rfl
  rw [s1_eq] at e1
  rw [s3_eq] at e3
  refine ⟨C1, mZero, ok_X6_init 1 e1, rfl, ok_X7_init 1 e3, fun _ _ => 0, fun _ _ => 0, gZero, fun _ => false, rfl, rfl, rfl, 0, 0, ?_, ?_, ?_, ?_, ?_, ?_, ?_, ?_⟩
  · exact ⟨rfl, rfl, by decide, rfl, rfl, by decide, fun i hi => absurd hi (Nat.not_lt_zero i), fun i hi => absurd hi (Nat.not_lt_zero i)⟩
  · exact Or.inl ⟨rfl, rfl⟩
  · exact ⟨0, rfl, rfl, by decide, fun i hi => absurd hi (Nat.not_lt_zero i)⟩
  · exact ⟨0, rfl, rfl, by decide, fun i hi => absurd hi (Nat.not_lt_zero i)⟩
  · exact ⟨rfl, rfl⟩
  · intro p hp
    refine ⟨0, Nat.le_refl _, ?_, rfl, fun h => absurd h (Nat.lt_irrefl 0), fun i hi => absurd hi (Nat.not_lt_zero i)⟩
    unfold gZero
    rw [if_neg (by omega)]
    rfl
  · exact Or.inl ⟨rfl, rfl, rfl⟩
  · intro h
    cases h
