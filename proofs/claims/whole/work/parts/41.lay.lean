/-! rows of the layout -/
theorem ly0 (fl : Nat → Bool) : lay fl 0 = some (.inr (6, [2, 3, 4, 5, 6, 7, 10, 14, 17, 20, 0, 0, 0, 0, 0, 1001, 1002, 1003])) := rfl
theorem ly1 (fl : Nat → Bool) : lay fl 1 = some (.inl (0, 4)) := rfl
theorem ly2 (fl : Nat → Bool) : lay fl 2 = some (.inl (0, 24)) := rfl
theorem ly3 (fl : Nat → Bool) : lay fl 3 = some (.inl (0, 24)) := rfl
theorem ly4 (fl : Nat → Bool) : lay fl 4 = some (.inl (0, 24)) := rfl
theorem ly5 (fl : Nat → Bool) : lay fl 5 = some (.inl (0, 24)) := rfl
theorem ly6 (fl : Nat → Bool) : lay fl 6 = some (.inr (2, [8, 9, 0, 0, 0])) := rfl
theorem ly7 (fl : Nat → Bool) : lay fl 7 = some (.inl (0, 200)) := rfl
theorem ly8 (fl : Nat → Bool) : lay fl 8 = some (.inl (0, 200)) := rfl
theorem ly9 (fl : Nat → Bool) : lay fl 9 = some (.inr (3, [11, 12, 13, 0, 0])) := rfl
theorem ly10 (fl : Nat → Bool) : lay fl 10 = some (.inl (1, 97)) := rfl
theorem ly11 (fl : Nat → Bool) : lay fl 11 = some (.inl (0, 97)) := rfl
theorem ly12 (fl : Nat → Bool) : lay fl 12 = some (.inl (0, 97)) := rfl
theorem ly13 (fl : Nat → Bool) : lay fl 13 = some (.inr (0, [15, 16, 0])) := rfl
theorem ly14 (fl : Nat → Bool) : lay fl 14 = some (.inl (1, 24)) := rfl
theorem ly15 (fl : Nat → Bool) : lay fl 15 = some (.inl (0, 24)) := rfl
theorem ly16 (fl : Nat → Bool) : lay fl 16 = some (.inr (0, [18, 19, 0])) := rfl
theorem ly17 (fl : Nat → Bool) : lay fl 17 = some (.inl (1, 24)) := rfl
theorem ly18 (fl : Nat → Bool) : lay fl 18 = some (.inl (0, 24)) := rfl
theorem ly19 (fl : Nat → Bool) : lay fl 19 = some (.inl (3, 8)) := rfl
theorem ly20 (fl : Nat → Bool) : lay fl 20 = some (.inr (0, [22, 23, 0])) := rfl
theorem ly21 (fl : Nat → Bool) : lay fl 21 = some (.inl (1, 24)) := rfl
theorem ly22 (fl : Nat → Bool) : lay fl 22 = some (.inl (0, 24)) := rfl
theorem ly23 (fl : Nat → Bool) : lay fl 23 = some (.inr (0, [25, 26, 0])) := rfl
theorem ly24 (fl : Nat → Bool) : lay fl 24 = some (.inl (1, 24)) := rfl
theorem ly25 (fl : Nat → Bool) : lay fl 25 = some (.inl (0, 24)) := rfl
theorem ly26 (fl : Nat → Bool) : lay fl 26 = some (.inr (0, [28, 29, 0])) := rfl
theorem ly27 (fl : Nat → Bool) : lay fl 27 = some (.inl (1, 24)) := rfl
theorem ly28 (fl : Nat → Bool) : lay fl 28 = some (.inl (0, 24)) := rfl
theorem ly29 (fl : Nat → Bool) : lay fl 29 = some (.inr (0, [31, 32, 0])) := rfl
theorem ly30 (fl : Nat → Bool) : lay fl 30 = some (.inl (1, 24)) := rfl
theorem ly31 (fl : Nat → Bool) : lay fl 31 = some (.inl (0, 24)) := rfl
theorem ly32 (fl : Nat → Bool) : lay fl 32 = some (.inr (0, [34, 35, 0])) := rfl
theorem ly33 (fl : Nat → Bool) : lay fl 33 = some (.inl (1, 24)) := rfl
theorem ly34 (fl : Nat → Bool) : lay fl 34 = some (.inl (0, 24)) := rfl
theorem ly35 (fl : Nat → Bool) : lay fl 35 = some (.inr (0, [37, 38, 0])) := rfl
theorem ly36 (fl : Nat → Bool) : lay fl 36 = some (.inl (1, 24)) := rfl
theorem ly37 (fl : Nat → Bool) : lay fl 37 = some (.inl (0, 24)) := rfl
theorem ly38 (fl : Nat → Bool) : lay fl 38 = some (.inr (0, [40, 41, 0])) := rfl
theorem ly39 (fl : Nat → Bool) : lay fl 39 = some (.inl (1, 24)) := rfl
theorem ly40 (fl : Nat → Bool) : lay fl 40 = some (.inl (0, 24)) := rfl
theorem ly41 (fl : Nat → Bool) : lay fl 41 = some (.inr (0, [43, 44, 0])) := rfl
theorem ly42 (fl : Nat → Bool) : lay fl 42 = some (.inl (1, 24)) := rfl
theorem ly43 (fl : Nat → Bool) : lay fl 43 = some (.inl (0, 24)) := rfl
theorem ly44 (fl : Nat → Bool) : lay fl 44 = some (.inr (7, [46, 0, 47, 0, 0, 0, 0, 48, 49, 50, 51, 52, 53, 54, 0, 0, 0, 55, 56, 57, 58, 0, 59, 0, 60, 0, 0, 61, 62, 63, 64, 65, 66, 0, 67, 68, 0, 0, 69, 70, 0, 71, 72, 73, 0, 74, 0, 75, 76, 77, 0, 78, 79, 0, 80, 81, 82])) := rfl
theorem ly45 (fl : Nat → Bool) : lay fl 45 = some (.inl (0, 4)) := rfl
theorem ly46 (fl : Nat → Bool) : lay fl 46 = some (.inl (0, 24)) := rfl
theorem ly47 (fl : Nat → Bool) : lay fl 47 = some (.inl (1, 24)) := rfl
theorem ly48 (fl : Nat → Bool) : lay fl 48 = some (.inl (0, 24)) := rfl
theorem ly49 (fl : Nat → Bool) : lay fl 49 = some (.inl (0, 24)) := rfl
theorem ly50 (fl : Nat → Bool) : lay fl 50 = some (.inl (0, 24)) := rfl
theorem ly51 (fl : Nat → Bool) : lay fl 51 = some (.inl (1, 216600)) := rfl
theorem ly52 (fl : Nat → Bool) : lay fl 52 = some (.inl (2, 216600)) := rfl
theorem ly53 (fl : Nat → Bool) : lay fl 53 = some (.inl (1, 25)) := rfl
theorem ly54 (fl : Nat → Bool) : lay fl 54 = some (.inl (0, 4)) := rfl
theorem ly55 (fl : Nat → Bool) : lay fl 55 = some (.inl (1, 400)) := rfl
theorem ly56 (fl : Nat → Bool) : lay fl 56 = some (.inl (0, 400)) := rfl
theorem ly57 (fl : Nat → Bool) : lay fl 57 = some (.inl (0, 400)) := rfl
theorem ly58 (fl : Nat → Bool) : lay fl 58 = some (.inl (0, 400)) := rfl
theorem ly59 (fl : Nat → Bool) : lay fl 59 = some (.inl (0, 24)) := rfl
theorem ly60 (fl : Nat → Bool) : lay fl 60 = some (.inl (1, 576)) := rfl
theorem ly61 (fl : Nat → Bool) : lay fl 61 = some (.inl (1, 150)) := rfl
theorem ly62 (fl : Nat → Bool) : lay fl 62 = some (.inl (0, 100)) := rfl
theorem ly63 (fl : Nat → Bool) : lay fl 63 = some (.inl (0, 100)) := rfl
theorem ly64 (fl : Nat → Bool) : lay fl 64 = some (.inl (1, 100)) := rfl
theorem ly65 (fl : Nat → Bool) : lay fl 65 = some (.inl (0, 100)) := rfl
theorem ly66 (fl : Nat → Bool) : lay fl 66 = some (.inl (1, 24)) := rfl
theorem ly67 (fl : Nat → Bool) : lay fl 67 = some (.inl (0, 24)) := rfl
theorem ly68 (fl : Nat → Bool) : lay fl 68 = some (.inl (1, 600)) := rfl
theorem ly69 (fl : Nat → Bool) : lay fl 69 = some (.inl (0, 600)) := rfl
theorem ly70 (fl : Nat → Bool) : lay fl 70 = some (.inl (0, 2400)) := rfl
theorem ly71 (fl : Nat → Bool) : lay fl 71 = some (.inl (0, 24)) := rfl
theorem ly72 (fl : Nat → Bool) : lay fl 72 = some (.inl (0, 200)) := rfl
theorem ly73 (fl : Nat → Bool) : lay fl 73 = some (.inl (0, 200)) := rfl
theorem ly74 (fl : Nat → Bool) : lay fl 74 = some (.inl (1, 18000)) := rfl
theorem ly75 (fl : Nat → Bool) : lay fl 75 = some (.inl (0, 2000)) := rfl
theorem ly76 (fl : Nat → Bool) : lay fl 76 = some (.inl (0, 2000)) := rfl
theorem ly77 (fl : Nat → Bool) : lay fl 77 = some (.inl (1, 9)) := rfl
theorem ly78 (fl : Nat → Bool) : lay fl 78 = some (.inl (0, 2000)) := rfl
theorem ly79 (fl : Nat → Bool) : lay fl 79 = some (.inl (1, 192)) := rfl
theorem ly80 (fl : Nat → Bool) : lay fl 80 = some (.inl (0, 192)) := rfl
theorem ly81 (fl : Nat → Bool) : lay fl 81 = some (.inl (0, 8)) := rfl
theorem ly82 {fl : Nat → Bool} (h : fl 1 = true) : lay fl 82 = some (.inr (1, [84, 85, 86, 87, 88, 89, 90, 0, 0, 0, 0])) := by
  show (if 1 = 0 ∨ fl 1 = true then _ else _) = _
  rw [if_pos (Or.inr h)]
theorem ly83 {fl : Nat → Bool} (h : fl 1 = true) : lay fl 83 = some (.inl (1, 7200)) := by
  show (if 1 = 0 ∨ fl 1 = true then _ else _) = _
  rw [if_pos (Or.inr h)]
theorem ly84 {fl : Nat → Bool} (h : fl 1 = true) : lay fl 84 = some (.inl (0, 7200)) := by
  show (if 1 = 0 ∨ fl 1 = true then _ else _) = _
  rw [if_pos (Or.inr h)]
theorem ly85 {fl : Nat → Bool} (h : fl 1 = true) : lay fl 85 = some (.inl (1, 25)) := by
  show (if 1 = 0 ∨ fl 1 = true then _ else _) = _
  rw [if_pos (Or.inr h)]
theorem ly86 {fl : Nat → Bool} (h : fl 1 = true) : lay fl 86 = some (.inl (0, 24)) := by
  show (if 1 = 0 ∨ fl 1 = true then _ else _) = _
  rw [if_pos (Or.inr h)]
theorem ly87 {fl : Nat → Bool} (h : fl 1 = true) : lay fl 87 = some (.inl (0, 4)) := by
  show (if 1 = 0 ∨ fl 1 = true then _ else _) = _
  rw [if_pos (Or.inr h)]
theorem ly88 {fl : Nat → Bool} (h : fl 1 = true) : lay fl 88 = some (.inl (0, 4)) := by
  show (if 1 = 0 ∨ fl 1 = true then _ else _) = _
  rw [if_pos (Or.inr h)]
theorem ly89 {fl : Nat → Bool} (h : fl 1 = true) : lay fl 89 = some (.inr (3, [91, 92, 93, 0, 0])) := by
  show (if 1 = 0 ∨ fl 1 = true then _ else _) = _
  rw [if_pos (Or.inr h)]
theorem ly90 {fl : Nat → Bool} (h : fl 1 = true) : lay fl 90 = some (.inl (1, 97)) := by
  show (if 1 = 0 ∨ fl 1 = true then _ else _) = _
  rw [if_pos (Or.inr h)]
theorem ly91 {fl : Nat → Bool} (h : fl 1 = true) : lay fl 91 = some (.inl (0, 97)) := by
  show (if 1 = 0 ∨ fl 1 = true then _ else _) = _
  rw [if_pos (Or.inr h)]
theorem ly92 {fl : Nat → Bool} (h : fl 1 = true) : lay fl 92 = some (.inl (0, 97)) := by
  show (if 1 = 0 ∨ fl 1 = true then _ else _) = _
  rw [if_pos (Or.inr h)]
theorem ly93 {fl : Nat → Bool} (h : fl 2 = true) : lay fl 93 = some (.inr (4, [95, 96, 97, 98, 0])) := by
  show (if 2 = 0 ∨ fl 2 = true then _ else _) = _
  rw [if_pos (Or.inr h)]
theorem ly94 {fl : Nat → Bool} (h : fl 2 = true) : lay fl 94 = some (.inl (1, 576)) := by
  show (if 2 = 0 ∨ fl 2 = true then _ else _) = _
  rw [if_pos (Or.inr h)]
theorem ly95 {fl : Nat → Bool} (h : fl 2 = true) : lay fl 95 = some (.inl (1, 2880)) := by
  show (if 2 = 0 ∨ fl 2 = true then _ else _) = _
  rw [if_pos (Or.inr h)]
theorem ly96 {fl : Nat → Bool} (h : fl 2 = true) : lay fl 96 = some (.inl (1, 25)) := by
  show (if 2 = 0 ∨ fl 2 = true then _ else _) = _
  rw [if_pos (Or.inr h)]
theorem ly97 {fl : Nat → Bool} (h : fl 2 = true) : lay fl 97 = some (.inl (0, 4)) := by
  show (if 2 = 0 ∨ fl 2 = true then _ else _) = _
  rw [if_pos (Or.inr h)]
theorem ly98 {fl : Nat → Bool} (h : fl 3 = true) : lay fl 98 = some (.inr (5, [100, 101, 102, 103, 104, 105, 0, 0, 0, 0, 0])) := by
  show (if 3 = 0 ∨ fl 3 = true then _ else _) = _
  rw [if_pos (Or.inr h)]
theorem ly99 {fl : Nat → Bool} (h : fl 3 = true) : lay fl 99 = some (.inl (0, 2212)) := by
  show (if 3 = 0 ∨ fl 3 = true then _ else _) = _
  rw [if_pos (Or.inr h)]
theorem ly100 {fl : Nat → Bool} (h : fl 3 = true) : lay fl 100 = some (.inl (1, 18000)) := by
  show (if 3 = 0 ∨ fl 3 = true then _ else _) = _
  rw [if_pos (Or.inr h)]
theorem ly101 {fl : Nat → Bool} (h : fl 3 = true) : lay fl 101 = some (.inl (0, 2000)) := by
  show (if 3 = 0 ∨ fl 3 = true then _ else _) = _
  rw [if_pos (Or.inr h)]
theorem ly102 {fl : Nat → Bool} (h : fl 3 = true) : lay fl 102 = some (.inl (0, 2000)) := by
  show (if 3 = 0 ∨ fl 3 = true then _ else _) = _
  rw [if_pos (Or.inr h)]
theorem ly103 {fl : Nat → Bool} (h : fl 3 = true) : lay fl 103 = some (.inl (0, 4096)) := by
  show (if 3 = 0 ∨ fl 3 = true then _ else _) = _
  rw [if_pos (Or.inr h)]
theorem ly104 {fl : Nat → Bool} (h : fl 3 = true) : lay fl 104 = some (.inl (1, 9)) := by
  show (if 3 = 0 ∨ fl 3 = true then _ else _) = _
  rw [if_pos (Or.inr h)]
/-- an id is a Code's: its rows and sizes lie behind it -/
def cdL (fl : Nat → Bool) (k : Nat) : Prop := lay fl k = some (.inr (0, [k + 2, k + 3, 0])) ∧ lay fl (k + 1) = some (.inl (1, 24)) ∧ lay fl (k + 2) = some (.inl (0, 24)) ∧ k + 3 < 1000
theorem cd13 (fl : Nat → Bool) : cdL fl 13 := ⟨rfl, rfl, rfl, by decide⟩
theorem cd16 (fl : Nat → Bool) : cdL fl 16 := ⟨rfl, rfl, rfl, by decide⟩
theorem cdP (fl : Nat → Bool) {p : Nat} (h : p < 8) : cdL fl (20 + 3 * p) := by
  match p, h with
  | 0, _ => exact ⟨rfl, rfl, rfl, by decide⟩
  | 1, _ => exact ⟨rfl, rfl, rfl, by decide⟩
  | 2, _ => exact ⟨rfl, rfl, rfl, by decide⟩
  | 3, _ => exact ⟨rfl, rfl, rfl, by decide⟩
  | 4, _ => exact ⟨rfl, rfl, rfl, by decide⟩
  | 5, _ => exact ⟨rfl, rfl, rfl, by decide⟩
  | 6, _ => exact ⟨rfl, rfl, rfl, by decide⟩
  | 7, _ => exact ⟨rfl, rfl, rfl, by decide⟩
  | p + 8, h => exact absurd h (by omega)
section Cd
variable {A : Nat → Nat → Int32} {B : Nat → Nat → Int64} {G : Nat → Nat → Int32} {fl : Nat → Bool} {k : Nat}
theorem cd_rows (h : cdL fl k) : gR (mem A B G fl) k 0 0 = some (k + 1) := gR_mem h.1 (by have := h.2.2.2; omega) rfl
theorem cd_sizes (h : cdL fl k) : gR (mem A B G fl) k 0 1 = some (k + 2) := gR_mem h.1 (by have := h.2.2.2; omega) rfl
theorem cd_num (h : cdL fl k) : gI (mem A B G fl) k 0 2 = some (G k 2) := gI_mem h.1 rfl
theorem cd_put (h : cdL fl k) (v : Int32) : pV (mem A B G fl) k 0 2 (.int v) = some (mem A B (upA G k (upd (G k) 2 v)) fl) := pI_mem h.1 rfl v
end Cd
