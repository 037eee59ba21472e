/-! the LevelMaker is made -/
theorem ok1 : ∀ k, k < 105 → k ≠ 0 → (k < 82 ∨ 92 < k) → okE 1 (layT[k]?) = true := by decide +kernel
def gInit1 (G : Nat → Nat → Int32) : Nat → Nat → Int32 := fun k => if k = 82 ∨ k = 89 then (fun _ => 0) else G k
def aInit1 (A : Nat → Nat → Int32) : Nat → Nat → Int32 := fun k => if k = 84 ∨ k = 86 ∨ k = 87 ∨ k = 88 ∨ k = 91 ∨ k = 92 then (fun _ => 0) else A k
def bInit1 (B : Nat → Nat → Int64) : Nat → Nat → Int64 := fun k => if k = 83 ∨ k = 85 ∨ k = 90 then (fun _ => 0) else B k
theorem s_init1 {A : Nat → Nat → Int32} {B : Nat → Nat → Int64} {G : Nat → Nat → Int32} {fl : Nat → Bool} {N : Nat} (hf : fl 1 = false) :
    alM (mem A B G fl) 82 (.inr (1, [.null, .null, .null, .null, .null, .null, .null, .int 0, .int 0, .int 0, .int 0])) = some (upM (mem A B G fl) 82 (.inr (1, [.null, .null, .null, .null, .null, .null, .null, .int 0, .int 0, .int 0, .int 0]))) ∧
    ∃ M35, f_X1_init N 83 82 (upM (mem A B G fl) 82 (.inr (1, [.null, .null, .null, .null, .null, .null, .null, .int 0, .int 0, .int 0, .int 0]))) = some M35 ∧ pV M35 0 6 15 (.ref 82) = some (mem (aInit1 A) (bInit1 B) (gInit1 G) (flN fl 1)) := by
  have n82 : mem A B G fl 82 = none := mem_none (d := 1) rfl (by decide) hf
  have n83 : mem A B G fl 83 = none := mem_none (d := 1) rfl (by decide) hf
  have n84 : mem A B G fl 84 = none := mem_none (d := 1) rfl (by decide) hf
  have n85 : mem A B G fl 85 = none := mem_none (d := 1) rfl (by decide) hf
  have n86 : mem A B G fl 86 = none := mem_none (d := 1) rfl (by decide) hf
  have n87 : mem A B G fl 87 = none := mem_none (d := 1) rfl (by decide) hf
  have n88 : mem A B G fl 88 = none := mem_none (d := 1) rfl (by decide) hf
  have n89 : mem A B G fl 89 = none := mem_none (d := 1) rfl (by decide) hf
  have n90 : mem A B G fl 90 = none := mem_none (d := 1) rfl (by decide) hf
  have n91 : mem A B G fl 91 = none := mem_none (d := 1) rfl (by decide) hf
  have n92 : mem A B G fl 92 = none := mem_none (d := 1) rfl (by decide) hf
  have n0 : mem A B G fl 0 = some (.inr (6, tv (G 0) fl 0 [2, 3, 4, 5, 6, 7, 10, 14, 17, 20, 0, 0, 0, 0, 0, 1001, 1002, 1003])) := mem_O (ly0 fl)
  generalize hM : mem A B G fl = M at n82 n83 n84 n85 n86 n87 n88 n89 n90 n91 n92 n0
  refine ⟨alM_do n82, ?_⟩
  unfold f_X1_init f_X3_init
  rw [alM_do (by rw [upM_ne _ _ (by decide)]; exact n83), sb]
  rw [pV_do (fs := [.null, .null, .null, .null, .null, .null, .null, .int 0, .int 0, .int 0, .int 0]) (by rw [upM_ne _ _ (by decide), upM_eq]) (by decide), sb]
  rw [alM_do (by rw [upM_ne _ _ (by decide), upM_ne _ _ (by decide), upM_ne _ _ (by decide)]; exact n84), sb]
  rw [pV_do (by rw [upM_ne _ _ (by decide), upM_eq]) (by decide), sb]
  rw [alM_do (by rw [upM_ne _ _ (by decide), upM_ne _ _ (by decide), upM_ne _ _ (by decide), upM_ne _ _ (by decide), upM_ne _ _ (by decide)]; exact n85), sb]
  rw [pV_do (by rw [upM_ne _ _ (by decide), upM_eq]) (by decide), sb]
  rw [alM_do (by rw [upM_ne _ _ (by decide), upM_ne _ _ (by decide), upM_ne _ _ (by decide), upM_ne _ _ (by decide), upM_ne _ _ (by decide), upM_ne _ _ (by decide), upM_ne _ _ (by decide)]; exact n86), sb]
  rw [pV_do (by rw [upM_ne _ _ (by decide), upM_eq]) (by decide), sb]
  rw [alM_do (by rw [upM_ne _ _ (by decide), upM_ne _ _ (by decide), upM_ne _ _ (by decide), upM_ne _ _ (by decide), upM_ne _ _ (by decide), upM_ne _ _ (by decide), upM_ne _ _ (by decide), upM_ne _ _ (by decide), upM_ne _ _ (by decide)]; exact n87), sb]
  rw [pV_do (by rw [upM_ne _ _ (by decide), upM_eq]) (by decide), sb]
  rw [alM_do (by rw [upM_ne _ _ (by decide), upM_ne _ _ (by decide), upM_ne _ _ (by decide), upM_ne _ _ (by decide), upM_ne _ _ (by decide), upM_ne _ _ (by decide), upM_ne _ _ (by decide), upM_ne _ _ (by decide), upM_ne _ _ (by decide), upM_ne _ _ (by decide), upM_ne _ _ (by decide)]; exact n88), sb]
  rw [pV_do (by rw [upM_ne _ _ (by decide), upM_eq]) (by decide), sb]
  rw [alM_do (by rw [upM_ne _ _ (by decide), upM_ne _ _ (by decide), upM_ne _ _ (by decide), upM_ne _ _ (by decide), upM_ne _ _ (by decide), upM_ne _ _ (by decide), upM_ne _ _ (by decide), upM_ne _ _ (by decide), upM_ne _ _ (by decide), upM_ne _ _ (by decide), upM_ne _ _ (by decide), upM_ne _ _ (by decide), upM_ne _ _ (by decide)]; exact n89), sb]
  rw [alM_do (by rw [upM_ne _ _ (by decide), upM_ne _ _ (by decide), upM_ne _ _ (by decide), upM_ne _ _ (by decide), upM_ne _ _ (by decide), upM_ne _ _ (by decide), upM_ne _ _ (by decide), upM_ne _ _ (by decide), upM_ne _ _ (by decide), upM_ne _ _ (by decide), upM_ne _ _ (by decide), upM_ne _ _ (by decide), upM_ne _ _ (by decide), upM_ne _ _ (by decide)]; exact n90), sb]
  rw [pV_do (fs := [.null, .null, .null, .int 0, .int 0]) (by rw [upM_ne _ _ (by decide), upM_eq]) (by decide), sb]
  rw [alM_do (by rw [upM_ne _ _ (by decide), upM_ne _ _ (by decide), upM_ne _ _ (by decide), upM_ne _ _ (by decide), upM_ne _ _ (by decide), upM_ne _ _ (by decide), upM_ne _ _ (by decide), upM_ne _ _ (by decide), upM_ne _ _ (by decide), upM_ne _ _ (by decide), upM_ne _ _ (by decide), upM_ne _ _ (by decide), upM_ne _ _ (by decide), upM_ne _ _ (by decide), upM_ne _ _ (by decide), upM_ne _ _ (by decide)]; exact n91), sb]
  rw [pV_do (by rw [upM_ne _ _ (by decide), upM_eq]) (by decide), sb]
  rw [alM_do (by rw [upM_ne _ _ (by decide), upM_ne _ _ (by decide), upM_ne _ _ (by decide), upM_ne _ _ (by decide), upM_ne _ _ (by decide), upM_ne _ _ (by decide), upM_ne _ _ (by decide), upM_ne _ _ (by decide), upM_ne _ _ (by decide), upM_ne _ _ (by decide), upM_ne _ _ (by decide), upM_ne _ _ (by decide), upM_ne _ _ (by decide), upM_ne _ _ (by decide), upM_ne _ _ (by decide), upM_ne _ _ (by decide), upM_ne _ _ (by decide), upM_ne _ _ (by decide)]; exact n92), sb]
  rw [pV_do (by rw [upM_ne _ _ (by decide), upM_eq]) (by decide), sb]
  rw [sb]
  rw [pV_do (by rw [upM_ne _ _ (by decide), upM_ne _ _ (by decide), upM_ne _ _ (by decide), upM_ne _ _ (by decide), upM_ne _ _ (by decide), upM_ne _ _ (by decide), upM_ne _ _ (by decide), upM_eq]) (by decide), sb]
  refine ⟨_, rfl, ?_⟩
  rw [pV_do (by rw [upM_ne _ _ (by decide), upM_ne _ _ (by decide), upM_ne _ _ (by decide), upM_ne _ _ (by decide), upM_ne _ _ (by decide), upM_ne _ _ (by decide), upM_ne _ _ (by decide), upM_ne _ _ (by decide), upM_ne _ _ (by decide), upM_ne _ _ (by decide), upM_ne _ _ (by decide), upM_ne _ _ (by decide), upM_ne _ _ (by decide), upM_ne _ _ (by decide), upM_ne _ _ (by decide), upM_ne _ _ (by decide), upM_ne _ _ (by decide), upM_ne _ _ (by decide), upM_ne _ _ (by decide), upM_ne _ _ (by decide), upM_ne _ _ (by decide)]; exact n0) (by rw [tv_len]; decide)]
  congr 1
  have f1 : flN fl 1 1 = true := if_pos rfl
  funext k
  by_cases k0 : k = 0
  · subst k0
    rw [upM_eq, mem_O (ly0 (flN fl 1))]
    rfl
  rw [upM_ne _ _ k0]
  by_cases k82 : k = 82
  · subst k82
    rw [upM_eq, mem_O (ly82 f1)]
    rfl
  rw [upM_ne _ _ k82]
  by_cases k89 : k = 89
  · subst k89
    rw [upM_eq, mem_O (ly89 f1)]
    rfl
  rw [upM_ne _ _ k89]
  by_cases k92 : k = 92
  · subst k92
    rw [upM_eq, mem_I (ly92 f1)]
    rfl
  rw [upM_ne _ _ k92]
  rw [upM_ne _ _ k89]
  by_cases k91 : k = 91
  · subst k91
    rw [upM_eq, mem_I (ly91 f1)]
    rfl
  rw [upM_ne _ _ k91]
  rw [upM_ne _ _ k89]
  by_cases k90 : k = 90
  · subst k90
    rw [upM_eq, mem_J (ly90 f1)]
    rfl
  rw [upM_ne _ _ k90]
  rw [upM_ne _ _ k89]
  rw [upM_ne _ _ k82]
  by_cases k88 : k = 88
  · subst k88
    rw [upM_eq, mem_I (ly88 f1)]
    rfl
  rw [upM_ne _ _ k88]
  rw [upM_ne _ _ k82]
  by_cases k87 : k = 87
  · subst k87
    rw [upM_eq, mem_I (ly87 f1)]
    rfl
  rw [upM_ne _ _ k87]
  rw [upM_ne _ _ k82]
  by_cases k86 : k = 86
  · subst k86
    rw [upM_eq, mem_I (ly86 f1)]
    rfl
  rw [upM_ne _ _ k86]
  rw [upM_ne _ _ k82]
  by_cases k85 : k = 85
  · subst k85
    rw [upM_eq, mem_J (ly85 f1)]
    rfl
  rw [upM_ne _ _ k85]
  rw [upM_ne _ _ k82]
  by_cases k84 : k = 84
  · subst k84
    rw [upM_eq, mem_I (ly84 f1)]
    rfl
  rw [upM_ne _ _ k84]
  rw [upM_ne _ _ k82]
  by_cases k83 : k = 83
  · subst k83
    rw [upM_eq, mem_J (ly83 f1)]
    rfl
  rw [upM_ne _ _ k83]
  rw [upM_ne _ _ k82]
  rw [← hM]
  refine (mem_other ?_ ?_ ?_ ?_).symm
  · by_cases hk : k < 105
    · exact ok1 k hk k0 (by omega)
    · rw [List.getElem?_eq_none (by rw [layT_len]; omega)]
      rfl
  · exact if_neg (by omega)
  · exact if_neg (by omega)
  · exact if_neg (by omega)
