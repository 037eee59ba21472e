/-! THE MEMORY OVER A FIXED LAYOUT: A the ints of arrays (id, place), B the longs, G the ints of fields (id, field), fl which makers are there (1 LevelMaker, 2 OrderMaker, 3 StepFinder) -/
abbrev Lay : Type := (Nat × Nat) ⊕ (Nat × List Nat)
/-- id by id: 0 or its maker's number; an array's kind and length, or an object's class and what each field is: 0 an int, r + 1 the id r, 1000 + d a maker -/
def layT : List (Nat × Lay) := [
  (0, .inr (6, [2, 3, 4, 5, 6, 7, 10, 14, 17, 20, 0, 0, 0, 0, 0, 1001, 1002, 1003])),
  (0, .inl (0, 4)),
  (0, .inl (0, 24)),
  (0, .inl (0, 24)),
  (0, .inl (0, 24)),
  (0, .inl (0, 24)),
  (0, .inr (2, [8, 9, 0, 0, 0])),
  (0, .inl (0, 200)),
  (0, .inl (0, 200)),
  (0, .inr (3, [11, 12, 13, 0, 0])),
  (0, .inl (1, 97)),
  (0, .inl (0, 97)),
  (0, .inl (0, 97)),
  (0, .inr (0, [15, 16, 0])),
  (0, .inl (1, 24)),
  (0, .inl (0, 24)),
  (0, .inr (0, [18, 19, 0])),
  (0, .inl (1, 24)),
  (0, .inl (0, 24)),
  (0, .inl (3, 8)),
  (0, .inr (0, [22, 23, 0])),
  (0, .inl (1, 24)),
  (0, .inl (0, 24)),
  (0, .inr (0, [25, 26, 0])),
  (0, .inl (1, 24)),
  (0, .inl (0, 24)),
  (0, .inr (0, [28, 29, 0])),
  (0, .inl (1, 24)),
  (0, .inl (0, 24)),
  (0, .inr (0, [31, 32, 0])),
  (0, .inl (1, 24)),
  (0, .inl (0, 24)),
  (0, .inr (0, [34, 35, 0])),
  (0, .inl (1, 24)),
  (0, .inl (0, 24)),
  (0, .inr (0, [37, 38, 0])),
  (0, .inl (1, 24)),
  (0, .inl (0, 24)),
  (0, .inr (0, [40, 41, 0])),
  (0, .inl (1, 24)),
  (0, .inl (0, 24)),
  (0, .inr (0, [43, 44, 0])),
  (0, .inl (1, 24)),
  (0, .inl (0, 24)),
  (0, .inr (7, [46, 0, 47, 0, 0, 0, 0, 48, 49, 50, 51, 52, 53, 54, 0, 0, 0, 55, 56, 57, 58, 0, 59, 0, 60, 0, 0, 61, 62, 63, 64, 65, 66, 0, 67, 68, 0, 0, 69, 70, 0, 71, 72, 73, 0, 74, 0, 75, 76, 77, 0, 78, 79, 0, 80, 81, 82])),
  (0, .inl (0, 4)),
  (0, .inl (0, 24)),
  (0, .inl (1, 24)),
  (0, .inl (0, 24)),
  (0, .inl (0, 24)),
  (0, .inl (0, 24)),
  (0, .inl (1, 216600)),
  (0, .inl (2, 216600)),
  (0, .inl (1, 25)),
  (0, .inl (0, 4)),
  (0, .inl (1, 400)),
  (0, .inl (0, 400)),
  (0, .inl (0, 400)),
  (0, .inl (0, 400)),
  (0, .inl (0, 24)),
  (0, .inl (1, 576)),
  (0, .inl (1, 150)),
  (0, .inl (0, 100)),
  (0, .inl (0, 100)),
  (0, .inl (1, 100)),
  (0, .inl (0, 100)),
  (0, .inl (1, 24)),
  (0, .inl (0, 24)),
  (0, .inl (1, 600)),
  (0, .inl (0, 600)),
  (0, .inl (0, 2400)),
  (0, .inl (0, 24)),
  (0, .inl (0, 200)),
  (0, .inl (0, 200)),
  (0, .inl (1, 18000)),
  (0, .inl (0, 2000)),
  (0, .inl (0, 2000)),
  (0, .inl (1, 9)),
  (0, .inl (0, 2000)),
  (0, .inl (1, 192)),
  (0, .inl (0, 192)),
  (0, .inl (0, 8)),
  (1, .inr (1, [84, 85, 86, 87, 88, 89, 90, 0, 0, 0, 0])),
  (1, .inl (1, 7200)),
  (1, .inl (0, 7200)),
  (1, .inl (1, 25)),
  (1, .inl (0, 24)),
  (1, .inl (0, 4)),
  (1, .inl (0, 4)),
  (1, .inr (3, [91, 92, 93, 0, 0])),
  (1, .inl (1, 97)),
  (1, .inl (0, 97)),
  (1, .inl (0, 97)),
  (2, .inr (4, [95, 96, 97, 98, 0])),
  (2, .inl (1, 576)),
  (2, .inl (1, 2880)),
  (2, .inl (1, 25)),
  (2, .inl (0, 4)),
  (3, .inr (5, [100, 101, 102, 103, 104, 105, 0, 0, 0, 0, 0])),
  (3, .inl (0, 2212)),
  (3, .inl (1, 18000)),
  (3, .inl (0, 2000)),
  (3, .inl (0, 2000)),
  (3, .inl (0, 4096)),
  (3, .inl (1, 9))]
def lay (fl : Nat → Bool) (k : Nat) : Option Lay := match layT[k]? with
  | some (d, L) => if d = 0 ∨ fl d = true then some L else none
  | none => none
def mkId (d : Nat) : Nat := match d with
  | 1 => 82
  | 2 => 93
  | _ => 98
def fv (v : Int32) (fl : Nat → Bool) (c : Nat) : Value := if c = 0 then .int v else if c < 1000 then .ref (c - 1) else if fl (c - 1000) = true then .ref (mkId (c - 1000)) else .null
def tv (g : Nat → Int32) (fl : Nat → Bool) : Nat → List Nat → List Value
  | _, [] => []
  | j, c :: t => fv (g j) fl c :: tv g fl (j + 1) t
def mem (A : Nat → Nat → Int32) (B : Nat → Nat → Int64) (G : Nat → Nat → Int32) (fl : Nat → Bool) : A_M := fun k => match lay fl k with
  | some (.inl (0, n)) => some (.inl (0, (n, .inl (A k))))
  | some (.inl (1, n)) => some (.inl (1, (n, .inr (.inl (B k)))))
  | some (.inl (2, n)) => some (.inl (2, (n, .inl (A k))))
  | some (.inl (_, n)) => some (.inl (3, (n, .inr (.inr (.inr (.inr (fun p => if p < 8 then some (20 + 3 * p) else none)))))))
  | some (.inr (ci, tpl)) => some (.inr (ci, tv (G k) fl 0 tpl))
  | none => none
/-- one place of one id -/
def up2 {α : Type} (F : Nat → Nat → α) (k j : Nat) (v : α) : Nat → Nat → α := fun a b => if a = k then (if b = j then v else F a b) else F a b
theorem up2_same {α : Type} (F : Nat → Nat → α) (k j : Nat) (v : α) : up2 F k j v k j = v := by simp [up2]
theorem up2_k {α : Type} (F : Nat → Nat → α) (k j : Nat) (v : α) {a : Nat} (h : a ≠ k) : up2 F k j v a = F a := by funext b; simp [up2, h]
theorem up2_j {α : Type} (F : Nat → Nat → α) (k j : Nat) (v : α) {b : Nat} (h : b ≠ j) (a : Nat) : up2 F k j v a b = F a b := by simp [up2, h]
/-- all of one id -/
def upA {α : Type} (F : Nat → α) (k : Nat) (f : α) : Nat → α := fun a => if a = k then f else F a
theorem upA_same {α : Type} (F : Nat → α) (k : Nat) (f : α) : upA F k f k = f := if_pos rfl
theorem upA_ne {α : Type} (F : Nat → α) (k : Nat) (f : α) {a : Nat} (h : a ≠ k) : upA F k f a = F a := if_neg h
section Mem
variable {A : Nat → Nat → Int32} {B : Nat → Nat → Int64} {G : Nat → Nat → Int32} {fl : Nat → Bool} {k n ci j : Nat} {tpl : List Nat}
theorem mem_I (h : lay fl k = some (.inl (0, n))) : mem A B G fl k = some (.inl (0, (n, .inl (A k)))) := by unfold mem; rw [h]; rfl
theorem mem_J (h : lay fl k = some (.inl (1, n))) : mem A B G fl k = some (.inl (1, (n, .inr (.inl (B k))))) := by unfold mem; rw [h]; rfl
theorem mem_Z (h : lay fl k = some (.inl (2, n))) : mem A B G fl k = some (.inl (2, (n, .inl (A k)))) := by unfold mem; rw [h]; rfl
theorem mem_O (h : lay fl k = some (.inr (ci, tpl))) : mem A B G fl k = some (.inr (ci, tv (G k) fl 0 tpl)) := by unfold mem; rw [h]
theorem mem_C : mem A B G fl 19 = some (.inl (3, (8, .inr (.inr (.inr (.inr (fun p => if p < 8 then some (20 + 3 * p) else none))))))) := rfl
theorem upM_I (h : lay fl k = some (.inl (0, n))) (f : Nat → Int32) : upM (mem A B G fl) k (.inl (0, (n, .inl f))) = mem (upA A k f) B G fl := by
  funext a
  by_cases e : a = k
  · rw [e, upM_eq, mem_I h, upA_same]
  · rw [upM_ne _ _ e]; unfold mem; rw [upA_ne A k f e]
theorem upM_Z (h : lay fl k = some (.inl (2, n))) (f : Nat → Int32) : upM (mem A B G fl) k (.inl (2, (n, .inl f))) = mem (upA A k f) B G fl := by
  funext a
  by_cases e : a = k
  · rw [e, upM_eq, mem_Z h, upA_same]
  · rw [upM_ne _ _ e]; unfold mem; rw [upA_ne A k f e]
theorem upM_J (h : lay fl k = some (.inl (1, n))) (f : Nat → Int64) : upM (mem A B G fl) k (.inl (1, (n, .inr (.inl f)))) = mem A (upA B k f) G fl := by
  funext a
  by_cases e : a = k
  · rw [e, upM_eq, mem_J h, upA_same]
  · rw [upM_ne _ _ e]; unfold mem; rw [upA_ne B k f e]
theorem upM_O (h : lay fl k = some (.inr (ci, tpl))) (g : Nat → Int32) : upM (mem A B G fl) k (.inr (ci, tv g fl 0 tpl)) = mem A B (upA G k g) fl := by
  funext a
  by_cases e : a = k
  · rw [e, upM_eq, mem_O h, upA_same]
  · rw [upM_ne _ _ e]; unfold mem; rw [upA_ne G k g e]
theorem tv_get (g : Nat → Int32) (fl : Nat → Bool) : ∀ (tpl : List Nat) (i j : Nat), (tv g fl i tpl)[j]? = (tpl[j]?).map (fv (g (i + j)) fl) := by
  intro tpl
  induction tpl with
  | nil => intro i j; rfl
  | cons c t ih =>
    intro i j
    cases j with
    | zero => rfl
    | succ j =>
      show (tv g fl (i + 1) t)[j]? = _
      rw [ih, show i + 1 + j = i + (j + 1) by omega]
      rfl
theorem tv_len (g : Nat → Int32) (fl : Nat → Bool) : ∀ (tpl : List Nat) (i : Nat), (tv g fl i tpl).length = tpl.length := by
  intro tpl
  induction tpl with
  | nil => intro i; rfl
  | cons c t ih => intro i; simp [tv, ih]
theorem tv_set (fl : Nat → Bool) (v : Int32) (tpl : List Nat) (j : Nat) (g : Nat → Int32) (h : tpl[j]? = some 0) : (tv g fl 0 tpl).set j (.int v) = tv (upd g j v) fl 0 tpl := by
  apply List.ext_getElem?
  intro b
  have hl : j < (tv g fl 0 tpl).length := by rw [tv_len]; exact (List.getElem?_eq_some_iff.mp h).1
  rw [tv_get]
  by_cases e : b = j
  · subst e
    rw [List.getElem?_set_self hl, h]
    show _ = some (fv _ fl 0)
    simp [fv, upd]
  · rw [List.getElem?_set_ne (fun q => e q.symm), tv_get]
    simp [upd, e]
theorem gV_mem (h : lay fl k = some (.inr (ci, tpl))) {c : Nat} (ht : tpl[j]? = some c) : gV (mem A B G fl) k ci j = some (fv (G k j) fl c) := by
  unfold gV
  rw [mem_O h]
  show (if ci = ci then _ else _) = _
  rw [if_pos rfl, tv_get, ht, Nat.zero_add]
  rfl
theorem gI_mem (h : lay fl k = some (.inr (ci, tpl))) (ht : tpl[j]? = some 0) : gI (mem A B G fl) k ci j = some (G k j) := by
  unfold gI
  rw [gV_mem h ht]
  rfl
theorem gR_mem (h : lay fl k = some (.inr (ci, tpl))) {r : Nat} (hr : r + 1 < 1000) (ht : tpl[j]? = some (r + 1)) : gR (mem A B G fl) k ci j = some r := by
  unfold gR
  rw [gV_mem h ht]
  simp [fv, hr]
theorem gM_mem (h : lay fl k = some (.inr (ci, tpl))) {d : Nat} (ht : tpl[j]? = some (1000 + d)) (hf : fl d = true) : gR (mem A B G fl) k ci j = some (mkId d) := by
  unfold gR
  rw [gV_mem h ht]
  have h1 : ¬ 1000 + d = 0 := by omega
  have h2 : ¬ 1000 + d < 1000 := by omega
  simp [fv, h1, h2, show 1000 + d - 1000 = d by omega, hf]
theorem gZ_mem (h : lay fl k = some (.inr (ci, tpl))) {d : Nat} (ht : tpl[j]? = some (1000 + d)) (hf : fl d = false) : gZ (mem A B G fl) k ci j = some () := by
  unfold gZ
  rw [gV_mem h ht]
  have h1 : ¬ 1000 + d = 0 := by omega
  have h2 : ¬ 1000 + d < 1000 := by omega
  simp [fv, h1, h2, show 1000 + d - 1000 = d by omega, hf]
theorem gN_mem (h : lay fl k = some (.inr (ci, tpl))) {d : Nat} (ht : tpl[j]? = some (1000 + d)) : gN (mem A B G fl) k ci j = some (if fl d = true then some (mkId d) else none) := by
  unfold gN
  rw [gV_mem h ht]
  have h1 : ¬ 1000 + d = 0 := by omega
  have h2 : ¬ 1000 + d < 1000 := by omega
  by_cases hf : fl d = true
  · simp [fv, h1, h2, show 1000 + d - 1000 = d by omega, hf]
  · simp [fv, h1, h2, show 1000 + d - 1000 = d by omega, hf]
theorem pI_mem (h : lay fl k = some (.inr (ci, tpl))) (ht : tpl[j]? = some 0) (v : Int32) : pV (mem A B G fl) k ci j (.int v) = some (mem A B (upA G k (upd (G k) j v)) fl) := by
  unfold pV
  rw [mem_O h]
  show (if ci = ci ∧ _ then _ else _) = _
  rw [if_pos ⟨rfl, by rw [tv_len]; exact (List.getElem?_eq_some_iff.mp ht).1⟩, tv_set fl v tpl j (G k) ht, upM_O h]
theorem chk_mem (h : lay fl k = some (.inr (ci, tpl))) : chk (mem A B G fl) k ci = some () := by
  unfold chk
  rw [mem_O h]
  exact if_pos rfl
theorem ldI_mem (h : lay fl k = some (.inl (0, n))) {i : Int32} (hi : vp_in i n) : ldI (mem A B G fl) k i = some (A k i.toNatClampNeg) := by
  unfold ldI
  rw [mem_I h]
  exact if_neg hi
theorem ldJ_mem (h : lay fl k = some (.inl (1, n))) {i : Int32} (hi : vp_in i n) : ldJ (mem A B G fl) k i = some (B k i.toNatClampNeg) := by
  unfold ldJ
  rw [mem_J h]
  exact if_neg hi
theorem ldZ_mem (h : lay fl k = some (.inl (2, n))) {i : Int32} (hi : vp_in i n) : ldZ (mem A B G fl) k i = some (A k i.toNatClampNeg) := by
  unfold ldZ
  rw [mem_Z h]
  exact if_neg hi
theorem ldA_mem {i : Int32} (hi : vp_in i 8) : ldA (mem A B G fl) 19 i = some (20 + 3 * i.toNatClampNeg) := by
  unfold ldA
  rw [mem_C]
  show (if _ then none else _) = _
  have hlt : i.toNatClampNeg < 8 := Nat.not_le.mp fun q => hi (Or.inr q)
  rw [if_neg hi]
  exact if_pos hlt
theorem stI_mem (h : lay fl k = some (.inl (0, n))) {i : Int32} (hi : vp_in i n) (x : Int32) : stI (mem A B G fl) k i x = some (mem (upA A k (upd (A k) i.toNatClampNeg x)) B G fl) := by
  unfold stI
  rw [mem_I h]
  show (if _ then none else _) = _
  rw [if_neg hi, upM_I h]
theorem stJ_mem (h : lay fl k = some (.inl (1, n))) {i : Int32} (hi : vp_in i n) (x : Int64) : stJ (mem A B G fl) k i x = some (mem A (upA B k (vp_updL (B k) i.toNatClampNeg x)) G fl) := by
  unfold stJ
  rw [mem_J h]
  show (if _ then none else _) = _
  rw [if_neg hi, upM_J h]
theorem stZ_mem (h : lay fl k = some (.inl (2, n))) {i : Int32} (hi : vp_in i n) (x : Int32) : stZ (mem A B G fl) k i x = some (mem (upA A k (upd (A k) i.toNatClampNeg (vp_nar .boolean x))) B G fl) := by
  unfold stZ
  rw [mem_Z h]
  show (if _ then none else _) = _
  rw [if_neg hi, upM_Z h]
theorem lenI_mem (h : lay fl k = some (.inl (0, n))) : lenI (mem A B G fl) k = some (nI n) := by
  unfold lenI
  rw [mem_I h]
  rfl
theorem lenJ_mem (h : lay fl k = some (.inl (1, n))) : lenJ (mem A B G fl) k = some (nI n) := by
  unfold lenJ
  rw [mem_J h]
  rfl
theorem cpI_mem {a b n0 n1 : Nat} (ha : lay fl a = some (.inl (0, n0))) (hb : lay fl b = some (.inl (0, n1))) {sp dp c : Nat} (h0 : sp + c ≤ n0) (h1 : dp + c ≤ n1) (z0 : n0 < 2 ^ 31) (z1 : n1 < 2 ^ 31) : cpI (mem A B G fl) a (nI sp) b (nI dp) (nI c) = some (mem (upA A b (va_cpy (A a) (A b) sp dp c)) B G fl) := by
  unfold cpI
  rw [mem_I ha, mem_I hb]
  show (if _ then none else _) = _
  rw [nI_clamp (show sp < 2 ^ 31 by omega), nI_clamp (show dp < 2 ^ 31 by omega), nI_clamp (show c < 2 ^ 31 by omega), if_neg, upM_I hb]
  rintro (h | h | h | h | h)
  · exact nI_pos (by omega) h
  · exact nI_pos (by omega) h
  · exact nI_pos (by omega) h
  · omega
  · omega
theorem cpJ_mem {a b n0 n1 : Nat} (ha : lay fl a = some (.inl (1, n0))) (hb : lay fl b = some (.inl (1, n1))) {sp dp c : Nat} (h0 : sp + c ≤ n0) (h1 : dp + c ≤ n1) (z0 : n0 < 2 ^ 31) (z1 : n1 < 2 ^ 31) : cpJ (mem A B G fl) a (nI sp) b (nI dp) (nI c) = some (mem A (upA B b (va_cpy (B a) (B b) sp dp c)) G fl) := by
  unfold cpJ
  rw [mem_J ha, mem_J hb]
  show (if _ then none else _) = _
  rw [nI_clamp (show sp < 2 ^ 31 by omega), nI_clamp (show dp < 2 ^ 31 by omega), nI_clamp (show c < 2 ^ 31 by omega), if_neg, upM_J hb]
  rintro (h | h | h | h | h)
  · exact nI_pos (by omega) h
  · exact nI_pos (by omega) h
  · exact nI_pos (by omega) h
  · omega
  · omega
/-- by a place that is a number -/
theorem ldI_n (h : lay fl k = some (.inl (0, n))) {i : Nat} (hi : i < n) (hn : n < 2 ^ 31) : ldI (mem A B G fl) k (nI i) = some (A k i) := by rw [ldI_mem h (vp_in_nI hi hn), nI_clamp (by omega)]
theorem ldJ_n (h : lay fl k = some (.inl (1, n))) {i : Nat} (hi : i < n) (hn : n < 2 ^ 31) : ldJ (mem A B G fl) k (nI i) = some (B k i) := by rw [ldJ_mem h (vp_in_nI hi hn), nI_clamp (by omega)]
theorem ldZ_n (h : lay fl k = some (.inl (2, n))) {i : Nat} (hi : i < n) (hn : n < 2 ^ 31) : ldZ (mem A B G fl) k (nI i) = some (A k i) := by rw [ldZ_mem h (vp_in_nI hi hn), nI_clamp (by omega)]
theorem stI_n (h : lay fl k = some (.inl (0, n))) {i : Nat} (hi : i < n) (hn : n < 2 ^ 31) (x : Int32) : stI (mem A B G fl) k (nI i) x = some (mem (upA A k (upd (A k) i x)) B G fl) := by rw [stI_mem h (vp_in_nI hi hn), nI_clamp (by omega)]
theorem stJ_n (h : lay fl k = some (.inl (1, n))) {i : Nat} (hi : i < n) (hn : n < 2 ^ 31) (x : Int64) : stJ (mem A B G fl) k (nI i) x = some (mem A (upA B k (vp_updL (B k) i x)) G fl) := by rw [stJ_mem h (vp_in_nI hi hn), nI_clamp (by omega)]
theorem stZ_n (h : lay fl k = some (.inl (2, n))) {i : Nat} (hi : i < n) (hn : n < 2 ^ 31) (x : Int32) : stZ (mem A B G fl) k (nI i) x = some (mem (upA A k (upd (A k) i (vp_nar .boolean x))) B G fl) := by rw [stZ_mem h (vp_in_nI hi hn), nI_clamp (by omega)]
theorem ldA_n {i : Nat} (hi : i < 8) : ldA (mem A B G fl) 19 (nI i) = some (20 + 3 * i) := by rw [ldA_mem (vp_in_nI hi (by omega)), nI_clamp (by omega)]
end Mem
