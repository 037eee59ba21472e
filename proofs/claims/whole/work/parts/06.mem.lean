/-! MEMORY: what fields and arrays hold, and the rules of J that read and write them. -/
def gV (M : A_M) (a ci k : Nat) : Option Value := match M a with
  | some (.inr (c, fs)) => if c = ci then fs[k]? else none
  | _ => none
def gI (M : A_M) (a ci k : Nat) : Option Int32 := match gV M a ci k with
  | some (.int v) => some v
  | _ => none
def gR (M : A_M) (a ci k : Nat) : Option Nat := match gV M a ci k with
  | some (.ref v) => some v
  | _ => none
/-- a field that may be null -/
def gN (M : A_M) (a ci k : Nat) : Option (Option Nat) := match gV M a ci k with
  | some (.ref v) => some (some v)
  | some .null => some none
  | _ => none
def pV (M : A_M) (a ci k : Nat) (v : Value) : Option A_M := match M a with
  | some (.inr (c, fs)) => if c = ci ∧ k < fs.length then some (upM M a (.inr (c, fs.set k v))) else none
  | _ => none
def ldI (M : A_M) (a : Nat) (i : Int32) : Option Int32 := match M a with
  | some (.inl (0, (n, .inl f))) => if i < 0 ∨ n ≤ i.toNatClampNeg then none else some (f i.toNatClampNeg)
  | _ => none
def ldJ (M : A_M) (a : Nat) (i : Int32) : Option Int64 := match M a with
  | some (.inl (1, (n, .inr (.inl f)))) => if i < 0 ∨ n ≤ i.toNatClampNeg then none else some (f i.toNatClampNeg)
  | _ => none
def ldZ (M : A_M) (a : Nat) (i : Int32) : Option Int32 := match M a with
  | some (.inl (2, (n, .inl f))) => if i < 0 ∨ n ≤ i.toNatClampNeg then none else some (f i.toNatClampNeg)
  | _ => none
def ldA (M : A_M) (a : Nat) (i : Int32) : Option Nat := match M a with
  | some (.inl (3, (n, .inr (.inr (.inr (.inr f)))))) => if i < 0 ∨ n ≤ i.toNatClampNeg then none else f i.toNatClampNeg
  | _ => none
def stI (M : A_M) (a : Nat) (i x : Int32) : Option A_M := match M a with
  | some (.inl (0, (n, .inl f))) => if i < 0 ∨ n ≤ i.toNatClampNeg then none else some (upM M a (.inl (0, (n, .inl (upd f i.toNatClampNeg x)))))
  | _ => none
def stJ (M : A_M) (a : Nat) (i : Int32) (x : Int64) : Option A_M := match M a with
  | some (.inl (1, (n, .inr (.inl f)))) => if i < 0 ∨ n ≤ i.toNatClampNeg then none else some (upM M a (.inl (1, (n, .inr (.inl (vp_updL f i.toNatClampNeg x))))))
  | _ => none
def stZ (M : A_M) (a : Nat) (i x : Int32) : Option A_M := match M a with
  | some (.inl (2, (n, .inl f))) => if i < 0 ∨ n ≤ i.toNatClampNeg then none else some (upM M a (.inl (2, (n, .inl (upd f i.toNatClampNeg (vp_nar .boolean x))))))
  | _ => none
def lenI (M : A_M) (a : Nat) : Option Int32 := match M a with
  | some (.inl (0, (n, _))) => some (Int32.ofNat n)
  | _ => none
def lenJ (M : A_M) (a : Nat) : Option Int32 := match M a with
  | some (.inl (1, (n, _))) => some (Int32.ofNat n)
  | _ => none
theorem gV_some {M : A_M} {a ci k : Nat} {v : Value} (h : gV M a ci k = some v) : ∃ fs, M a = some (.inr (ci, fs)) ∧ fs[k]? = some v := by
  unfold gV at h
  split at h
  · split at h
    · rename_i fs e1 e2
      exact ⟨fs, by rw [e1, e2], h⟩
    · cases h
  · cases h
theorem gI_some {M : A_M} {a ci k : Nat} {v : Int32} (h : gI M a ci k = some v) : gV M a ci k = some (.int v) := by
  unfold gI at h
  split at h
  · rename_i e; rw [e]; cases h; rfl
  · cases h
theorem gR_some {M : A_M} {a ci k : Nat} {v : Nat} (h : gR M a ci k = some v) : gV M a ci k = some (.ref v) := by
  unfold gR at h
  split at h
  · rename_i e; rw [e]; cases h; rfl
  · cases h
theorem gN_some {M : A_M} {a ci k : Nat} {v : Nat} (h : gN M a ci k = some (some v)) : gV M a ci k = some (.ref v) := by
  unfold gN at h
  split at h
  · rename_i e; rw [e]; cases h; rfl
  · cases h
  · cases h
theorem gN_null {M : A_M} {a ci k : Nat} (h : gN M a ci k = some none) : gV M a ci k = some .null := by
  unfold gN at h
  split at h
  · cases h
  · rename_i e; rw [e]
  · cases h
theorem pV_some {M M1 : A_M} {a ci k : Nat} {v : Value} (h : pV M a ci k v = some M1) : ∃ fs, M a = some (.inr (ci, fs)) ∧ k < fs.length ∧ M1 = upM M a (.inr (ci, fs.set k v)) := by
  unfold pV at h
  split at h
  · split at h
    · rename_i fs e1 e2
      obtain ⟨rfl, e3⟩ := e2
      exact ⟨fs, e1, e3, (Option.some.inj h).symm⟩
    · cases h
  · cases h
theorem ldI_some {M : A_M} {a : Nat} {i v : Int32} (h : ldI M a i = some v) : ∃ n f, M a = some (.inl (0, (n, .inl f))) ∧ vp_in i n ∧ v = f i.toNatClampNeg := by
  unfold ldI at h
  split at h
  · split at h
    · cases h
    · rename_i n f e1 e2
      exact ⟨n, f, e1, e2, (Option.some.inj h).symm⟩
  · cases h
theorem ldJ_some {M : A_M} {a : Nat} {i : Int32} {v : Int64} (h : ldJ M a i = some v) : ∃ n f, M a = some (.inl (1, (n, .inr (.inl f)))) ∧ vp_in i n ∧ v = f i.toNatClampNeg := by
  unfold ldJ at h
  split at h
  · split at h
    · cases h
    · rename_i n f e1 e2
      exact ⟨n, f, e1, e2, (Option.some.inj h).symm⟩
  · cases h
theorem ldZ_some {M : A_M} {a : Nat} {i v : Int32} (h : ldZ M a i = some v) : ∃ n f, M a = some (.inl (2, (n, .inl f))) ∧ vp_in i n ∧ v = f i.toNatClampNeg := by
  unfold ldZ at h
  split at h
  · split at h
    · cases h
    · rename_i n f e1 e2
      exact ⟨n, f, e1, e2, (Option.some.inj h).symm⟩
  · cases h
theorem ldA_some {M : A_M} {a : Nat} {i : Int32} {v : Nat} (h : ldA M a i = some v) : ∃ n f, M a = some (.inl (3, (n, .inr (.inr (.inr (.inr f)))))) ∧ vp_in i n ∧ f i.toNatClampNeg = some v := by
  unfold ldA at h
  split at h
  · split at h
    · cases h
    · rename_i n f e1 e2
      exact ⟨n, f, e1, e2, h⟩
  · cases h
theorem stI_some {M M1 : A_M} {a : Nat} {i x : Int32} (h : stI M a i x = some M1) : ∃ n f, M a = some (.inl (0, (n, .inl f))) ∧ vp_in i n ∧ M1 = upM M a (.inl (0, (n, .inl (upd f i.toNatClampNeg x)))) := by
  unfold stI at h
  split at h
  · split at h
    · cases h
    · rename_i n f e1 e2
      exact ⟨n, f, e1, e2, (Option.some.inj h).symm⟩
  · cases h
theorem stJ_some {M M1 : A_M} {a : Nat} {i : Int32} {x : Int64} (h : stJ M a i x = some M1) : ∃ n f, M a = some (.inl (1, (n, .inr (.inl f)))) ∧ vp_in i n ∧ M1 = upM M a (.inl (1, (n, .inr (.inl (vp_updL f i.toNatClampNeg x))))) := by
  unfold stJ at h
  split at h
  · split at h
    · cases h
    · rename_i n f e1 e2
      exact ⟨n, f, e1, e2, (Option.some.inj h).symm⟩
  · cases h
theorem stZ_some {M M1 : A_M} {a : Nat} {i x : Int32} (h : stZ M a i x = some M1) : ∃ n f, M a = some (.inl (2, (n, .inl f))) ∧ vp_in i n ∧ M1 = upM M a (.inl (2, (n, .inl (upd f i.toNatClampNeg (vp_nar .boolean x))))) := by
  unfold stZ at h
  split at h
  · split at h
    · cases h
    · rename_i n f e1 e2
      exact ⟨n, f, e1, e2, (Option.some.inj h).symm⟩
  · cases h
theorem lenI_some {M : A_M} {a : Nat} {v : Int32} (h : lenI M a = some v) : ∃ x, M a = some (.inl (0, x)) ∧ Int32.ofNat x.1 = v := by
  unfold lenI at h
  split at h
  · rename_i n x e
    exact ⟨_, e, Option.some.inj h⟩
  · cases h
theorem lenJ_some {M : A_M} {a : Nat} {v : Int32} (h : lenJ M a = some v) : ∃ x, M a = some (.inl (1, x)) ∧ Int32.ofNat x.1 = v := by
  unfold lenJ at h
  split at h
  · rename_i n x e
    exact ⟨_, e, Option.some.inj h⟩
  · cases h
/-- one cell of the memory is written anew -/
theorem Rel.set {D : va_G} {cK : Nat → ClassId} {sz0 : Nat} {ρ : Nat → Nat} {M : A_M} {H1 : Heap} {ws : va_W} {q a : Nat} {c' : A_C} {e0 : va_E} (hcov : ∀ k c, M k = some c → ∃ q : Nat, ws[q]? = some (ρ k, rc cK ρ c)) (hinj : ∀ j k, M j ≠ none → M k ≠ none → ρ j = ρ k → j = k) (hcl : ∀ k c, M k = some c → okc M c)
    (hq : ws[q]? = some (ρ a, e0)) (ha : M a ≠ none) (hc : okc M c') (hP : va_P D vwCl (ws.set q (ρ a, rc cK ρ c')) H1) (hD : va_D (fun q => sz0 ≤ q) (ws.set q (ρ a, rc cK ρ c'))) (hz : sz0 ≤ H1.size) : Rel D cK sz0 ρ (upM M a c') H1 := by
  have hdom : ∀ k, upM M a c' k ≠ none → M k ≠ none := by
    intro k hk
    by_cases e : k = a
    · rw [e]; exact ha
    · rw [upM_ne M c' e] at hk; exact hk
  refine ⟨⟨_, hP, hD, fun k c hk => ?_⟩, fun j k hj hk => hinj j k (hdom j hj) (hdom k hk), fun k c hk => ?_, hz⟩
  · by_cases e : k = a
    · subst e
      rw [upM_eq] at hk
      cases hk
      exact ⟨q, by rw [List.getElem?_set_self (List.getElem?_eq_some_iff.mp hq).1]⟩
    · rw [upM_ne M c' e] at hk
      obtain ⟨q2, h2⟩ := hcov k c hk
      have hne : q ≠ q2 := by
        intro e2
        rw [← e2, hq] at h2
        have h3 : ρ a = ρ k := congrArg Prod.fst (Option.some.inj h2)
        exact e (hinj k a (by rw [hk]; exact Option.some_ne_none _) ha h3.symm)
      exact ⟨q2, by rw [List.getElem?_set_ne hne]; exact h2⟩
  · by_cases e : k = a
    · subst e
      rw [upM_eq] at hk
      cases hk
      exact okc_mono (fun _ h => upM_dom h) hc
    · rw [upM_ne M c' e] at hk
      exact okc_mono (fun _ h => upM_dom h) (hcl k c hk)
section Mm
variable {X : JX} {cc : ByteArray} {own : String} {nL : Nat} {ret : Option FieldType} {F Lo pc pc' : Nat} {lv lv' : List (Nat × Value)} {st : List Value} {M M1 M' : A_M} {cs sl : Nat} {r : Option Value}
theorem J_get (C : Cx X cc own nL ret F Lo) {Cn : String} {T : u_T} {N idx a : Nat} {v : Value} (ci k : Nat) (hc : vwCl[ci]? = some (Cn, T, N)) (hk : k < N) (hin : ∀ w ∈ u_ws Cn T N, w ∈ lw_all) (hw : Cond.fieldLink own idx (T k).1 (T k).2.1 (T k).2.2.1 ∈ lw_all) (hd : decode cc pc = .ok (.getfield idx, 3)) (hp : pc + 3 = pc') (hv : gV M a ci k = some v) (kk : J X nL pc' lv (v :: st) M cs sl r M') : J X nL pc lv (.ref a :: st) M cs sl r M' := by
  subst hp
  intro ρ H locs LS a1 a2 a3 a4 a5 a6 a7
  obtain ⟨fs, h1, h2⟩ := gV_some hv
  obtain ⟨⟨ws, hP, hD, hcov⟩, hinj, hcl, hz⟩ := id a3
  obtain ⟨q, hq⟩ := hcov a _ h1
  refine va_get C.hx C.hb C.hts hin C.hown C.hK.1 hP q (fs := fs.map (rv ρ)) hq hc k hk (C.hts _ hw) (fun _ h => h) (v := rv ρ v) (by rw [List.getElem?_map, h2]; rfl) hd ?_
  exact kk ρ H locs LS a1 a2 a3 a4 a5 a6 (okl_c (fun x e => hcl a _ h1 x (by rw [← e]; exact List.mem_of_getElem? h2)) (okl_t a7))
theorem okl_set {fs : List Value} {k : Nat} {v : Value} (h : okl M fs) (hv : ∀ x, v = .ref x → M x ≠ none) : okl M (fs.set k v) := fun x hx => by
  rcases List.mem_or_eq_of_mem_set hx with e | e
  · exact h x e
  · exact hv x e.symm
theorem J_put (C : Cx X cc own nL ret F Lo) {Cn : String} {T : u_T} {N idx a : Nat} {v : Value} {ty : FieldType} (ci k : Nat) (hc : vwCl[ci]? = some (Cn, T, N)) (hk : k < N) (hin : ∀ w ∈ u_ws Cn T N, w ∈ lw_all) (ty0 : Nat → FieldType) (hty : ∀ k, k < N → parseFieldDescriptor (T k).2.2.1 = some (ty0 k)) (hnm : ∀ a, a < N → ∀ b, b < N → a ≠ b → (T a).2.1 ≠ (T b).2.1) (hw : Cond.fieldLink own idx (T k).1 (T k).2.1 (T k).2.2.1 ∈ lw_all) (hfin : (T k).2.2.2 = false) (hds : parseFieldDescriptor (T k).2.2.1 = some ty) (hnf : ∀ ρ, narrow ty (rv ρ v) = rv ρ v ∧ fits ty (rv ρ v) = true) (hd : decode cc pc = .ok (.putfield idx, 3)) (hp : pc + 3 = pc') (hv : pV M a ci k v = some M1) (kk : J X nL pc' lv st M1 cs sl r M') : J X nL pc lv (v :: .ref a :: st) M cs sl r M' := by
  subst hp
  intro ρ H locs LS a1 a2 a3 a4 a5 a6 a7
  obtain ⟨fs, h1, h2, rfl⟩ := pV_some hv
  obtain ⟨⟨ws, hP, hD, hcov⟩, hinj, hcl, hz⟩ := id a3
  obtain ⟨q, hq⟩ := hcov a _ h1
  refine va_put C.hx C.hb C.hts hin ty0 hty hnm C.hown C.hK.1 hP hD a4 q (fs := fs.map (rv ρ)) hq hc k hk (C.hts _ hw) (fun _ h => h) hfin hds (hnf ρ).1 (hnf ρ).2 (by rw [List.length_map]; exact h2) hd (fun H1 locs1 hP1 hD1 hS1 => ?_)
  have e1 : ((ρ a, Sum.inr (ci, (fs.map (rv ρ)).set k (rv ρ v))) : Nat × va_E) = (ρ a, rc (xcK X) ρ (.inr (ci, fs.set k v))) := by simp [rc, List.map_set]
  rw [e1] at hP1 hD1
  have hR := Rel.set hcov hinj hcl hq (by rw [h1]; exact Option.some_ne_none _) (c' := .inr (ci, fs.set k v)) (okl_set (hcl a _ h1) (fun x e => a7 x (by rw [← e]; exact List.mem_cons_self))) hP1 hD1 (Nat.le_trans C.hsz hS1.1)
  exact kk ρ H1 locs1 LS a1 (fun k h => upM_dom (a2 k h)) hR hS1 a5 (okl_mono (fun _ h => upM_dom h) a6) (okl_mono (fun _ h => upM_dom h) (okl_t (okl_t a7)))
theorem J_putF (C : Cx X cc own nL ret F Lo) {Cn : String} {T : u_T} {N idx a : Nat} {v : Value} {ty : FieldType} (hini : (xmeth X).name = "<init>") (ci k : Nat) (hc : vwCl[ci]? = some (Cn, T, N)) (hk : k < N) (hin : ∀ w ∈ u_ws Cn T N, w ∈ lw_all) (ty0 : Nat → FieldType) (hty : ∀ k, k < N → parseFieldDescriptor (T k).2.2.1 = some (ty0 k)) (hnm : ∀ a, a < N → ∀ b, b < N → a ≠ b → (T a).2.1 ≠ (T b).2.1) (hw : Cond.fieldLink own idx (T k).1 (T k).2.1 (T k).2.2.1 ∈ lw_all) (hfin : (T k).2.2.2 = true) (hdc : (T k).1 = own) (hds : parseFieldDescriptor (T k).2.2.1 = some ty) (hnf : ∀ ρ, narrow ty (rv ρ v) = rv ρ v ∧ fits ty (rv ρ v) = true) (hd : decode cc pc = .ok (.putfield idx, 3)) (hp : pc + 3 = pc') (hv : pV M a ci k v = some M1) (kk : J X nL pc' lv st M1 cs sl r M') : J X nL pc lv (v :: .ref a :: st) M cs sl r M' := by
  subst hp
  intro ρ H locs LS a1 a2 a3 a4 a5 a6 a7
  obtain ⟨fs, h1, h2, rfl⟩ := pV_some hv
  obtain ⟨⟨ws, hP, hD, hcov⟩, hinj, hcl, hz⟩ := id a3
  obtain ⟨q, hq⟩ := hcov a _ h1
  refine va_putF C.hx C.hb C.hts hin ty0 hty hnm C.hown C.hK.1 hP hD a4 q (fs := fs.map (rv ρ)) hq hc k hk (C.hts _ hw) (fun _ h => h) hfin hini hdc hds (hnf ρ).1 (hnf ρ).2 (by rw [List.length_map]; exact h2) hd (fun H1 locs1 hP1 hD1 hS1 => ?_)
  have e1 : ((ρ a, Sum.inr (ci, (fs.map (rv ρ)).set k (rv ρ v))) : Nat × va_E) = (ρ a, rc (xcK X) ρ (.inr (ci, fs.set k v))) := by simp [rc, List.map_set]
  rw [e1] at hP1 hD1
  have hR := Rel.set hcov hinj hcl hq (by rw [h1]; exact Option.some_ne_none _) (c' := .inr (ci, fs.set k v)) (okl_set (hcl a _ h1) (fun x e => a7 x (by rw [← e]; exact List.mem_cons_self))) hP1 hD1 (Nat.le_trans C.hsz hS1.1)
  exact kk ρ H1 locs1 LS a1 (fun k h => upM_dom (a2 k h)) hR hS1 a5 (okl_mono (fun _ h => upM_dom h) a6) (okl_mono (fun _ h => upM_dom h) (okl_t (okl_t a7)))
theorem J_iald (C : Cx X cc own nL ret F Lo) {a : Nat} {i v : Int32} (hd : decode cc pc = .ok (.iaload, 1)) (hp : pc + 1 = pc') (hv : ldI M a i = some v) (kk : J X nL pc' lv (.int v :: st) M cs sl r M') : J X nL pc lv (.int i :: .ref a :: st) M cs sl r M' := by
  subst hp
  intro ρ H locs LS a1 a2 a3 a4 a5 a6 a7
  obtain ⟨n, f, h1, h2, rfl⟩ := ldI_some hv
  obtain ⟨⟨ws, hP, hD, hcov⟩, hinj, hcl, hz⟩ := id a3
  obtain ⟨q, hq⟩ := hcov a _ h1
  exact va_iald C.hx C.hb C.hK.1 hP q 0 (n := n) (f := f) hq rfl h2 hd (kk ρ H locs LS a1 a2 a3 a4 a5 a6 (okl_i (okl_t (okl_t a7))))
theorem J_lald (C : Cx X cc own nL ret F Lo) {a : Nat} {i : Int32} {v : Int64} (hd : decode cc pc = .ok (.laload, 1)) (hp : pc + 1 = pc') (hv : ldJ M a i = some v) (kk : J X nL pc' lv (.long v :: st) M cs sl r M') : J X nL pc lv (.int i :: .ref a :: st) M cs sl r M' := by
  subst hp
  intro ρ H locs LS a1 a2 a3 a4 a5 a6 a7
  obtain ⟨n, f, h1, h2, rfl⟩ := ldJ_some hv
  obtain ⟨⟨ws, hP, hD, hcov⟩, hinj, hcl, hz⟩ := id a3
  obtain ⟨q, hq⟩ := hcov a _ h1
  exact va_lald C.hx C.hb C.hK.1 hP q 1 (n := n) (f := f) hq rfl h2 hd (kk ρ H locs LS a1 a2 a3 a4 a5 a6 (okl_l (okl_t (okl_t a7))))
theorem J_zald (C : Cx X cc own nL ret F Lo) {a : Nat} {i v : Int32} (hd : decode cc pc = .ok (.baload, 1)) (hp : pc + 1 = pc') (hv : ldZ M a i = some v) (kk : J X nL pc' lv (.int v :: st) M cs sl r M') : J X nL pc lv (.int i :: .ref a :: st) M cs sl r M' := by
  subst hp
  intro ρ H locs LS a1 a2 a3 a4 a5 a6 a7
  obtain ⟨n, f, h1, h2, rfl⟩ := ldZ_some hv
  obtain ⟨⟨ws, hP, hD, hcov⟩, hinj, hcl, hz⟩ := id a3
  obtain ⟨q, hq⟩ := hcov a _ h1
  exact va_zald C.hx C.hb C.hK.1 hP q 2 (n := n) (f := f) hq rfl h2 hd (kk ρ H locs LS a1 a2 a3 a4 a5 a6 (okl_i (okl_t (okl_t a7))))
theorem J_aald (C : Cx X cc own nL ret F Lo) {a : Nat} {i : Int32} {v : Nat} (hd : decode cc pc = .ok (.aaload, 1)) (hp : pc + 1 = pc') (hv : ldA M a i = some v) (kk : J X nL pc' lv (.ref v :: st) M cs sl r M') : J X nL pc lv (.int i :: .ref a :: st) M cs sl r M' := by
  subst hp
  intro ρ H locs LS a1 a2 a3 a4 a5 a6 a7
  obtain ⟨n, f, h1, h2, h3⟩ := ldA_some hv
  obtain ⟨⟨ws, hP, hD, hcov⟩, hinj, hcl, hz⟩ := id a3
  obtain ⟨q, hq⟩ := hcov a _ h1
  refine va_aldq C.hx C.hb C.hK.1 hP q 3 (n := n) (f := fun j => (f j).map ρ) hq rfl h2 hd ?_
  have e : va_rf ((f i.toNatClampNeg).map ρ) = rv ρ (.ref v) := by rw [h3]; rfl
  rw [e]
  exact kk ρ H locs LS a1 a2 a3 a4 a5 a6 (okl_c (fun x e => by cases e; exact hcl a _ h1 _ _ h3) (okl_t (okl_t a7)))
theorem J_iast (C : Cx X cc own nL ret F Lo) {a : Nat} {i x : Int32} (hd : decode cc pc = .ok (.iastore, 1)) (hp : pc + 1 = pc') (hv : stI M a i x = some M1) (kk : J X nL pc' lv st M1 cs sl r M') : J X nL pc lv (.int x :: .int i :: .ref a :: st) M cs sl r M' := by
  subst hp
  intro ρ H locs LS a1 a2 a3 a4 a5 a6 a7
  obtain ⟨n, f, h1, h2, rfl⟩ := stI_some hv
  obtain ⟨⟨ws, hP, hD, hcov⟩, hinj, hcl, hz⟩ := id a3
  obtain ⟨q, hq⟩ := hcov a _ h1
  refine va_iast C.hx C.hb C.hK.1 hP hD a4 q 0 (n := n) (f := f) hq rfl h2 hd (fun H1 locs1 hP1 hD1 hS1 => ?_)
  have hR := Rel.set hcov hinj hcl hq (by rw [h1]; exact Option.some_ne_none _) (c' := .inl (0, (n, .inl (upd f i.toNatClampNeg x)))) trivial hP1 hD1 (Nat.le_trans C.hsz hS1.1)
  exact kk ρ H1 locs1 LS a1 (fun k h => upM_dom (a2 k h)) hR hS1 a5 (okl_mono (fun _ h => upM_dom h) a6) (okl_mono (fun _ h => upM_dom h) (okl_t (okl_t (okl_t a7))))
theorem J_last (C : Cx X cc own nL ret F Lo) {a : Nat} {i : Int32} {x : Int64} (hd : decode cc pc = .ok (.lastore, 1)) (hp : pc + 1 = pc') (hv : stJ M a i x = some M1) (kk : J X nL pc' lv st M1 cs sl r M') : J X nL pc lv (.long x :: .int i :: .ref a :: st) M cs sl r M' := by
  subst hp
  intro ρ H locs LS a1 a2 a3 a4 a5 a6 a7
  obtain ⟨n, f, h1, h2, rfl⟩ := stJ_some hv
  obtain ⟨⟨ws, hP, hD, hcov⟩, hinj, hcl, hz⟩ := id a3
  obtain ⟨q, hq⟩ := hcov a _ h1
  refine va_last C.hx C.hb C.hK.1 hP hD a4 q 1 (n := n) (f := f) hq rfl h2 hd (fun H1 locs1 hP1 hD1 hS1 => ?_)
  have hR := Rel.set hcov hinj hcl hq (by rw [h1]; exact Option.some_ne_none _) (c' := .inl (1, (n, .inr (.inl (vp_updL f i.toNatClampNeg x))))) trivial hP1 hD1 (Nat.le_trans C.hsz hS1.1)
  exact kk ρ H1 locs1 LS a1 (fun k h => upM_dom (a2 k h)) hR hS1 a5 (okl_mono (fun _ h => upM_dom h) a6) (okl_mono (fun _ h => upM_dom h) (okl_t (okl_t (okl_t a7))))
theorem J_zast (C : Cx X cc own nL ret F Lo) {a : Nat} {i x : Int32} (hd : decode cc pc = .ok (.bastore, 1)) (hp : pc + 1 = pc') (hv : stZ M a i x = some M1) (kk : J X nL pc' lv st M1 cs sl r M') : J X nL pc lv (.int x :: .int i :: .ref a :: st) M cs sl r M' := by
  subst hp
  intro ρ H locs LS a1 a2 a3 a4 a5 a6 a7
  obtain ⟨n, f, h1, h2, rfl⟩ := stZ_some hv
  obtain ⟨⟨ws, hP, hD, hcov⟩, hinj, hcl, hz⟩ := id a3
  obtain ⟨q, hq⟩ := hcov a _ h1
  refine va_zast C.hx C.hb C.hK.1 hP hD a4 q 2 (n := n) (f := f) hq rfl h2 hd (fun H1 locs1 hP1 hD1 hS1 => ?_)
  have hR := Rel.set hcov hinj hcl hq (by rw [h1]; exact Option.some_ne_none _) (c' := .inl (2, (n, .inl (upd f i.toNatClampNeg (vp_nar .boolean x))))) trivial hP1 hD1 (Nat.le_trans C.hsz hS1.1)
  exact kk ρ H1 locs1 LS a1 (fun k h => upM_dom (a2 k h)) hR hS1 a5 (okl_mono (fun _ h => upM_dom h) a6) (okl_mono (fun _ h => upM_dom h) (okl_t (okl_t (okl_t a7))))
theorem J_lenI (C : Cx X cc own nL ret F Lo) {a : Nat} {v : Int32} (hd : decode cc pc = .ok (.arraylength, 1)) (hp : pc + 1 = pc') (hv : lenI M a = some v) (kk : J X nL pc' lv (.int v :: st) M cs sl r M') : J X nL pc lv (.ref a :: st) M cs sl r M' := by
  subst hp
  intro ρ H locs LS a1 a2 a3 a4 a5 a6 a7
  obtain ⟨x, h1, rfl⟩ := lenI_some hv
  obtain ⟨⟨ws, hP, hD, hcov⟩, hinj, hcl, hz⟩ := id a3
  obtain ⟨q, hq⟩ := hcov a _ h1
  have e : (rA ρ x).1 = x.1 := by obtain ⟨n, f | f | f | f | f⟩ := x <;> rfl
  exact va_alen C.hx C.hb C.hK.1 hP q 0 (x := rA ρ x) hq rfl (by rw [e]) hd (kk ρ H locs LS a1 a2 a3 a4 a5 a6 (okl_i (okl_t a7)))
theorem J_lenJ (C : Cx X cc own nL ret F Lo) {a : Nat} {v : Int32} (hd : decode cc pc = .ok (.arraylength, 1)) (hp : pc + 1 = pc') (hv : lenJ M a = some v) (kk : J X nL pc' lv (.int v :: st) M cs sl r M') : J X nL pc lv (.ref a :: st) M cs sl r M' := by
  subst hp
  intro ρ H locs LS a1 a2 a3 a4 a5 a6 a7
  obtain ⟨x, h1, rfl⟩ := lenJ_some hv
  obtain ⟨⟨ws, hP, hD, hcov⟩, hinj, hcl, hz⟩ := id a3
  obtain ⟨q, hq⟩ := hcov a _ h1
  have e : (rA ρ x).1 = x.1 := by obtain ⟨n, f | f | f | f | f⟩ := x <;> rfl
  exact va_alen C.hx C.hb C.hK.1 hP q 1 (x := rA ρ x) hq rfl (by rw [e]) hd (kk ρ H locs LS a1 a2 a3 a4 a5 a6 (okl_i (okl_t a7)))
end Mm
