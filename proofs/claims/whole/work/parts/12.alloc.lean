/-! A STORE OF A CODE into an array of Codes; a field that must be null -/
def stA (M : A_M) (a : Nat) (i : Int32) (x : Nat) : Option A_M := match M a, M x with
  | some (.inl (3, (n, .inr (.inr (.inr (.inr f)))))), some (.inr (0, _)) => if i < 0 ∨ n ≤ i.toNatClampNeg then none else some (upM M a (.inl (3, (n, .inr (.inr (.inr (.inr (va_up f i.toNatClampNeg (some x)))))))))
  | _, _ => none
theorem stA_some {M M1 : A_M} {a : Nat} {i : Int32} {x : Nat} (h : stA M a i x = some M1) : ∃ n f fs, M a = some (.inl (3, (n, .inr (.inr (.inr (.inr f)))))) ∧ M x = some (.inr (0, fs)) ∧ vp_in i n ∧ M1 = upM M a (.inl (3, (n, .inr (.inr (.inr (.inr (va_up f i.toNatClampNeg (some x)))))))) := by
  unfold stA at h
  split at h
  · split at h
    · cases h
    · rename_i n f fs e1 e2 e3
      exact ⟨n, f, fs, e1, e2, e3, (Option.some.inj h).symm⟩
  · cases h
theorem J_aast {X : JX} {cc : ByteArray} {own : String} {nL : Nat} {ret : Option FieldType} {F Lo pc pc' : Nat} {lv : List (Nat × Value)} {st : List Value} {M M1 M' : A_M} {cs sl : Nat} {r : Option Value} (C : Cx X cc own nL ret F Lo) {a x : Nat} {i : Int32} (hd : decode cc pc = .ok (.aastore, 1)) (hp : pc + 1 = pc') (hv : stA M a i x = some M1) (kk : J X nL pc' lv st M1 cs sl r M') : J X nL pc lv (.ref x :: .int i :: .ref a :: st) M cs sl r M' := by
  subst hp
  intro ρ H locs LS a1 a2 a3 a4 a5 a6 a7
  obtain ⟨n, f, fs, h1, h3, h2, rfl⟩ := stA_some hv
  obtain ⟨⟨ws, hP, hD, hcov⟩, hinj, hcl, hz⟩ := id a3
  obtain ⟨q, hq⟩ := hcov a _ h1
  obtain ⟨q1, hq1⟩ := hcov x _ h3
  refine va_astq C.hx C.hb C.hK.1 hP hD a4 q 3 q1 0 (r := (RX0, TX0, 3)) (n := n) (f := fun j => (f j).map ρ) hq rfl (vs := fs.map (rv ρ)) hq1 rfl h2 hd (fun H1 locs1 hP1 hD1 hS1 => ?_)
  have ef : va_up (fun j => (f j).map ρ) i.toNatClampNeg (some (ρ x)) = (fun j => (va_up f i.toNatClampNeg (some x) j).map ρ) := by
    funext j
    unfold va_up
    by_cases e : j = i.toNatClampNeg
    · rw [if_pos e, if_pos e]; rfl
    · rw [if_neg e, if_neg e]
  rw [ef] at hP1 hD1
  have hok : okc M (.inl (3, (n, .inr (.inr (.inr (.inr (va_up f i.toNatClampNeg (some x)))))))) := by
    intro j y e
    unfold va_up at e
    by_cases ej : j = i.toNatClampNeg
    · rw [if_pos ej] at e; cases e; rw [h3]; exact Option.some_ne_none _
    · rw [if_neg ej] at e; exact hcl a _ h1 j y e
  have hR := Rel.set hcov hinj hcl hq (by rw [h1]; exact Option.some_ne_none _) (c' := .inl (3, (n, .inr (.inr (.inr (.inr (va_up f i.toNatClampNeg (some x)))))))) hok hP1 hD1 (Nat.le_trans C.hsz hS1.1)
  exact kk ρ H1 locs1 LS a1 (fun k h => upM_dom (a2 k h)) hR hS1 a5 (okl_mono (fun _ h => upM_dom h) a6) (okl_mono (fun _ h => upM_dom h) (okl_t (okl_t (okl_t a7))))
/-- the field is null -/
def gZ (M : A_M) (a ci k : Nat) : Option Unit := match gV M a ci k with
  | some .null => some ()
  | _ => none
theorem gZ_some {M : A_M} {a ci k : Nat} {u : Unit} (h : gZ M a ci k = some u) : gV M a ci k = some .null := by
  unfold gZ at h
  split at h
  · assumption
  · cases h
