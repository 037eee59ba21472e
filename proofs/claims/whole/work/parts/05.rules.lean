/-! THE RULES OF J: a row an instruction kind. -/
section Acc
variable {X : JX} {cc : ByteArray} {own : String} {nL : Nat} {ret : Option FieldType} {F Lo : Nat}
theorem Cx.hx (C : Cx X cc own nL ret F Lo) : (xp X).tables.exec = Jvm.exec := C.1
theorem Cx.hb (C : Cx X cc own nL ret F Lo) : (xc X).code = cc := C.2.1
theorem Cx.hr (C : Cx X cc own nL ret F Lo) : (xmeth X).sig.returnType = ret := C.2.2.1
theorem Cx.hml (C : Cx X cc own nL ret F Lo) : (xc X).maxLocals = nL := C.2.2.2.1
theorem Cx.hown (C : Cx X cc own nL ret F Lo) : (xs X).vm.findClass own = some (xm X).cls := C.2.2.2.2.1
theorem Cx.hts (C : Cx X cc own nL ret F Lo) : ∀ w ∈ lw_all, w.before (xargs X) (xs X) = true := C.2.2.2.2.2.1
theorem Cx.hlk (C : Cx X cc own nL ret F Lo) : (xmeth X).locks = false := C.2.2.2.2.2.2.1
theorem Cx.hK (C : Cx X cc own nL ret F Lo) : KK (xD X) (xcK X) (xs X) := C.2.2.2.2.2.2.2.1
theorem Cx.hF (C : Cx X cc own nL ret F Lo) : F ≤ (xR X).frames := C.2.2.2.2.2.2.2.2.1
theorem Cx.hLo (C : Cx X cc own nL ret F Lo) : Lo ≤ (xR X).locals := C.2.2.2.2.2.2.2.2.2.1
theorem Cx.hmc (C : Cx X cc own nL ret F Lo) : (xR X).cells = xMC X := C.2.2.2.2.2.2.2.2.2.2.1
theorem Cx.hms (C : Cx X cc own nL ret F Lo) : (xR X).slots = xMS X := C.2.2.2.2.2.2.2.2.2.2.2.1
theorem Cx.hsz (C : Cx X cc own nL ret F Lo) : xsz X ≤ (xs X).heap.size := C.2.2.2.2.2.2.2.2.2.2.2.2
end Acc
section Rl
variable {X : JX} {cc : ByteArray} {own : String} {nL : Nat} {ret : Option FieldType} {F Lo pc pc' : Nat} {lv lv' : List (Nat × Value)} {st : List Value} {M M' : A_M} {cs sl : Nat} {r : Option Value}

theorem J_iconst (C : Cx X cc own nL ret F Lo) {n : Int} {v : Int32} (hd : decode cc pc = .ok (.iconst n, 1)) (hp : pc + 1 = pc') (hv : Int32.ofInt n = v) (k : J X nL pc' lv (.int v :: st) M cs sl r M') : J X nL pc lv st M cs sl r M' := by
  subst hp
  intro ρ H locs LS a1 a2 a3 a4 a5 a6 a7
  exact lv_iconst C.hx C.hb hd hv (k ρ H locs LS a1 a2 a3 a4 a5 a6 (okl_i a7))
theorem J_bipush (C : Cx X cc own nL ret F Lo) {n : Int} {v : Int32} (hd : decode cc pc = .ok (.bipush n, 2)) (hp : pc + 2 = pc') (hv : (Int8.ofInt n).toInt32 = v) (k : J X nL pc' lv (.int v :: st) M cs sl r M') : J X nL pc lv st M cs sl r M' := by
  subst hp
  intro ρ H locs LS a1 a2 a3 a4 a5 a6 a7
  exact lv_bipush C.hx C.hb hd hv (k ρ H locs LS a1 a2 a3 a4 a5 a6 (okl_i a7))
theorem J_sipush (C : Cx X cc own nL ret F Lo) {n : Int} {v : Int32} (hd : decode cc pc = .ok (.sipush n, 3)) (hp : pc + 3 = pc') (hv : (Int16.ofInt n).toInt32 = v) (k : J X nL pc' lv (.int v :: st) M cs sl r M') : J X nL pc lv st M cs sl r M' := by
  subst hp
  intro ρ H locs LS a1 a2 a3 a4 a5 a6 a7
  exact lv_sipush C.hx C.hb hd hv (k ρ H locs LS a1 a2 a3 a4 a5 a6 (okl_i a7))
theorem J_lconst (C : Cx X cc own nL ret F Lo) {n : Fin 2} {v : Int64} (hd : decode cc pc = .ok (.lconst n, 1)) (hp : pc + 1 = pc') (hv : Int64.ofNat (n : Nat) = v) (k : J X nL pc' lv (.long v :: st) M cs sl r M') : J X nL pc lv st M cs sl r M' := by
  subst hp
  intro ρ H locs LS a1 a2 a3 a4 a5 a6 a7
  exact lv_lconst C.hx C.hb hd hv (k ρ H locs LS a1 a2 a3 a4 a5 a6 (okl_l a7))
theorem J_dconst0 (C : Cx X cc own nL ret F Lo) (hd : decode cc pc = .ok (.dconst 0, 1)) (hp : pc + 1 = pc') (k : J X nL pc' lv (.double FP.dconst0 :: st) M cs sl r M') : J X nL pc lv st M cs sl r M' := by
  subst hp
  intro ρ H locs LS a1 a2 a3 a4 a5 a6 a7
  exact lv_dconst0 C.hx C.hb hd (k ρ H locs LS a1 a2 a3 a4 a5 a6 (okl_d a7))
theorem J_dconst1 (C : Cx X cc own nL ret F Lo) (hd : decode cc pc = .ok (.dconst 1, 1)) (hp : pc + 1 = pc') (k : J X nL pc' lv (.double FP.dconst1 :: st) M cs sl r M') : J X nL pc lv st M cs sl r M' := by
  subst hp
  intro ρ H locs LS a1 a2 a3 a4 a5 a6 a7
  exact lv_dconst1 C.hx C.hb hd (k ρ H locs LS a1 a2 a3 a4 a5 a6 (okl_d a7))
theorem J_ldc (C : Cx X cc own nL ret F Lo) {i : Nat} {v : Int32} (hd : decode cc pc = .ok (.ldc i, 2)) (hp : pc + 2 = pc') (hw : Cond.constant own i v ∈ lw_all) (k : J X nL pc' lv (.int v :: st) M cs sl r M') : J X nL pc lv st M cs sl r M' := by
  subst hp
  intro ρ H locs LS a1 a2 a3 a4 a5 a6 a7
  exact lv_ldc C.hx C.hb C.hown (C.hts _ hw) hd (k ρ H locs LS a1 a2 a3 a4 a5 a6 (okl_i a7))
theorem J_ldcw (C : Cx X cc own nL ret F Lo) {i : Nat} {v : Int32} (hd : decode cc pc = .ok (.ldc_w i, 3)) (hp : pc + 3 = pc') (hw : Cond.constant own i v ∈ lw_all) (k : J X nL pc' lv (.int v :: st) M cs sl r M') : J X nL pc lv st M cs sl r M' := by
  subst hp
  intro ρ H locs LS a1 a2 a3 a4 a5 a6 a7
  exact lv_ldcw C.hx C.hb C.hown (C.hts _ hw) hd (k ρ H locs LS a1 a2 a3 a4 a5 a6 (okl_i a7))
theorem J_ldc2 (C : Cx X cc own nL ret F Lo) {i : Nat} {v : Int64} (hd : decode cc pc = .ok (.ldc2_w i, 3)) (hp : pc + 3 = pc') (hw : Cond.constantLong own i v ∈ lw_all) (k : J X nL pc' lv (.long v :: st) M cs sl r M') : J X nL pc lv st M cs sl r M' := by
  subst hp
  intro ρ H locs LS a1 a2 a3 a4 a5 a6 a7
  exact lv_ldc2 C.hx C.hb C.hown (C.hts _ hw) hd (k ρ H locs LS a1 a2 a3 a4 a5 a6 (okl_l a7))
theorem J_ldc2d (C : Cx X cc own nL ret F Lo) {i : Nat} {v : UInt64} (hd : decode cc pc = .ok (.ldc2_w i, 3)) (hp : pc + 3 = pc') (hw : Cond.constantDouble own i v ∈ lw_all) (k : J X nL pc' lv (.double v :: st) M cs sl r M') : J X nL pc lv st M cs sl r M' := by
  subst hp
  intro ρ H locs LS a1 a2 a3 a4 a5 a6 a7
  exact lv_ldc2d C.hx C.hb C.hown (C.hts _ hw) hd (k ρ H locs LS a1 a2 a3 a4 a5 a6 (okl_d a7))
theorem lv_get {LS : Array Slot} {ρ : Nat → Nat} (a5 : lv_has LS nL (lv.map (fun q => (q.1, rv ρ q.2)))) {n i : Nat} {v : Value} (h : lv[n]? = some (i, v)) : LS[i]? = some (.val (rv ρ v)) :=
  a5.2.2 (i, rv ρ v) (List.mem_map.mpr ⟨(i, v), List.mem_of_getElem? h, rfl⟩)
theorem okl_get {n i : Nat} {v : Value} (a6 : okl M (lv.map (fun q => q.2))) (h : lv[n]? = some (i, v)) : ∀ x, v = .ref x → M x ≠ none := fun x e => a6 x (List.mem_map.mpr ⟨(i, v), List.mem_of_getElem? h, e⟩)
theorem J_iload_n (C : Cx X cc own nL ret F Lo) {j : Fin 4} {i : Nat} {x : Int32} (n : Nat) (hd : decode cc pc = .ok (.iload_n j, 1)) (hj : (j : Nat) = i) (hp : pc + 1 = pc') (hl : lv[n]? = some (i, .int x)) (k : J X nL pc' lv (.int x :: st) M cs sl r M') : J X nL pc lv st M cs sl r M' := by
  subst hp
  intro ρ H locs LS a1 a2 a3 a4 a5 a6 a7
  exact lv_iload_n C.hx C.hb hd hj (lv_get a5 hl) (k ρ H locs LS a1 a2 a3 a4 a5 a6 (okl_i a7))
theorem J_iload (C : Cx X cc own nL ret F Lo) {i : Nat} {x : Int32} (n : Nat) (hd : decode cc pc = .ok (.iload i, 2)) (hp : pc + 2 = pc') (hl : lv[n]? = some (i, .int x)) (k : J X nL pc' lv (.int x :: st) M cs sl r M') : J X nL pc lv st M cs sl r M' := by
  subst hp
  intro ρ H locs LS a1 a2 a3 a4 a5 a6 a7
  exact lv_iload C.hx C.hb hd (lv_get a5 hl) (k ρ H locs LS a1 a2 a3 a4 a5 a6 (okl_i a7))
theorem J_lload_n (C : Cx X cc own nL ret F Lo) {j : Fin 4} {i : Nat} {x : Int64} (n : Nat) (hd : decode cc pc = .ok (.lload_n j, 1)) (hj : (j : Nat) = i) (hp : pc + 1 = pc') (hl : lv[n]? = some (i, .long x)) (k : J X nL pc' lv (.long x :: st) M cs sl r M') : J X nL pc lv st M cs sl r M' := by
  subst hp
  intro ρ H locs LS a1 a2 a3 a4 a5 a6 a7
  exact lv_lload_n C.hx C.hb hd hj (lv_get a5 hl) (k ρ H locs LS a1 a2 a3 a4 a5 a6 (okl_l a7))
theorem J_lload (C : Cx X cc own nL ret F Lo) {i : Nat} {x : Int64} (n : Nat) (hd : decode cc pc = .ok (.lload i, 2)) (hp : pc + 2 = pc') (hl : lv[n]? = some (i, .long x)) (k : J X nL pc' lv (.long x :: st) M cs sl r M') : J X nL pc lv st M cs sl r M' := by
  subst hp
  intro ρ H locs LS a1 a2 a3 a4 a5 a6 a7
  exact lv_lload C.hx C.hb hd (lv_get a5 hl) (k ρ H locs LS a1 a2 a3 a4 a5 a6 (okl_l a7))
theorem J_dload_n (C : Cx X cc own nL ret F Lo) {j : Fin 4} {i : Nat} {x : UInt64} (n : Nat) (hd : decode cc pc = .ok (.dload_n j, 1)) (hj : (j : Nat) = i) (hp : pc + 1 = pc') (hl : lv[n]? = some (i, .double x)) (k : J X nL pc' lv (.double x :: st) M cs sl r M') : J X nL pc lv st M cs sl r M' := by
  subst hp
  intro ρ H locs LS a1 a2 a3 a4 a5 a6 a7
  exact lv_dload_n C.hx C.hb hd hj (lv_get a5 hl) (k ρ H locs LS a1 a2 a3 a4 a5 a6 (okl_d a7))
theorem J_dload (C : Cx X cc own nL ret F Lo) {i : Nat} {x : UInt64} (n : Nat) (hd : decode cc pc = .ok (.dload i, 2)) (hp : pc + 2 = pc') (hl : lv[n]? = some (i, .double x)) (k : J X nL pc' lv (.double x :: st) M cs sl r M') : J X nL pc lv st M cs sl r M' := by
  subst hp
  intro ρ H locs LS a1 a2 a3 a4 a5 a6 a7
  exact lv_dload C.hx C.hb hd (lv_get a5 hl) (k ρ H locs LS a1 a2 a3 a4 a5 a6 (okl_d a7))
theorem J_aload_n (C : Cx X cc own nL ret F Lo) {j : Fin 4} {i : Nat} {x : Nat} (n : Nat) (hd : decode cc pc = .ok (.aload_n j, 1)) (hj : (j : Nat) = i) (hp : pc + 1 = pc') (hl : lv[n]? = some (i, .ref x)) (k : J X nL pc' lv (.ref x :: st) M cs sl r M') : J X nL pc lv st M cs sl r M' := by
  subst hp
  intro ρ H locs LS a1 a2 a3 a4 a5 a6 a7
  exact lv_aload_n C.hx C.hb hd hj (lv_get a5 hl) (k ρ H locs LS a1 a2 a3 a4 a5 a6 (okl_c (okl_get a6 hl) a7))
theorem J_aload (C : Cx X cc own nL ret F Lo) {i : Nat} {x : Nat} (n : Nat) (hd : decode cc pc = .ok (.aload i, 2)) (hp : pc + 2 = pc') (hl : lv[n]? = some (i, .ref x)) (k : J X nL pc' lv (.ref x :: st) M cs sl r M') : J X nL pc lv st M cs sl r M' := by
  subst hp
  intro ρ H locs LS a1 a2 a3 a4 a5 a6 a7
  exact lv_aload C.hx C.hb hd (lv_get a5 hl) (k ρ H locs LS a1 a2 a3 a4 a5 a6 (okl_c (okl_get a6 hl) a7))
theorem lv_flt1 (ρ : Nat → Nat) (i : Nat) (lv : List (Nat × Value)) : (lv.map (fun q => (q.1, rv ρ q.2))).filter (fun q => !(q.1 == i) && !(q.1 + 1 == i && q.2.category == 2)) = (lv.filter (fun q => !(q.1 == i) && !(q.1 + 1 == i && q.2.category == 2))).map (fun q => (q.1, rv ρ q.2)) := by
  rw [List.filter_map]
  congr 1
  apply List.filter_congr
  intro q _
  simp only [Function.comp, rv_cat]
theorem okl_flt1 {i : Nat} {v : Value} (hv : ∀ x, v = .ref x → M x ≠ none) (a6 : okl M (lv.map (fun q => q.2))) : okl M (((i, v) :: lv.filter (fun q => !(q.1 == i) && !(q.1 + 1 == i && q.2.category == 2))).map (fun q => q.2)) := by
  intro x hx
  rcases List.mem_cons.mp hx with e | e
  · exact hv x e.symm
  · obtain ⟨q, hq, e⟩ := List.mem_map.mp e
    exact a6 x (List.mem_map.mpr ⟨q, (List.mem_filter.mp hq).1, e⟩)
theorem lv_flt2 (ρ : Nat → Nat) (i : Nat) (lv : List (Nat × Value)) : (lv.map (fun q => (q.1, rv ρ q.2))).filter (fun q => !(q.1 == i) && (!(q.1 == i + 1) && !(q.1 + 1 == i && q.2.category == 2))) = (lv.filter (fun q => !(q.1 == i) && (!(q.1 == i + 1) && !(q.1 + 1 == i && q.2.category == 2)))).map (fun q => (q.1, rv ρ q.2)) := by
  rw [List.filter_map]
  congr 1
  apply List.filter_congr
  intro q _
  simp only [Function.comp, rv_cat]
theorem okl_flt2 {i : Nat} {v : Value} (hv : ∀ x, v = .ref x → M x ≠ none) (a6 : okl M (lv.map (fun q => q.2))) : okl M (((i, v) :: lv.filter (fun q => !(q.1 == i) && (!(q.1 == i + 1) && !(q.1 + 1 == i && q.2.category == 2)))).map (fun q => q.2)) := by
  intro x hx
  rcases List.mem_cons.mp hx with e | e
  · exact hv x e.symm
  · obtain ⟨q, hq, e⟩ := List.mem_map.mp e
    exact a6 x (List.mem_map.mpr ⟨q, (List.mem_filter.mp hq).1, e⟩)
theorem J_istore_n (C : Cx X cc own nL ret F Lo) {j : Fin 4} {i : Nat} {x : Int32} (hd : decode cc pc = .ok (.istore_n j, 1)) (hj : (j : Nat) = i) (hp : pc + 1 = pc') (hn : i < nL) (hl : (i, Value.int x) :: lv.filter (fun q => !(q.1 == i) && !(q.1 + 1 == i && q.2.category == 2)) = lv') (k : J X nL pc' lv' st M cs sl r M') : J X nL pc lv (Value.int x :: st) M cs sl r M' := by
  subst hp
  subst hl
  intro ρ H locs LS a1 a2 a3 a4 a5 a6 a7
  exact lv_istore_n C.hx C.hb hd hj a5 hn rfl (fun LS' h => k ρ H locs LS' a1 a2 a3 a4 (by rw [lv_flt1] at h; exact h) (okl_flt1 (fun _ e => by cases e) a6) (okl_t a7))
theorem J_istore (C : Cx X cc own nL ret F Lo) {i : Nat} {x : Int32} (hd : decode cc pc = .ok (.istore i, 2)) (hp : pc + 2 = pc') (hn : i < nL) (hl : (i, Value.int x) :: lv.filter (fun q => !(q.1 == i) && !(q.1 + 1 == i && q.2.category == 2)) = lv') (k : J X nL pc' lv' st M cs sl r M') : J X nL pc lv (Value.int x :: st) M cs sl r M' := by
  subst hp
  subst hl
  intro ρ H locs LS a1 a2 a3 a4 a5 a6 a7
  exact lv_istore C.hx C.hb hd a5 hn rfl (fun LS' h => k ρ H locs LS' a1 a2 a3 a4 (by rw [lv_flt1] at h; exact h) (okl_flt1 (fun _ e => by cases e) a6) (okl_t a7))
theorem J_lstore_n (C : Cx X cc own nL ret F Lo) {j : Fin 4} {i : Nat} {x : Int64} (hd : decode cc pc = .ok (.lstore_n j, 1)) (hj : (j : Nat) = i) (hp : pc + 1 = pc') (hn : i + 1 < nL) (hl : (i, Value.long x) :: lv.filter (fun q => !(q.1 == i) && (!(q.1 == i + 1) && !(q.1 + 1 == i && q.2.category == 2))) = lv') (k : J X nL pc' lv' st M cs sl r M') : J X nL pc lv (Value.long x :: st) M cs sl r M' := by
  subst hp
  subst hl
  intro ρ H locs LS a1 a2 a3 a4 a5 a6 a7
  exact lv_lstore_n C.hx C.hb hd hj a5 hn rfl (fun LS' h => k ρ H locs LS' a1 a2 a3 a4 (by rw [lv_flt2] at h; exact h) (okl_flt2 (fun _ e => by cases e) a6) (okl_t a7))
theorem J_lstore (C : Cx X cc own nL ret F Lo) {i : Nat} {x : Int64} (hd : decode cc pc = .ok (.lstore i, 2)) (hp : pc + 2 = pc') (hn : i + 1 < nL) (hl : (i, Value.long x) :: lv.filter (fun q => !(q.1 == i) && (!(q.1 == i + 1) && !(q.1 + 1 == i && q.2.category == 2))) = lv') (k : J X nL pc' lv' st M cs sl r M') : J X nL pc lv (Value.long x :: st) M cs sl r M' := by
  subst hp
  subst hl
  intro ρ H locs LS a1 a2 a3 a4 a5 a6 a7
  exact lv_lstore C.hx C.hb hd a5 hn rfl (fun LS' h => k ρ H locs LS' a1 a2 a3 a4 (by rw [lv_flt2] at h; exact h) (okl_flt2 (fun _ e => by cases e) a6) (okl_t a7))
theorem J_dstore_n (C : Cx X cc own nL ret F Lo) {j : Fin 4} {i : Nat} {x : UInt64} (hd : decode cc pc = .ok (.dstore_n j, 1)) (hj : (j : Nat) = i) (hp : pc + 1 = pc') (hn : i + 1 < nL) (hl : (i, Value.double x) :: lv.filter (fun q => !(q.1 == i) && (!(q.1 == i + 1) && !(q.1 + 1 == i && q.2.category == 2))) = lv') (k : J X nL pc' lv' st M cs sl r M') : J X nL pc lv (Value.double x :: st) M cs sl r M' := by
  subst hp
  subst hl
  intro ρ H locs LS a1 a2 a3 a4 a5 a6 a7
  exact lv_dstore_n C.hx C.hb hd hj a5 hn rfl (fun LS' h => k ρ H locs LS' a1 a2 a3 a4 (by rw [lv_flt2] at h; exact h) (okl_flt2 (fun _ e => by cases e) a6) (okl_t a7))
theorem J_dstore (C : Cx X cc own nL ret F Lo) {i : Nat} {x : UInt64} (hd : decode cc pc = .ok (.dstore i, 2)) (hp : pc + 2 = pc') (hn : i + 1 < nL) (hl : (i, Value.double x) :: lv.filter (fun q => !(q.1 == i) && (!(q.1 == i + 1) && !(q.1 + 1 == i && q.2.category == 2))) = lv') (k : J X nL pc' lv' st M cs sl r M') : J X nL pc lv (Value.double x :: st) M cs sl r M' := by
  subst hp
  subst hl
  intro ρ H locs LS a1 a2 a3 a4 a5 a6 a7
  exact lv_dstore C.hx C.hb hd a5 hn rfl (fun LS' h => k ρ H locs LS' a1 a2 a3 a4 (by rw [lv_flt2] at h; exact h) (okl_flt2 (fun _ e => by cases e) a6) (okl_t a7))
theorem J_astore_n (C : Cx X cc own nL ret F Lo) {j : Fin 4} {i : Nat} {x : Nat} (hd : decode cc pc = .ok (.astore_n j, 1)) (hj : (j : Nat) = i) (hp : pc + 1 = pc') (hn : i < nL) (hl : (i, Value.ref x) :: lv.filter (fun q => !(q.1 == i) && !(q.1 + 1 == i && q.2.category == 2)) = lv') (k : J X nL pc' lv' st M cs sl r M') : J X nL pc lv (Value.ref x :: st) M cs sl r M' := by
  subst hp
  subst hl
  intro ρ H locs LS a1 a2 a3 a4 a5 a6 a7
  exact lv_astore_n C.hx C.hb hd hj a5 hn rfl (fun LS' h => k ρ H locs LS' a1 a2 a3 a4 (by rw [lv_flt1] at h; exact h) (okl_flt1 (fun x e => a7 x (by rw [← e]; exact List.mem_cons_self)) a6) (okl_t a7))
theorem J_iinc (C : Cx X cc own nL ret F Lo) {i : Nat} {n : Int} {x v : Int32} (j : Nat) (hd : decode cc pc = .ok (.iinc i n, 3)) (hp : pc + 3 = pc') (hk : lv[j]? = some (i, .int x)) (hv : x + Int32.ofInt n = v) (hn : i < nL) (hl : (i, Value.int v) :: lv.filter (fun q => !(q.1 == i) && !(q.1 + 1 == i && q.2.category == 2)) = lv') (k : J X nL pc' lv' st M cs sl r M') : J X nL pc lv st M cs sl r M' := by
  subst hp
  subst hl
  intro ρ H locs LS a1 a2 a3 a4 a5 a6 a7
  exact lv_iinc C.hx C.hb hd a5 (k := j) (by rw [List.getElem?_map, hk]; rfl) hv hn rfl (fun LS' h => k ρ H locs LS' a1 a2 a3 a4 (by rw [lv_flt1] at h; exact h) (okl_flt1 (fun _ e => by cases e) a6) a7)
theorem J_iadd (C : Cx X cc own nL ret F Lo) {x : Int32} {y : Int32} (hd : decode cc pc = .ok (.iadd, 1)) (hp : pc + 1 = pc') (k : J X nL pc' lv (.int (x + y) :: st) M cs sl r M') : J X nL pc lv (.int y :: .int x :: st) M cs sl r M' := by
  subst hp
  intro ρ H locs LS a1 a2 a3 a4 a5 a6 a7
  exact lv_iadd C.hx C.hb hd (k ρ H locs LS a1 a2 a3 a4 a5 a6 (okl_i (okl_t (okl_t a7))))
theorem J_isub (C : Cx X cc own nL ret F Lo) {x : Int32} {y : Int32} (hd : decode cc pc = .ok (.isub, 1)) (hp : pc + 1 = pc') (k : J X nL pc' lv (.int (x - y) :: st) M cs sl r M') : J X nL pc lv (.int y :: .int x :: st) M cs sl r M' := by
  subst hp
  intro ρ H locs LS a1 a2 a3 a4 a5 a6 a7
  exact lv_isub C.hx C.hb hd (k ρ H locs LS a1 a2 a3 a4 a5 a6 (okl_i (okl_t (okl_t a7))))
theorem J_imul (C : Cx X cc own nL ret F Lo) {x : Int32} {y : Int32} (hd : decode cc pc = .ok (.imul, 1)) (hp : pc + 1 = pc') (k : J X nL pc' lv (.int (x * y) :: st) M cs sl r M') : J X nL pc lv (.int y :: .int x :: st) M cs sl r M' := by
  subst hp
  intro ρ H locs LS a1 a2 a3 a4 a5 a6 a7
  exact lv_imul C.hx C.hb hd (k ρ H locs LS a1 a2 a3 a4 a5 a6 (okl_i (okl_t (okl_t a7))))
theorem J_iand (C : Cx X cc own nL ret F Lo) {x : Int32} {y : Int32} (hd : decode cc pc = .ok (.iand, 1)) (hp : pc + 1 = pc') (k : J X nL pc' lv (.int (x &&& y) :: st) M cs sl r M') : J X nL pc lv (.int y :: .int x :: st) M cs sl r M' := by
  subst hp
  intro ρ H locs LS a1 a2 a3 a4 a5 a6 a7
  exact lv_iand C.hx C.hb hd (k ρ H locs LS a1 a2 a3 a4 a5 a6 (okl_i (okl_t (okl_t a7))))
theorem J_ior (C : Cx X cc own nL ret F Lo) {x : Int32} {y : Int32} (hd : decode cc pc = .ok (.ior, 1)) (hp : pc + 1 = pc') (k : J X nL pc' lv (.int (x ||| y) :: st) M cs sl r M') : J X nL pc lv (.int y :: .int x :: st) M cs sl r M' := by
  subst hp
  intro ρ H locs LS a1 a2 a3 a4 a5 a6 a7
  exact lv_ior C.hx C.hb hd (k ρ H locs LS a1 a2 a3 a4 a5 a6 (okl_i (okl_t (okl_t a7))))
theorem J_ixor (C : Cx X cc own nL ret F Lo) {x : Int32} {y : Int32} (hd : decode cc pc = .ok (.ixor, 1)) (hp : pc + 1 = pc') (k : J X nL pc' lv (.int (x ^^^ y) :: st) M cs sl r M') : J X nL pc lv (.int y :: .int x :: st) M cs sl r M' := by
  subst hp
  intro ρ H locs LS a1 a2 a3 a4 a5 a6 a7
  exact lv_ixor C.hx C.hb hd (k ρ H locs LS a1 a2 a3 a4 a5 a6 (okl_i (okl_t (okl_t a7))))
theorem J_ishl (C : Cx X cc own nL ret F Lo) {x : Int32} {y : Int32} (hd : decode cc pc = .ok (.ishl, 1)) (hp : pc + 1 = pc') (k : J X nL pc' lv (.int (x <<< (y &&& 31)) :: st) M cs sl r M') : J X nL pc lv (.int y :: .int x :: st) M cs sl r M' := by
  subst hp
  intro ρ H locs LS a1 a2 a3 a4 a5 a6 a7
  exact lv_ishl C.hx C.hb hd (k ρ H locs LS a1 a2 a3 a4 a5 a6 (okl_i (okl_t (okl_t a7))))
theorem J_ishr (C : Cx X cc own nL ret F Lo) {x : Int32} {y : Int32} (hd : decode cc pc = .ok (.ishr, 1)) (hp : pc + 1 = pc') (k : J X nL pc' lv (.int (x >>> (y &&& 31)) :: st) M cs sl r M') : J X nL pc lv (.int y :: .int x :: st) M cs sl r M' := by
  subst hp
  intro ρ H locs LS a1 a2 a3 a4 a5 a6 a7
  exact lv_ishr C.hx C.hb hd (k ρ H locs LS a1 a2 a3 a4 a5 a6 (okl_i (okl_t (okl_t a7))))
theorem J_iushr (C : Cx X cc own nL ret F Lo) {x : Int32} {y : Int32} (hd : decode cc pc = .ok (.iushr, 1)) (hp : pc + 1 = pc') (k : J X nL pc' lv (.int ((x.toUInt32 >>> (y.toUInt32 &&& Int32.toUInt32 31)).toInt32) :: st) M cs sl r M') : J X nL pc lv (.int y :: .int x :: st) M cs sl r M' := by
  subst hp
  intro ρ H locs LS a1 a2 a3 a4 a5 a6 a7
  exact lv_iushr C.hx C.hb hd rfl (k ρ H locs LS a1 a2 a3 a4 a5 a6 (okl_i (okl_t (okl_t a7))))
theorem J_idiv (C : Cx X cc own nL ret F Lo) {x : Int32} {y : Int32} (hne : ¬ y = 0) (hd : decode cc pc = .ok (.idiv, 1)) (hp : pc + 1 = pc') (k : J X nL pc' lv (.int (x / y) :: st) M cs sl r M') : J X nL pc lv (.int y :: .int x :: st) M cs sl r M' := by
  subst hp
  intro ρ H locs LS a1 a2 a3 a4 a5 a6 a7
  exact lv_idiv C.hx C.hb hd hne (k ρ H locs LS a1 a2 a3 a4 a5 a6 (okl_i (okl_t (okl_t a7))))
theorem J_irem (C : Cx X cc own nL ret F Lo) {x : Int32} {y : Int32} (hne : ¬ y = 0) (hd : decode cc pc = .ok (.irem, 1)) (hp : pc + 1 = pc') (k : J X nL pc' lv (.int (x - x / y * y) :: st) M cs sl r M') : J X nL pc lv (.int y :: .int x :: st) M cs sl r M' := by
  subst hp
  intro ρ H locs LS a1 a2 a3 a4 a5 a6 a7
  exact lv_irem C.hx C.hb hd hne (k ρ H locs LS a1 a2 a3 a4 a5 a6 (okl_i (okl_t (okl_t a7))))
theorem J_ladd (C : Cx X cc own nL ret F Lo) {x : Int64} {y : Int64} (hd : decode cc pc = .ok (.ladd, 1)) (hp : pc + 1 = pc') (k : J X nL pc' lv (.long (x + y) :: st) M cs sl r M') : J X nL pc lv (.long y :: .long x :: st) M cs sl r M' := by
  subst hp
  intro ρ H locs LS a1 a2 a3 a4 a5 a6 a7
  exact lv_ladd C.hx C.hb hd (k ρ H locs LS a1 a2 a3 a4 a5 a6 (okl_l (okl_t (okl_t a7))))
theorem J_lsub (C : Cx X cc own nL ret F Lo) {x : Int64} {y : Int64} (hd : decode cc pc = .ok (.lsub, 1)) (hp : pc + 1 = pc') (k : J X nL pc' lv (.long (x - y) :: st) M cs sl r M') : J X nL pc lv (.long y :: .long x :: st) M cs sl r M' := by
  subst hp
  intro ρ H locs LS a1 a2 a3 a4 a5 a6 a7
  exact lv_lsub C.hx C.hb hd (k ρ H locs LS a1 a2 a3 a4 a5 a6 (okl_l (okl_t (okl_t a7))))
theorem J_lmul (C : Cx X cc own nL ret F Lo) {x : Int64} {y : Int64} (hd : decode cc pc = .ok (.lmul, 1)) (hp : pc + 1 = pc') (k : J X nL pc' lv (.long (x * y) :: st) M cs sl r M') : J X nL pc lv (.long y :: .long x :: st) M cs sl r M' := by
  subst hp
  intro ρ H locs LS a1 a2 a3 a4 a5 a6 a7
  exact lv_lmul C.hx C.hb hd (k ρ H locs LS a1 a2 a3 a4 a5 a6 (okl_l (okl_t (okl_t a7))))
theorem J_land (C : Cx X cc own nL ret F Lo) {x : Int64} {y : Int64} (hd : decode cc pc = .ok (.land, 1)) (hp : pc + 1 = pc') (k : J X nL pc' lv (.long (x &&& y) :: st) M cs sl r M') : J X nL pc lv (.long y :: .long x :: st) M cs sl r M' := by
  subst hp
  intro ρ H locs LS a1 a2 a3 a4 a5 a6 a7
  exact lv_land C.hx C.hb hd (k ρ H locs LS a1 a2 a3 a4 a5 a6 (okl_l (okl_t (okl_t a7))))
theorem J_lor (C : Cx X cc own nL ret F Lo) {x : Int64} {y : Int64} (hd : decode cc pc = .ok (.lor, 1)) (hp : pc + 1 = pc') (k : J X nL pc' lv (.long (x ||| y) :: st) M cs sl r M') : J X nL pc lv (.long y :: .long x :: st) M cs sl r M' := by
  subst hp
  intro ρ H locs LS a1 a2 a3 a4 a5 a6 a7
  exact lv_lor C.hx C.hb hd (k ρ H locs LS a1 a2 a3 a4 a5 a6 (okl_l (okl_t (okl_t a7))))
theorem J_lxor (C : Cx X cc own nL ret F Lo) {x : Int64} {y : Int64} (hd : decode cc pc = .ok (.lxor, 1)) (hp : pc + 1 = pc') (k : J X nL pc' lv (.long (x ^^^ y) :: st) M cs sl r M') : J X nL pc lv (.long y :: .long x :: st) M cs sl r M' := by
  subst hp
  intro ρ H locs LS a1 a2 a3 a4 a5 a6 a7
  exact lv_lxor C.hx C.hb hd (k ρ H locs LS a1 a2 a3 a4 a5 a6 (okl_l (okl_t (okl_t a7))))
theorem J_lshl (C : Cx X cc own nL ret F Lo) {x : Int64} {y : Int32} (hd : decode cc pc = .ok (.lshl, 1)) (hp : pc + 1 = pc') (k : J X nL pc' lv (.long (x <<< (y.toInt64 &&& 63)) :: st) M cs sl r M') : J X nL pc lv (.int y :: .long x :: st) M cs sl r M' := by
  subst hp
  intro ρ H locs LS a1 a2 a3 a4 a5 a6 a7
  exact lv_lshl C.hx C.hb hd rfl (k ρ H locs LS a1 a2 a3 a4 a5 a6 (okl_l (okl_t (okl_t a7))))
theorem J_lshr (C : Cx X cc own nL ret F Lo) {x : Int64} {y : Int32} (hd : decode cc pc = .ok (.lshr, 1)) (hp : pc + 1 = pc') (k : J X nL pc' lv (.long (x >>> (y.toInt64 &&& 63)) :: st) M cs sl r M') : J X nL pc lv (.int y :: .long x :: st) M cs sl r M' := by
  subst hp
  intro ρ H locs LS a1 a2 a3 a4 a5 a6 a7
  exact lv_lshr C.hx C.hb hd rfl (k ρ H locs LS a1 a2 a3 a4 a5 a6 (okl_l (okl_t (okl_t a7))))
theorem J_lushr (C : Cx X cc own nL ret F Lo) {x : Int64} {y : Int32} (hd : decode cc pc = .ok (.lushr, 1)) (hp : pc + 1 = pc') (k : J X nL pc' lv (.long ((x.toUInt64 >>> (y.toInt64.toUInt64 &&& Int64.toUInt64 63)).toInt64) :: st) M cs sl r M') : J X nL pc lv (.int y :: .long x :: st) M cs sl r M' := by
  subst hp
  intro ρ H locs LS a1 a2 a3 a4 a5 a6 a7
  exact lv_lushr C.hx C.hb hd rfl (k ρ H locs LS a1 a2 a3 a4 a5 a6 (okl_l (okl_t (okl_t a7))))
theorem J_lcmp (C : Cx X cc own nL ret F Lo) {x : Int64} {y : Int64} (hd : decode cc pc = .ok (.lcmp, 1)) (hp : pc + 1 = pc') (k : J X nL pc' lv (.int (lg_cmp x y) :: st) M cs sl r M') : J X nL pc lv (.long y :: .long x :: st) M cs sl r M' := by
  subst hp
  intro ρ H locs LS a1 a2 a3 a4 a5 a6 a7
  exact W.lcmp C.hx C.hb hd (k ρ H locs LS a1 a2 a3 a4 a5 a6 (okl_i (okl_t (okl_t a7))))
theorem J_dadd (C : Cx X cc own nL ret F Lo) {x : UInt64} {y : UInt64} (hne : vf_n64 (FP.dadd x y)) (hd : decode cc pc = .ok (.dadd, 1)) (hp : pc + 1 = pc') (k : J X nL pc' lv (.double (FP.dadd x y) :: st) M cs sl r M') : J X nL pc lv (.double y :: .double x :: st) M cs sl r M' := by
  subst hp
  intro ρ H locs LS a1 a2 a3 a4 a5 a6 a7
  exact lv_dadd C.hx C.hb hd hne (k ρ H locs LS a1 a2 a3 a4 a5 a6 (okl_d (okl_t (okl_t a7))))
theorem J_dsub (C : Cx X cc own nL ret F Lo) {x : UInt64} {y : UInt64} (hne : vf_n64 (FP.dsub x y)) (hd : decode cc pc = .ok (.dsub, 1)) (hp : pc + 1 = pc') (k : J X nL pc' lv (.double (FP.dsub x y) :: st) M cs sl r M') : J X nL pc lv (.double y :: .double x :: st) M cs sl r M' := by
  subst hp
  intro ρ H locs LS a1 a2 a3 a4 a5 a6 a7
  exact lv_dsub C.hx C.hb hd hne (k ρ H locs LS a1 a2 a3 a4 a5 a6 (okl_d (okl_t (okl_t a7))))
theorem J_dmul (C : Cx X cc own nL ret F Lo) {x : UInt64} {y : UInt64} (hne : vf_n64 (FP.dmul x y)) (hd : decode cc pc = .ok (.dmul, 1)) (hp : pc + 1 = pc') (k : J X nL pc' lv (.double (FP.dmul x y) :: st) M cs sl r M') : J X nL pc lv (.double y :: .double x :: st) M cs sl r M' := by
  subst hp
  intro ρ H locs LS a1 a2 a3 a4 a5 a6 a7
  exact lv_dmul C.hx C.hb hd hne (k ρ H locs LS a1 a2 a3 a4 a5 a6 (okl_d (okl_t (okl_t a7))))
theorem J_ddiv (C : Cx X cc own nL ret F Lo) {x : UInt64} {y : UInt64} (hne : vf_n64 (FP.ddiv x y)) (hd : decode cc pc = .ok (.ddiv, 1)) (hp : pc + 1 = pc') (k : J X nL pc' lv (.double (FP.ddiv x y) :: st) M cs sl r M') : J X nL pc lv (.double y :: .double x :: st) M cs sl r M' := by
  subst hp
  intro ρ H locs LS a1 a2 a3 a4 a5 a6 a7
  exact lv_ddiv C.hx C.hb hd hne (k ρ H locs LS a1 a2 a3 a4 a5 a6 (okl_d (okl_t (okl_t a7))))
theorem J_dcmp (C : Cx X cc own nL ret F Lo) {x : UInt64} {y : UInt64} {op : CmpOp} (hd : decode cc pc = .ok (.dcmp op, 1)) (hp : pc + 1 = pc') (k : J X nL pc' lv (.int (Op.cmpValue (FP.dcmp x y) op) :: st) M cs sl r M') : J X nL pc lv (.double y :: .double x :: st) M cs sl r M' := by
  subst hp
  intro ρ H locs LS a1 a2 a3 a4 a5 a6 a7
  exact lv_dcmp C.hx C.hb hd (k ρ H locs LS a1 a2 a3 a4 a5 a6 (okl_i (okl_t (okl_t a7))))
theorem J_ineg (C : Cx X cc own nL ret F Lo) {x : Int32} (hd : decode cc pc = .ok (.ineg, 1)) (hp : pc + 1 = pc') (k : J X nL pc' lv (.int (-x) :: st) M cs sl r M') : J X nL pc lv (.int x :: st) M cs sl r M' := by
  subst hp
  intro ρ H locs LS a1 a2 a3 a4 a5 a6 a7
  exact lv_ineg C.hx C.hb hd (k ρ H locs LS a1 a2 a3 a4 a5 a6 (okl_i (okl_t a7)))
theorem J_i2l (C : Cx X cc own nL ret F Lo) {x : Int32} (hd : decode cc pc = .ok (.i2l, 1)) (hp : pc + 1 = pc') (k : J X nL pc' lv (.long (x.toInt64) :: st) M cs sl r M') : J X nL pc lv (.int x :: st) M cs sl r M' := by
  subst hp
  intro ρ H locs LS a1 a2 a3 a4 a5 a6 a7
  exact lv_i2l C.hx C.hb hd rfl (k ρ H locs LS a1 a2 a3 a4 a5 a6 (okl_l (okl_t a7)))
theorem J_l2i (C : Cx X cc own nL ret F Lo) {x : Int64} (hd : decode cc pc = .ok (.l2i, 1)) (hp : pc + 1 = pc') (k : J X nL pc' lv (.int (x.toInt32) :: st) M cs sl r M') : J X nL pc lv (.long x :: st) M cs sl r M' := by
  subst hp
  intro ρ H locs LS a1 a2 a3 a4 a5 a6 a7
  exact lv_l2i C.hx C.hb hd rfl (k ρ H locs LS a1 a2 a3 a4 a5 a6 (okl_i (okl_t a7)))
theorem J_i2d (C : Cx X cc own nL ret F Lo) {x : Int32} (hd : decode cc pc = .ok (.i2d, 1)) (hp : pc + 1 = pc') (k : J X nL pc' lv (.double (FP.i2d x) :: st) M cs sl r M') : J X nL pc lv (.int x :: st) M cs sl r M' := by
  subst hp
  intro ρ H locs LS a1 a2 a3 a4 a5 a6 a7
  exact lv_i2d C.hx C.hb hd (k ρ H locs LS a1 a2 a3 a4 a5 a6 (okl_d (okl_t a7)))
theorem J_l2d (C : Cx X cc own nL ret F Lo) {x : Int64} (hd : decode cc pc = .ok (.l2d, 1)) (hp : pc + 1 = pc') (k : J X nL pc' lv (.double (FP.l2d x) :: st) M cs sl r M') : J X nL pc lv (.long x :: st) M cs sl r M' := by
  subst hp
  intro ρ H locs LS a1 a2 a3 a4 a5 a6 a7
  exact lv_l2d C.hx C.hb hd (k ρ H locs LS a1 a2 a3 a4 a5 a6 (okl_d (okl_t a7)))
theorem J_d2l (C : Cx X cc own nL ret F Lo) {x : UInt64} (hd : decode cc pc = .ok (.d2l, 1)) (hp : pc + 1 = pc') (k : J X nL pc' lv (.long (FP.d2l x) :: st) M cs sl r M') : J X nL pc lv (.double x :: st) M cs sl r M' := by
  subst hp
  intro ρ H locs LS a1 a2 a3 a4 a5 a6 a7
  exact lv_d2l C.hx C.hb hd (k ρ H locs LS a1 a2 a3 a4 a5 a6 (okl_l (okl_t a7)))
theorem J_dup (C : Cx X cc own nL ret F Lo) {v : Value} (hd : decode cc pc = .ok (.dup, 1)) (hp : pc + 1 = pc') (hv : v.category = 1) (k : J X nL pc' lv (v :: v :: st) M cs sl r M') : J X nL pc lv (v :: st) M cs sl r M' := by
  subst hp
  intro ρ H locs LS a1 a2 a3 a4 a5 a6 a7
  exact lv_dup C.hx C.hb hd (by rw [rv_cat]; exact hv) (k ρ H locs LS a1 a2 a3 a4 a5 a6 (okl_c (fun x e => a7 x (by rw [← e]; exact List.mem_cons_self)) a7))
theorem J_dup2 (C : Cx X cc own nL ret F Lo) {v w : Value} (hd : decode cc pc = .ok (.dup2, 1)) (hp : pc + 1 = pc') (hv : v.category = 1) (hw : w.category = 1) (k : J X nL pc' lv (v :: w :: v :: w :: st) M cs sl r M') : J X nL pc lv (v :: w :: st) M cs sl r M' := by
  subst hp
  intro ρ H locs LS a1 a2 a3 a4 a5 a6 a7
  exact lv_dup2_11 C.hx C.hb hd (by rw [rv_cat]; exact hv) (by rw [rv_cat]; exact hw) (k ρ H locs LS a1 a2 a3 a4 a5 a6 (okl_c (fun x e => a7 x (by rw [← e]; exact List.mem_cons_self)) (okl_c (fun x e => a7 x (by rw [← e]; exact List.mem_cons_of_mem _ List.mem_cons_self)) a7)))
theorem J_dup22 (C : Cx X cc own nL ret F Lo) {v : Value} (hd : decode cc pc = .ok (.dup2, 1)) (hp : pc + 1 = pc') (hv : v.category = 2) (k : J X nL pc' lv (v :: v :: st) M cs sl r M') : J X nL pc lv (v :: st) M cs sl r M' := by
  subst hp
  intro ρ H locs LS a1 a2 a3 a4 a5 a6 a7
  exact lv_dup2_2 C.hx C.hb hd (by rw [rv_cat]; exact hv) (k ρ H locs LS a1 a2 a3 a4 a5 a6 (okl_c (fun x e => a7 x (by rw [← e]; exact List.mem_cons_self)) a7))
theorem J_pop (C : Cx X cc own nL ret F Lo) {v : Value} (hd : decode cc pc = .ok (.pop, 1)) (hp : pc + 1 = pc') (hv : v.category = 1) (k : J X nL pc' lv st M cs sl r M') : J X nL pc lv (v :: st) M cs sl r M' := by
  subst hp
  intro ρ H locs LS a1 a2 a3 a4 a5 a6 a7
  exact lv_pop C.hx C.hb hd (by rw [rv_cat]; exact hv) (k ρ H locs LS a1 a2 a3 a4 a5 a6 (okl_t a7))
theorem J_goto (C : Cx X cc own nL ret F Lo) {off : Int} {tgt : Nat} (hd : decode cc pc = .ok (.goto off, 3)) (ht : (pc : Int) + off = (tgt : Int)) (k : J X nL tgt lv st M cs sl r M') : J X nL pc lv st M cs sl r M' := by
  intro ρ H locs LS a1 a2 a3 a4 a5 a6 a7
  exact lv_goto C.hx C.hb hd ht (k ρ H locs LS a1 a2 a3 a4 a5 a6 a7)
theorem J_ifnonnull (C : Cx X cc own nL ret F Lo) {x : Nat} {off : Int} {tgt : Nat} (hd : decode cc pc = .ok (.ifnonnull off, 3)) (ht : (pc : Int) + off = (tgt : Int)) (k : J X nL tgt lv st M cs sl r M') : J X nL pc lv (.ref x :: st) M cs sl r M' := by
  intro ρ H locs LS a1 a2 a3 a4 a5 a6 a7
  exact lv_ifnonnull C.hx C.hb hd ht (k ρ H locs LS a1 a2 a3 a4 a5 a6 (okl_t a7))
theorem J_ifnonnullN (C : Cx X cc own nL ret F Lo) {off : Int} (hd : decode cc pc = .ok (.ifnonnull off, 3)) (hp : pc + 3 = pc') (k : J X nL pc' lv st M cs sl r M') : J X nL pc lv (.null :: st) M cs sl r M' := by
  subst hp
  intro ρ H locs LS a1 a2 a3 a4 a5 a6 a7
  exact lv_ifnonnullN C.hx C.hb hd (k ρ H locs LS a1 a2 a3 a4 a5 a6 (okl_t a7))
theorem J_icmp_eq (C : Cx X cc own nL ret F Lo) {x y : Int32} {off : Int} {tgt : Nat} (hd : decode cc pc = .ok (.if_icmp .eq off, 3)) (ht : (pc : Int) + off = (tgt : Int)) (hp : pc + 3 = pc') (kt : x = y → J X nL tgt lv st M cs sl r M') (kf : ¬ x = y → J X nL pc' lv st M cs sl r M') : J X nL pc lv (.int y :: .int x :: st) M cs sl r M' := by
  subst hp
  intro ρ H locs LS a1 a2 a3 a4 a5 a6 a7
  exact lv_icmp_eq C.hx C.hb hd ht (fun c => kt c ρ H locs LS a1 a2 a3 a4 a5 a6 (okl_t (okl_t a7))) (fun c => kf c ρ H locs LS a1 a2 a3 a4 a5 a6 (okl_t (okl_t a7)))
theorem J_if_eq (C : Cx X cc own nL ret F Lo) {x : Int32} {off : Int} {tgt : Nat} (hd : decode cc pc = .ok (.ifCond .eq off, 3)) (ht : (pc : Int) + off = (tgt : Int)) (hp : pc + 3 = pc') (kt : x = 0 → J X nL tgt lv st M cs sl r M') (kf : ¬ x = 0 → J X nL pc' lv st M cs sl r M') : J X nL pc lv (.int x :: st) M cs sl r M' := by
  subst hp
  intro ρ H locs LS a1 a2 a3 a4 a5 a6 a7
  exact lv_if_eq C.hx C.hb hd ht (fun c => kt c ρ H locs LS a1 a2 a3 a4 a5 a6 (okl_t a7)) (fun c => kf c ρ H locs LS a1 a2 a3 a4 a5 a6 (okl_t a7))
theorem J_icmp_ne (C : Cx X cc own nL ret F Lo) {x y : Int32} {off : Int} {tgt : Nat} (hd : decode cc pc = .ok (.if_icmp .ne off, 3)) (ht : (pc : Int) + off = (tgt : Int)) (hp : pc + 3 = pc') (kt : ¬ x = y → J X nL tgt lv st M cs sl r M') (kf : x = y → J X nL pc' lv st M cs sl r M') : J X nL pc lv (.int y :: .int x :: st) M cs sl r M' := by
  subst hp
  intro ρ H locs LS a1 a2 a3 a4 a5 a6 a7
  exact lv_icmp_ne C.hx C.hb hd ht (fun c => kt c ρ H locs LS a1 a2 a3 a4 a5 a6 (okl_t (okl_t a7))) (fun c => kf c ρ H locs LS a1 a2 a3 a4 a5 a6 (okl_t (okl_t a7)))
theorem J_if_ne (C : Cx X cc own nL ret F Lo) {x : Int32} {off : Int} {tgt : Nat} (hd : decode cc pc = .ok (.ifCond .ne off, 3)) (ht : (pc : Int) + off = (tgt : Int)) (hp : pc + 3 = pc') (kt : ¬ x = 0 → J X nL tgt lv st M cs sl r M') (kf : x = 0 → J X nL pc' lv st M cs sl r M') : J X nL pc lv (.int x :: st) M cs sl r M' := by
  subst hp
  intro ρ H locs LS a1 a2 a3 a4 a5 a6 a7
  exact lv_if_ne C.hx C.hb hd ht (fun c => kt c ρ H locs LS a1 a2 a3 a4 a5 a6 (okl_t a7)) (fun c => kf c ρ H locs LS a1 a2 a3 a4 a5 a6 (okl_t a7))
theorem J_icmp_lt (C : Cx X cc own nL ret F Lo) {x y : Int32} {off : Int} {tgt : Nat} (hd : decode cc pc = .ok (.if_icmp .lt off, 3)) (ht : (pc : Int) + off = (tgt : Int)) (hp : pc + 3 = pc') (kt : x < y → J X nL tgt lv st M cs sl r M') (kf : ¬ x < y → J X nL pc' lv st M cs sl r M') : J X nL pc lv (.int y :: .int x :: st) M cs sl r M' := by
  subst hp
  intro ρ H locs LS a1 a2 a3 a4 a5 a6 a7
  exact lv_icmp_lt C.hx C.hb hd ht (fun c => kt c ρ H locs LS a1 a2 a3 a4 a5 a6 (okl_t (okl_t a7))) (fun c => kf c ρ H locs LS a1 a2 a3 a4 a5 a6 (okl_t (okl_t a7)))
theorem J_if_lt (C : Cx X cc own nL ret F Lo) {x : Int32} {off : Int} {tgt : Nat} (hd : decode cc pc = .ok (.ifCond .lt off, 3)) (ht : (pc : Int) + off = (tgt : Int)) (hp : pc + 3 = pc') (kt : x < 0 → J X nL tgt lv st M cs sl r M') (kf : ¬ x < 0 → J X nL pc' lv st M cs sl r M') : J X nL pc lv (.int x :: st) M cs sl r M' := by
  subst hp
  intro ρ H locs LS a1 a2 a3 a4 a5 a6 a7
  exact lv_if_lt C.hx C.hb hd ht (fun c => kt c ρ H locs LS a1 a2 a3 a4 a5 a6 (okl_t a7)) (fun c => kf c ρ H locs LS a1 a2 a3 a4 a5 a6 (okl_t a7))
theorem J_icmp_ge (C : Cx X cc own nL ret F Lo) {x y : Int32} {off : Int} {tgt : Nat} (hd : decode cc pc = .ok (.if_icmp .ge off, 3)) (ht : (pc : Int) + off = (tgt : Int)) (hp : pc + 3 = pc') (kt : y ≤ x → J X nL tgt lv st M cs sl r M') (kf : ¬ y ≤ x → J X nL pc' lv st M cs sl r M') : J X nL pc lv (.int y :: .int x :: st) M cs sl r M' := by
  subst hp
  intro ρ H locs LS a1 a2 a3 a4 a5 a6 a7
  exact lv_icmp_ge C.hx C.hb hd ht (fun c => kt c ρ H locs LS a1 a2 a3 a4 a5 a6 (okl_t (okl_t a7))) (fun c => kf c ρ H locs LS a1 a2 a3 a4 a5 a6 (okl_t (okl_t a7)))
theorem J_if_ge (C : Cx X cc own nL ret F Lo) {x : Int32} {off : Int} {tgt : Nat} (hd : decode cc pc = .ok (.ifCond .ge off, 3)) (ht : (pc : Int) + off = (tgt : Int)) (hp : pc + 3 = pc') (kt : 0 ≤ x → J X nL tgt lv st M cs sl r M') (kf : ¬ 0 ≤ x → J X nL pc' lv st M cs sl r M') : J X nL pc lv (.int x :: st) M cs sl r M' := by
  subst hp
  intro ρ H locs LS a1 a2 a3 a4 a5 a6 a7
  exact lv_if_ge C.hx C.hb hd ht (fun c => kt c ρ H locs LS a1 a2 a3 a4 a5 a6 (okl_t a7)) (fun c => kf c ρ H locs LS a1 a2 a3 a4 a5 a6 (okl_t a7))
theorem J_icmp_gt (C : Cx X cc own nL ret F Lo) {x y : Int32} {off : Int} {tgt : Nat} (hd : decode cc pc = .ok (.if_icmp .gt off, 3)) (ht : (pc : Int) + off = (tgt : Int)) (hp : pc + 3 = pc') (kt : y < x → J X nL tgt lv st M cs sl r M') (kf : ¬ y < x → J X nL pc' lv st M cs sl r M') : J X nL pc lv (.int y :: .int x :: st) M cs sl r M' := by
  subst hp
  intro ρ H locs LS a1 a2 a3 a4 a5 a6 a7
  exact lv_icmp_gt C.hx C.hb hd ht (fun c => kt c ρ H locs LS a1 a2 a3 a4 a5 a6 (okl_t (okl_t a7))) (fun c => kf c ρ H locs LS a1 a2 a3 a4 a5 a6 (okl_t (okl_t a7)))
theorem J_if_gt (C : Cx X cc own nL ret F Lo) {x : Int32} {off : Int} {tgt : Nat} (hd : decode cc pc = .ok (.ifCond .gt off, 3)) (ht : (pc : Int) + off = (tgt : Int)) (hp : pc + 3 = pc') (kt : 0 < x → J X nL tgt lv st M cs sl r M') (kf : ¬ 0 < x → J X nL pc' lv st M cs sl r M') : J X nL pc lv (.int x :: st) M cs sl r M' := by
  subst hp
  intro ρ H locs LS a1 a2 a3 a4 a5 a6 a7
  exact lv_if_gt C.hx C.hb hd ht (fun c => kt c ρ H locs LS a1 a2 a3 a4 a5 a6 (okl_t a7)) (fun c => kf c ρ H locs LS a1 a2 a3 a4 a5 a6 (okl_t a7))
theorem J_icmp_le (C : Cx X cc own nL ret F Lo) {x y : Int32} {off : Int} {tgt : Nat} (hd : decode cc pc = .ok (.if_icmp .le off, 3)) (ht : (pc : Int) + off = (tgt : Int)) (hp : pc + 3 = pc') (kt : x ≤ y → J X nL tgt lv st M cs sl r M') (kf : ¬ x ≤ y → J X nL pc' lv st M cs sl r M') : J X nL pc lv (.int y :: .int x :: st) M cs sl r M' := by
  subst hp
  intro ρ H locs LS a1 a2 a3 a4 a5 a6 a7
  exact lv_icmp_le C.hx C.hb hd ht (fun c => kt c ρ H locs LS a1 a2 a3 a4 a5 a6 (okl_t (okl_t a7))) (fun c => kf c ρ H locs LS a1 a2 a3 a4 a5 a6 (okl_t (okl_t a7)))
theorem J_if_le (C : Cx X cc own nL ret F Lo) {x : Int32} {off : Int} {tgt : Nat} (hd : decode cc pc = .ok (.ifCond .le off, 3)) (ht : (pc : Int) + off = (tgt : Int)) (hp : pc + 3 = pc') (kt : x ≤ 0 → J X nL tgt lv st M cs sl r M') (kf : ¬ x ≤ 0 → J X nL pc' lv st M cs sl r M') : J X nL pc lv (.int x :: st) M cs sl r M' := by
  subst hp
  intro ρ H locs LS a1 a2 a3 a4 a5 a6 a7
  exact lv_if_le C.hx C.hb hd ht (fun c => kt c ρ H locs LS a1 a2 a3 a4 a5 a6 (okl_t a7)) (fun c => kf c ρ H locs LS a1 a2 a3 a4 a5 a6 (okl_t a7))
theorem J_tableOut (C : Cx X cc own nL ret F Lo) {dflt lo hi : Int} {offs : Array Int} {len : Nat} {x : Int32} {tgt : Nat} (hd : decode cc pc = .ok (.tableswitch dflt lo hi offs, len)) (h : x.toInt < lo ∨ hi < x.toInt) (ht : (pc : Int) + dflt = (tgt : Int)) (k : J X nL tgt lv st M cs sl r M') : J X nL pc lv (.int x :: st) M cs sl r M' := by
  intro ρ H locs LS a1 a2 a3 a4 a5 a6 a7
  exact lv_tableOut C.hx C.hb hd h ht (k ρ H locs LS a1 a2 a3 a4 a5 a6 (okl_t a7))
theorem J_tableIn (C : Cx X cc own nL ret F Lo) {dflt lo hi : Int} {offs : Array Int} {len : Nat} {x : Int32} {off : Int} {tgt : Nat} (hd : decode cc pc = .ok (.tableswitch dflt lo hi offs, len)) (h1 : ¬ x.toInt < lo) (h2 : ¬ hi < x.toInt) (ho : offs[(x.toInt - lo).toNat]? = some off) (ht : (pc : Int) + off = (tgt : Int)) (k : J X nL tgt lv st M cs sl r M') : J X nL pc lv (.int x :: st) M cs sl r M' := by
  intro ρ H locs LS a1 a2 a3 a4 a5 a6 a7
  exact lv_tableIn C.hx C.hb hd h1 h2 ho ht (k ρ H locs LS a1 a2 a3 a4 a5 a6 (okl_t a7))
/-- fewer locals, in any order -/
theorem J_sub (ks : List Nat) (hl : lv_pick lv ks = lv') (k : J X nL pc lv' st M cs sl r M') : J X nL pc lv st M cs sl r M' := by
  subst hl
  intro ρ H locs LS a1 a2 a3 a4 a5 a6 a7
  have e : ∀ ks : List Nat, lv_pick (lv.map (fun q => (q.1, rv ρ q.2))) ks = (lv_pick lv ks).map (fun q => (q.1, rv ρ q.2)) := by
    intro ks
    induction ks with
    | nil => rfl
    | cons j t ih =>
      simp only [lv_pick, List.filterMap_cons, List.getElem?_map] at ih ⊢
      cases hj : lv[j]? with
      | none => simpa using ih
      | some z => simpa using ih
  refine k ρ H locs LS a1 a2 a3 a4 (lv_sub a5 ks (e ks)) (fun x hx => ?_) a7
  obtain ⟨q, hq, e2⟩ := List.mem_map.mp hx
  obtain ⟨i, -, hi⟩ := List.mem_filterMap.mp hq
  exact a6 x (List.mem_map.mpr ⟨q, List.mem_of_getElem? hi, e2⟩)
theorem J_widen {cs1 sl1 : Nat} (h1 : cs ≤ cs1) (h2 : sl ≤ sl1) (k : J X nL pc lv st M cs1 sl1 r M') : J X nL pc lv st M cs sl r M' := by
  intro ρ H locs LS a1 a2 a3 a4 a5 a6 a7
  exact W.widen h1 h2 (k ρ H locs LS a1 a2 a3 a4 a5 a6 a7)

theorem J_iret (C : Cx X cc own nL (some .int) F Lo) {v : Int32} (hd : decode cc pc = .ok (.ireturn, 1)) (h1 : cs ≤ xMC X) (h2 : sl ≤ xMS X) : J X nL pc lv [.int v] M cs sl (some (.int v)) M := by
  intro ρ H locs LS a1 a2 a3 a4 a5 a6 a7
  exact W.widen h1 h2 (W.iret C.hx C.hb C.hr (fun t ht hW => ⟨⟨ρ, a1, a2, rfl, C.hK.warm hW, by rw [ht]; exact a3, okl_i (fun _ h => absurd h List.not_mem_nil)⟩, a4.F ht⟩) a4.2.2 hd C.hlk)
theorem J_zret (C : Cx X cc own nL (some .boolean) F Lo) {v : Int32} (hn : narrow .boolean (.int v) = .int v) (hd : decode cc pc = .ok (.ireturn, 1)) (h1 : cs ≤ xMC X) (h2 : sl ≤ xMS X) : J X nL pc lv [.int v] M cs sl (some (.int v)) M := by
  intro ρ H locs LS a1 a2 a3 a4 a5 a6 a7
  exact W.widen h1 h2 (W.zret C.hx C.hb C.hr hn (fun t ht hW => ⟨⟨ρ, a1, a2, rfl, C.hK.warm hW, by rw [ht]; exact a3, okl_i (fun _ h => absurd h List.not_mem_nil)⟩, a4.F ht⟩) a4.2.2 hd C.hlk)
theorem J_lret (C : Cx X cc own nL (some .long) F Lo) {v : Int64} (hd : decode cc pc = .ok (.lreturn, 1)) (h1 : cs ≤ xMC X) (h2 : sl ≤ xMS X) : J X nL pc lv [.long v] M cs sl (some (.long v)) M := by
  intro ρ H locs LS a1 a2 a3 a4 a5 a6 a7
  exact W.widen h1 h2 (W.lret C.hx C.hb C.hr (fun t ht hW => ⟨⟨ρ, a1, a2, rfl, C.hK.warm hW, by rw [ht]; exact a3, okl_l (fun _ h => absurd h List.not_mem_nil)⟩, a4.F ht⟩) a4.2.2 hd C.hlk)
theorem J_vret (C : Cx X cc own nL none F Lo) (hd : decode cc pc = .ok (.return_, 1)) (h1 : cs ≤ xMC X) (h2 : sl ≤ xMS X) : J X nL pc lv [] M cs sl none M := by
  intro ρ H locs LS a1 a2 a3 a4 a5 a6 a7
  exact W.widen h1 h2 (W.vret C.hx C.hb C.hr (fun t ht hW => ⟨⟨ρ, a1, a2, rfl, C.hK.warm hW, by rw [ht]; exact a3, fun _ h => absurd h List.not_mem_nil⟩, a4.F ht⟩) a4.2.2 hd C.hlk)
theorem J_aret (C : Cx X cc own nL ret F Lo) {rt : FieldType} {a : Nat} (hrt : ret = some rt) (hty : (∃ n, rt = .object n) ∨ ∃ t, rt = .array t) (hd : decode cc pc = .ok (.areturn, 1)) (h1 : cs ≤ xMC X) (h2 : sl ≤ xMS X) : J X nL pc lv [.ref a] M cs sl (some (.ref a)) M := by
  intro ρ H locs LS a1 a2 a3 a4 a5 a6 a7
  exact W.widen h1 h2 (W.aret C.hx C.hb (C.hr.trans hrt) hty (Or.inr ⟨_, rfl⟩) (fun t ht hW => ⟨⟨ρ, a1, a2, rfl, C.hK.warm hW, by rw [ht]; exact a3, a7⟩, a4.F ht⟩) a4.2.2 hd C.hlk)
end Rl
