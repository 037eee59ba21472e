/-! NEW CELLS AND CALLS: the rules of J that make cells, and those that call. -/
theorem rv_ext {M : A_M} {ρ ρ1 : Nat → Nat} (h : ∀ k, M k ≠ none → ρ1 k = ρ k) {vs : List Value} (ho : okl M vs) : vs.map (rv ρ1) = vs.map (rv ρ) := by
  apply List.map_congr_left
  intro v hv
  cases v with
  | ref x => exact congrArg Value.ref (h x (ho x hv))
  | _ => rfl
theorem rv_ext2 {M : A_M} {ρ ρ1 : Nat → Nat} (h : ∀ k, M k ≠ none → ρ1 k = ρ k) {lv : List (Nat × Value)} (ho : okl M (lv.map (fun q => q.2))) : lv.map (fun q => (q.1, rv ρ1 q.2)) = lv.map (fun q => (q.1, rv ρ q.2)) := by
  apply List.map_congr_left
  intro q hq
  obtain ⟨i, v⟩ := q
  cases v with
  | ref x => exact congrArg (fun z => (i, Value.ref z)) (h x (ho x (List.mem_map.mpr ⟨_, hq, rfl⟩)))
  | _ => rfl
theorem rc_ext {M : A_M} {ρ ρ1 : Nat → Nat} {cK : Nat → ClassId} (h : ∀ k, M k ≠ none → ρ1 k = ρ k) {c : A_C} (ho : okc M c) : rc cK ρ1 c = rc cK ρ c := by
  rcases c with ⟨k, n, f | f | f | f | f⟩ | ⟨k, fs⟩
  · rfl
  · rfl
  · rfl
  · rfl
  · have e : (fun j => (f j).map ρ1) = (fun j => (f j).map ρ) := by
      funext j
      cases hj : f j with
      | none => rfl
      | some x => exact congrArg some (h x (ho j x hj))
    simp only [rc, rA, e]
  · simp only [rc, rv_ext h (vs := fs) ho]
theorem Rel.push {D : va_G} {cK : Nat → ClassId} {sz0 : Nat} {ρ : Nat → Nat} {M : A_M} {H1 : Heap} {ws : va_W} {q n : Nat} {c' : A_C} {e : va_E} (hcov : ∀ k c, M k = some c → ∃ q : Nat, ws[q]? = some (ρ k, rc cK ρ c)) (hinj : ∀ j k, M j ≠ none → M k ≠ none → ρ j = ρ k → j = k) (hcl : ∀ k c, M k = some c → okc M c)
    (hn : M n = none) (hc : ∀ ρ1, rc cK ρ1 c' = e) (ho : okc M c') (hP : va_P D vwCl (ws ++ [(q, e)]) H1) (hD : va_D (fun q => sz0 ≤ q) (ws ++ [(q, e)])) (hz : sz0 ≤ H1.size) : Rel D cK sz0 (fun j => if j = n then q else ρ j) (upM M n c') H1 := by
  have hρ : ∀ k, M k ≠ none → (fun j => if j = n then q else ρ j) k = ρ k := fun k hk => if_neg (fun e => hk (by rw [e]; exact hn))
  have hpos : ∀ k, M k ≠ none → k ≠ n := fun k hk e => hk (by rw [e]; exact hn)
  have hlast : (ws ++ [(q, e)])[ws.length]? = some (q, e) := by rw [List.getElem?_append_right (Nat.le_refl _)]; simp
  have hnq : ∀ k, M k ≠ none → ρ k ≠ q := by
    intro k hk e1
    cases hc1 : M k with
    | none => exact hk hc1
    | some c =>
      obtain ⟨q1, h1⟩ := hcov k c hc1
      have hl := (List.getElem?_eq_some_iff.mp h1).1
      have h2 : (ws ++ [(q, e)])[q1]? = some (ρ k, rc cK ρ c) := by rw [List.getElem?_append_left hl]; exact h1
      have h3 := hD.1 q1 ws.length _ _ h2 hlast e1
      omega
  refine ⟨⟨_, hP, hD, fun k c hk => ?_⟩, fun j k hj hk hjk => ?_, fun k c hk => ?_, hz⟩
  · by_cases e1 : k = n
    · subst e1
      rw [upM_eq] at hk
      cases hk
      exact ⟨ws.length, by rw [hlast, hc]; simp⟩
    · rw [upM_ne M c' e1] at hk
      obtain ⟨q1, h1⟩ := hcov k c hk
      have hl := (List.getElem?_eq_some_iff.mp h1).1
      refine ⟨q1, ?_⟩
      rw [List.getElem?_append_left hl, h1, rc_ext hρ (hcl k c hk)]
      simp only [if_neg e1]
  · by_cases ej : j = n
    · by_cases ek : k = n
      · rw [ej, ek]
      · rw [upM_ne M c' ek] at hk
        simp only [ej, if_pos, if_neg ek] at hjk
        exact absurd hjk.symm (hnq k hk)
    · rw [upM_ne M c' ej] at hj
      by_cases ek : k = n
      · simp only [ek, if_pos, if_neg ej] at hjk
        exact absurd hjk (hnq j hj)
      · rw [upM_ne M c' ek] at hk
        simp only [if_neg ej, if_neg ek] at hjk
        exact hinj j k hj hk hjk
  · by_cases e1 : k = n
    · subst e1
      rw [upM_eq] at hk
      cases hk
      exact okc_mono (fun _ h => upM_dom h) ho
    · rw [upM_ne M c' e1] at hk
      exact okc_mono (fun _ h => upM_dom h) (hcl k c hk)
section Nw
variable {X : JX} {cc : ByteArray} {own : String} {nL : Nat} {ret : Option FieldType} {F Lo pc pc' : Nat} {lv lv' : List (Nat × Value)} {st : List Value} {M M1 M' : A_M} {cs sl : Nat} {r : Option Value}
/-- behind a making: the walk goes on with the new id -/
theorem J_made {ρ : Nat → Nat} {n q : Nat} {c' : A_C} {H1 : Heap} {locs1 : List Loc} {LS : Array Slot} {cs1 sl1 : Nat} (hn : M n = none) (a1 : ∀ k, xM X k ≠ none → ρ k = xρ X k) (a2 : ∀ k, xM X k ≠ none → M k ≠ none) (a5 : lv_has LS nL (lv.map (fun q => (q.1, rv ρ q.2)))) (a6 : okl M (lv.map (fun q => q.2))) (a7 : okl M st)
    (hR : Rel (xD X) (xcK X) (xsz X) (fun j => if j = n then q else ρ j) (upM M n c') H1) (hS : va_S (fun q => xsz X ≤ q) (xs X).heap H1 locs1) (kk : J X nL pc lv (.ref n :: st) (upM M n c') cs1 sl1 r M') :
    W (xp X) (xl X) (xe X) (xR X) (xs X) (xm X) (xargs X) (xbelow X) (xmeth X) (xc X) H1 locs1 cs1 sl1 (MQ (xbelow X) (Qr (xD X) (xcK X) (xsz X) (xρ X) (xM X) r M') (xargs X) (xs X) (xMC X) (xMS X) (fun q => xsz X ≤ q)) (F0 (xm X) pc LS (.ref q :: st.map (rv ρ))) := by
  have hρ : ∀ k, M k ≠ none → (fun j => if j = n then q else ρ j) k = ρ k := fun k hk => if_neg (fun e => hk (by rw [e]; exact hn))
  have h := kk (fun j => if j = n then q else ρ j) H1 locs1 LS (fun k hk => (hρ k (a2 k hk)).trans (a1 k hk)) (fun k hk => upM_dom (a2 k hk)) hR hS (by rw [rv_ext2 hρ a6]; exact a5) (okl_mono (fun _ h => upM_dom h) a6) (okl_c (fun x e => by cases e; rw [upM_eq]; exact Option.some_ne_none _) (okl_mono (fun _ h => upM_dom h) a7))
  rw [List.map_cons, rv_ext hρ a7] at h
  have e : rv (fun j => if j = n then q else ρ j) (.ref n) = .ref q := by simp [rv]
  rw [e] at h
  exact h
theorem J_new (C : Cx X cc own nL ret F Lo) {Cn : String} {T : u_T} {N idx : Nat} {fs : List Value} (ci n : Nat) (hc : vwCl[ci]? = some (Cn, T, N)) (hin : ∀ w ∈ u_ws Cn T N, w ∈ lw_all) (ty : Nat → FieldType) (hty : ∀ k, k < N → parseFieldDescriptor (T k).2.2.1 = some (ty k)) (hcl0 : Cond.classLink own idx Cn ∈ lw_all) (hinst : Cond.instantiable Cn N ∈ lw_all) (hini : Cond.initialized Cn ∈ lw_all) (hfs : ∀ j, j < N → defaultValue (ty j) = vp_V fs j) (hfr : fs.all (fun v => match v with | .ref _ => false | _ => true) = true) (hn : M n = none) (hc1 : cs + 1 ≤ xMC X) (hs1 : sl + N ≤ xMS X) (hd : decode cc pc = .ok (.new idx, 3)) (hp : pc + 3 = pc') (kk : J X nL pc' lv (.ref n :: st) (upM M n (.inr (ci, fs))) (cs + 1) (sl + N) r M') : J X nL pc lv st M cs sl r M' := by
  subst hp
  intro ρ H locs LS a1 a2 a3 a4 a5 a6 a7
  obtain ⟨⟨ws, hP, hD, hcov⟩, hinj, hcl, hz⟩ := id a3
  have hnr : ∀ x, Value.ref x ∉ fs := fun x hx => by have := List.all_eq_true.mp hfr _ hx; cases this
  refine va_new C.hx C.hb C.hts hin ty hty C.hown (C.hts _ hcl0) (C.hts _ hinst) (C.hts _ hini) C.hK.1 hP hD a4 (fun q h => Nat.le_trans C.hsz h) hc hfs (by rw [C.hmc]; exact hc1) (by rw [C.hms]; exact hs1) hd (fun q H1 hP1 hD1 hS1 => ?_)
  refine J_made hn a1 a2 a5 a6 a7 (Rel.push (c' := .inr (ci, fs)) hcov hinj hcl hn (fun ρ1 => ?_) (fun x hx => absurd hx (hnr x)) hP1 hD1 (Nat.le_trans C.hsz hS1.1)) hS1 kk
  show Sum.inr (ci, fs.map (rv ρ1)) = _
  have e : fs.map (rv ρ1) = fs := by
    conv => rhs; rw [← List.map_id fs]
    apply List.map_congr_left
    intro v hv
    cases v with
    | ref x => exact absurd hv (hnr x)
    | _ => rfl
  rw [e]
theorem cls_uniq {U : State} {a b : ClassId} {ty : FieldType} (h1 : va_RA U a ty) (h2 : va_RA U b ty) : a = b := by
  cases ty with
  | object C =>
    obtain ⟨_, _, _, _, _, e1⟩ := h1
    obtain ⟨_, _, _, _, _, e2⟩ := h2
    exact Option.some.inj (e1.symm.trans e2)
  | _ => exact Option.some.inj (Eq.trans (Eq.symm h1) h2)
theorem J_newI (C : Cx X cc own nL ret F Lo) {len : Int32} {N : Nat} (n : Nat) (hw : Cond.arrayClass .int ∈ lw_all) (hn : M n = none) (h0 : ¬ len < 0) (hN : len.toNatClampNeg = N) (hby : N * componentBytes .int ≤ 536870912) (hc1 : cs + 1 ≤ xMC X) (hs1 : sl + N ≤ xMS X) (hd : decode cc pc = .ok (.newarray .int, 2)) (hp : pc + 2 = pc') (kk : J X nL pc' lv (.ref n :: st) (upM M n (.inl (0, (N, .inl (fun _ => 0))))) (cs + 1) (sl + N) r M') : J X nL pc lv (.int len :: st) M cs sl r M' := by
  subst hp
  intro ρ H locs LS a1 a2 a3 a4 a5 a6 a7
  obtain ⟨⟨ws, hP, hD, hcov⟩, hinj, hcl, hz⟩ := id a3
  refine va_newa (atype := .int) (ty := .int) C.hx C.hb (C.hts _ hw) rfl C.hK.1 hP hD a4 (fun q h => Nat.le_trans C.hsz h) (a0 := (N, .inl (fun _ => 0))) (fun _ => rfl) h0 hN hby (by rw [C.hmc]; exact hc1) (by rw [C.hms]; exact hs1) hd (fun q cA H1 hK1 hP1 hD1 hS1 => ?_)
  have e : cA = xcK X 0 := cls_uniq (hK1.2 4 _ rfl).2 (hK1.2 0 _ rfl).2
  subst e
  exact J_made hn a1 a2 a5 a6 (okl_t a7) (Rel.push (c' := .inl (0, (N, .inl (fun _ => 0)))) hcov hinj hcl hn (fun ρ1 => rfl) trivial hP1 hD1 (Nat.le_trans C.hsz hS1.1)) hS1 kk
theorem J_newJ (C : Cx X cc own nL ret F Lo) {len : Int32} {N : Nat} (n : Nat) (hw : Cond.arrayClass .long ∈ lw_all) (hn : M n = none) (h0 : ¬ len < 0) (hN : len.toNatClampNeg = N) (hby : N * componentBytes .long ≤ 536870912) (hc1 : cs + 1 ≤ xMC X) (hs1 : sl + N ≤ xMS X) (hd : decode cc pc = .ok (.newarray .long, 2)) (hp : pc + 2 = pc') (kk : J X nL pc' lv (.ref n :: st) (upM M n (.inl (1, (N, .inr (.inl (fun _ => 0)))))) (cs + 1) (sl + N) r M') : J X nL pc lv (.int len :: st) M cs sl r M' := by
  subst hp
  intro ρ H locs LS a1 a2 a3 a4 a5 a6 a7
  obtain ⟨⟨ws, hP, hD, hcov⟩, hinj, hcl, hz⟩ := id a3
  refine va_newa (atype := .long) (ty := .long) C.hx C.hb (C.hts _ hw) rfl C.hK.1 hP hD a4 (fun q h => Nat.le_trans C.hsz h) (a0 := (N, .inr (.inl (fun _ => 0)))) (fun _ => rfl) h0 hN hby (by rw [C.hmc]; exact hc1) (by rw [C.hms]; exact hs1) hd (fun q cA H1 hK1 hP1 hD1 hS1 => ?_)
  have e : cA = xcK X 1 := cls_uniq (hK1.2 4 _ rfl).2 (hK1.2 1 _ rfl).2
  subst e
  exact J_made hn a1 a2 a5 a6 (okl_t a7) (Rel.push (c' := .inl (1, (N, .inr (.inl (fun _ => 0))))) hcov hinj hcl hn (fun ρ1 => rfl) trivial hP1 hD1 (Nat.le_trans C.hsz hS1.1)) hS1 kk
theorem J_newZ (C : Cx X cc own nL ret F Lo) {len : Int32} {N : Nat} (n : Nat) (hw : Cond.arrayClass .boolean ∈ lw_all) (hn : M n = none) (h0 : ¬ len < 0) (hN : len.toNatClampNeg = N) (hby : N * componentBytes .boolean ≤ 536870912) (hc1 : cs + 1 ≤ xMC X) (hs1 : sl + N ≤ xMS X) (hd : decode cc pc = .ok (.newarray .boolean, 2)) (hp : pc + 2 = pc') (kk : J X nL pc' lv (.ref n :: st) (upM M n (.inl (2, (N, .inl (fun _ => 0))))) (cs + 1) (sl + N) r M') : J X nL pc lv (.int len :: st) M cs sl r M' := by
  subst hp
  intro ρ H locs LS a1 a2 a3 a4 a5 a6 a7
  obtain ⟨⟨ws, hP, hD, hcov⟩, hinj, hcl, hz⟩ := id a3
  refine va_newa (atype := .boolean) (ty := .boolean) C.hx C.hb (C.hts _ hw) rfl C.hK.1 hP hD a4 (fun q h => Nat.le_trans C.hsz h) (a0 := (N, .inl (fun _ => 0))) (fun _ => rfl) h0 hN hby (by rw [C.hmc]; exact hc1) (by rw [C.hms]; exact hs1) hd (fun q cA H1 hK1 hP1 hD1 hS1 => ?_)
  have e : cA = xcK X 2 := cls_uniq (hK1.2 4 _ rfl).2 (hK1.2 2 _ rfl).2
  subst e
  exact J_made hn a1 a2 a5 a6 (okl_t a7) (Rel.push (c' := .inl (2, (N, .inl (fun _ => 0)))) hcov hinj hcl hn (fun ρ1 => rfl) trivial hP1 hD1 (Nat.le_trans C.hsz hS1.1)) hS1 kk
theorem J_anew (C : Cx X cc own nL ret F Lo) {len : Int32} {N idx : Nat} (n : Nat) (hw : Cond.classLink own idx "WordChest$Code" ∈ lw_all) (hn : M n = none) (h0 : ¬ len < 0) (hN : len.toNatClampNeg = N) (hby : N * 4 ≤ 536870912) (hc1 : cs + 1 ≤ xMC X) (hs1 : sl + N ≤ xMS X) (hd : decode cc pc = .ok (.anewarray idx, 3)) (hp : pc + 3 = pc') (kk : J X nL pc' lv (.ref n :: st) (upM M n (.inl (3, (N, .inr (.inr (.inr (.inr (fun _ => none)))))))) (cs + 1) (sl + N) r M') : J X nL pc lv (.int len :: st) M cs sl r M' := by
  subst hp
  intro ρ H locs LS a1 a2 a3 a4 a5 a6 a7
  obtain ⟨⟨ws, hP, hD, hcov⟩, hinj, hcl, hz⟩ := id a3
  refine va_newq C.hx C.hb C.hown (C.hts _ hw) C.hK.2.2 C.hK.1 hP hD a4 (fun q h => Nat.le_trans C.hsz h) h0 hN hby (by rw [C.hmc]; exact hc1) (by rw [C.hms]; exact hs1) hd (fun q cA H1 hK1 hP1 hD1 hS1 => ?_)
  have e : cA = xcK X 3 := cls_uniq (hK1.2 4 _ rfl).2 (hK1.2 3 _ rfl).2
  subst e
  exact J_made hn a1 a2 a5 a6 (okl_t a7) (Rel.push (c' := .inl (3, (N, .inr (.inr (.inr (.inr (fun _ => none))))))) hcov hinj hcl hn (fun ρ1 => rfl) (fun j x e => by cases e) hP1 hD1 (Nat.le_trans C.hsz hS1.1)) hS1 kk
end Nw
section Cl
variable {X : JX} {cc : ByteArray} {own : String} {nL : Nat} {ret : Option FieldType} {F Lo pc pc' : Nat} {lv lv' : List (Nat × Value)} {st st1 : List Value} {M M1 M' : A_M} {cs sl : Nat} {r : Option Value}
/-- behind a call -/
theorem J_after {ρ : Nat → Nat} {H : Heap} {locs : List Loc} {LS : Array Slot} {mc ms : Nat} {st0 : List Value} {r1 : Option Value} {av : Array Value} (hrun : va_Run (xp X) (xl X) (xe X) (xR X) (xs X) (xm X) (xargs X) (xbelow X) (xmeth X) (xc X) H locs cs sl mc ms (F0 (xm X) pc LS st0) (st.map (rv ρ)) (Qr (xD X) (xcK X) (xsz X) ρ M r1 M1 av) (fun q => xsz X ≤ q))
    (a1 : ∀ k, xM X k ≠ none → ρ k = xρ X k) (a2 : ∀ k, xM X k ≠ none → M k ≠ none) (a4 : va_S (fun q => xsz X ≤ q) (xs X).heap H locs) (a5 : lv_has LS nL (lv.map (fun q => (q.1, rv ρ q.2)))) (a6 : okl M (lv.map (fun q => q.2))) (a7 : okl M st) (kk : J X nL (pc + 3) lv (r1.toList ++ st) M1 (cs + mc) (sl + ms) r M') :
    W (xp X) (xl X) (xe X) (xR X) (xs X) (xm X) (xargs X) (xbelow X) (xmeth X) (xc X) H locs cs sl (MQ (xbelow X) (Qr (xD X) (xcK X) (xsz X) (xρ X) (xM X) r M') (xargs X) (xs X) (xMC X) (xMS X) (fun q => xsz X ≤ q)) (F0 (xm X) pc LS st0) := by
  intro T hT XS
  obtain ⟨v, s0, t, T', L, h0, X', hL, e1, e2, ⟨⟨ρ1, hρ, hdom, hv, hK, hR, hok⟩, hz, hk⟩, hst⟩ := hrun T hT XS
  have hv' : v = r1.map (rv ρ1) := by injection hv
  subst hv'
  rw [h0] at hz hk
  have hS : va_S (fun q => xsz X ≤ q) (xs X).heap T'.heap (locs ++ L) := by
    refine ⟨Nat.le_trans a4.1 (by rw [e1]; exact hz), fun q h1 h2 => by rw [e1, hk q (Nat.lt_of_lt_of_le h1 a4.1) h2]; exact a4.2.1 q h1 h2, fun q hq => ?_⟩
    rcases List.mem_append.mp hq with h | h
    · exact a4.2.2 q h
    · exact hL q h
  have h := kk ρ1 T'.heap (locs ++ L) LS (fun k hk => (hρ k (a2 k hk)).trans (a1 k hk)) (fun k hk => hdom k (a2 k hk)) (by rw [e1]; exact hR) hS (by rw [rv_ext2 hρ a6]; exact a5) (okl_mono hdom a6) (okl_app hok (okl_mono hdom a7)) T' rfl X'
  obtain ⟨t2, b1, b2⟩ := h
  refine ⟨t2, hst t2 ?_, b2⟩
  rw [List.map_append, rv_ext hρ a7] at b1
  cases r1 with
  | none => exact b1
  | some w => exact b1
theorem J_blind {D : va_G} {cK : Nat → ClassId} {sz0 : Nat} {ρ : Nat → Nat} {as : List Value} : FrameBlind (va_Pc (as.map (rv ρ)) (fun U => KK D cK U ∧ Rel D cK sz0 ρ M U.heap ∧ okl M as)) := fun a U g mk q => ⟨q.1, KK.moved0 (s := U) (U := U.calling g mk a) rfl q.2.1, q.2.2.1, q.2.2.2⟩
/-- a method of ours as a callee: its words -/
def MwS (y : MethodName) (bc : ByteArray) (maxL : Nat) (ret : Option FieldType) (n : Nat) : Prop := Cond.code y bc maxL ret ∈ lw_all ∧ Cond.initialized y.cls ∈ lw_all ∧ Cond.static y ∈ lw_all ∧ y.cls ≠ "java/lang/invoke/MethodHandle" ∧ y.cls ≠ "java/lang/invoke/VarHandle" ∧ (parseMethodDescriptor y.desc).map (fun d => d.parameters.length) = some n
def MwV (y : MethodName) (bc : ByteArray) (maxL : Nat) (ret : Option FieldType) (n : Nat) : Prop := Cond.code y bc maxL ret ∈ lw_all ∧ Cond.initialized y.cls ∈ lw_all ∧ Cond.instanceMethod y ∈ lw_all ∧ Cond.selects y.cls y y ∈ lw_all ∧ y.cls ≠ "java/lang/invoke/MethodHandle" ∧ y.cls ≠ "java/lang/invoke/VarHandle" ∧ (parseMethodDescriptor y.desc).map (fun d => d.parameters.length) = some n
def MwI (y : MethodName) (bc : ByteArray) (maxL : Nat) (n : Nat) : Prop := Cond.code y bc maxL none ∈ lw_all ∧ Cond.initialized y.cls ∈ lw_all ∧ Cond.instanceMethod y ∈ lw_all ∧ y.name = "<init>" ∧ y.cls ≠ "java/lang/invoke/MethodHandle" ∧ y.cls ≠ "java/lang/invoke/VarHandle" ∧ (parseMethodDescriptor y.desc).map (fun d => d.parameters.length) = some n
theorem cat_sum (ρ : Nat → Nat) (vs : List Value) : ((vs.map (rv ρ)).map fun v => v.category).sum = (vs.map fun v => v.category).sum := by
  rw [List.map_map]
  congr 1
  apply List.map_congr_left
  intro v _
  exact rv_cat ρ v
theorem lw_gw {y : MethodName} {bc : ByteArray} {maxL : Nat} {ret : Option FieldType} (h : Cond.code y bc maxL ret ∈ lw_all) : GoodIn lw_all (.code y bc maxL ret :: lw_all) := fun w hw => by
  rcases List.mem_cons.mp hw with rfl | hw
  · exact lw_all_good _ h
  · exact lw_all_good _ hw
theorem J_callS (C : Cx X cc own nL ret F Lo) {y : MethodName} {bc : ByteArray} {maxL n idx F1 L1 mc ms : Nat} {rt : Option FieldType} {as : List Value} {r1 : Option Value} (hM : Runs y bc maxL rt F1 L1 mc ms as M r1 M1) (hm : MwS y bc maxL rt n) (hl : Cond.methodLink own idx y ∈ lw_all) (hn : as.length = n) (hd : decode cc pc = .ok (.invokestatic idx, 3)) (hp : pc + 3 = pc') (hs : st1 = as.reverse ++ st) (h8 : (st.map fun v => v.category).sum ≤ 8) (hF : F1 + 1 ≤ F) (hL : 8 + (maxL + 11) + L1 ≤ Lo) (hc1 : cs + mc ≤ xMC X) (hs1 : sl + ms ≤ xMS X) (kk : J X nL pc' lv (r1.toList ++ st) M1 (cs + mc) (sl + ms) r M') : J X nL pc lv st1 M cs sl r M' := by
  subst hp
  subst hs
  intro ρ H locs LS a1 a2 a3 a4 a5 a6 a7
  obtain ⟨m1, m2, m3, m4, m5, m6⟩ := hm
  have hG : GoodIn lw_all (va_wsS own idx y (.code y bc maxL rt :: lw_all)) := fun w hw => by
    unfold va_wsS at hw
    rcases List.mem_append.mp hw with h | h
    · simp only [List.mem_cons, List.not_mem_nil, or_false] at h
      rcases h with rfl | rfl | rfl
      · exact lw_all_good _ hl
      · exact lw_all_good _ m3
      · exact lw_all_good _ m2
    · exact lw_gw m1 w h
  have oas : okl M as := fun x hx => a7 x (List.mem_append_left _ (List.mem_reverse.mpr hx))
  have ost : okl M st := fun x hx => a7 x (List.mem_append_right _ hx)
  refine J_after (mc := mc) (ms := ms) (r1 := r1) (av := (as.map (rv ρ)).toArray) (va_runS (As := as.map (rv ρ)) (rest := st.map (rv ρ)) ⟨C.hx, C.hb, C.hml, C.hown, C.hts⟩ (hM (xl X) (xD X) (xcK X) (xsz X) ρ { frames := F1, cells := mc, slots := ms, locals := L1 } (Nat.le_refl _) (Nat.le_refl _) rfl rfl) (va_cwS n C.hts hG rfl rfl rfl ⟨m4, m5, m6⟩ ⟨Nat.le_trans hF C.hF, Nat.le_trans hL C.hLo⟩) ⟨J_blind, fun U hU hW => ⟨rfl, C.hK.warm hW, by rw [hU]; exact a3, oas⟩⟩ rfl (by rw [List.length_map]; exact hn) a5.1 (by show (List.map (rv ρ) (as.reverse ++ st)) = _; rw [List.map_append, List.map_reverse]) (by show 2 * 0 + _ ≤ _; rw [cat_sum]; omega) hd ⟨by rw [C.hmc]; exact hc1, by rw [C.hms]; exact hs1⟩) a1 a2 a4 a5 a6 ost kk
theorem J_callSN (C : Cx X cc own nL ret F Lo) {y : MethodName} {bc : ByteArray} {maxL n idx F1 L1 mc ms : Nat} {rt : Option FieldType} {as : List Value} {r1 : Option Value} {host : String} (hM : Runs y bc maxL rt F1 L1 mc ms as M r1 M1) (hm : MwS y bc maxL rt n) (hl : Cond.methodLinkNest own idx y host ∈ lw_nest) (hn : as.length = n) (hd : decode cc pc = .ok (.invokestatic idx, 3)) (hp : pc + 3 = pc') (hs : st1 = as.reverse ++ st) (h8 : (st.map fun v => v.category).sum ≤ 8) (hF : F1 + 1 ≤ F) (hL : 8 + (maxL + 11) + L1 ≤ Lo) (hc1 : cs + mc ≤ xMC X) (hs1 : sl + ms ≤ xMS X) (kk : J X nL pc' lv (r1.toList ++ st) M1 (cs + mc) (sl + ms) r M') : J X nL pc lv st1 M cs sl r M' := by
  subst hp
  subst hs
  intro ρ H locs LS a1 a2 a3 a4 a5 a6 a7
  obtain ⟨m1, m2, m3, m4, m5, m6⟩ := hm
  have oas : okl M as := fun x hx => a7 x (List.mem_append_left _ (List.mem_reverse.mpr hx))
  have ost : okl M st := fun x hx => a7 x (List.mem_append_right _ hx)
  refine J_after (mc := mc) (ms := ms) (r1 := r1) (av := (as.map (rv ρ)).toArray) (va_runSN (As := as.map (rv ρ)) (rest := st.map (rv ρ)) ⟨C.hx, C.hb, C.hml, C.hown, C.hts⟩ (hM (xl X) (xD X) (xcK X) (xsz X) ρ { frames := F1, cells := mc, slots := ms, locals := L1 } (Nat.le_refl _) (Nat.le_refl _) rfl rfl) ⟨va_cnB n C.hts (lw_gw m1) rfl rfl rfl (C.hK.2.1 _ hl) (C.hts _ m2) ⟨m4, m5, m6⟩ ⟨Nat.le_trans hF C.hF, Nat.le_trans hL C.hLo⟩, C.hts _ m3, trivial⟩ ⟨J_blind, fun U hU hW => ⟨rfl, C.hK.warm hW, by rw [hU]; exact a3, oas⟩⟩ rfl (by rw [List.length_map]; exact hn) a5.1 (by show (List.map (rv ρ) (as.reverse ++ st)) = _; rw [List.map_append, List.map_reverse]) (by show 2 * 0 + _ ≤ _; rw [cat_sum]; omega) hd ⟨by rw [C.hmc]; exact hc1, by rw [C.hms]; exact hs1⟩) a1 a2 a4 a5 a6 ost kk
/-- is the id an object of the class of that number -/
def chk (M : A_M) (a ci : Nat) : Option Unit := match M a with
  | some (.inr (c, _)) => if c = ci then some () else none
  | _ => none
theorem chk_some {a ci : Nat} {u : Unit} (h : chk M a ci = some u) : ∃ fs, M a = some (.inr (ci, fs)) := by
  unfold chk at h
  split at h
  · split at h
    · rename_i fs e1 e2
      exact ⟨fs, by rw [e1, e2]⟩
    · cases h
  · cases h
theorem J_callV (C : Cx X cc own nL ret F Lo) {y : MethodName} {bc : ByteArray} {maxL n idx F1 L1 mc ms a : Nat} {rt : Option FieldType} {as : List Value} {r1 : Option Value} {u : Unit} {q : vw_C} (ci : Nat) (hq : vwCl[ci]? = some q) (hqc : q.1 = y.cls) (hck : chk M a ci = some u) (hM : Runs y bc maxL rt F1 L1 mc ms (.ref a :: as) M r1 M1) (hm : MwV y bc maxL rt n) (hl : Cond.methodLink own idx y ∈ lw_all) (hn : as.length = n) (hd : decode cc pc = .ok (.invokevirtual idx, 3)) (hp : pc + 3 = pc') (hs : st1 = as.reverse ++ .ref a :: st) (h8 : (st.map fun v => v.category).sum ≤ 8) (hF : F1 + 1 ≤ F) (hL : 8 + (maxL + 11) + L1 ≤ Lo) (hc1 : cs + mc ≤ xMC X) (hs1 : sl + ms ≤ xMS X) (kk : J X nL pc' lv (r1.toList ++ st) M1 (cs + mc) (sl + ms) r M') : J X nL pc lv st1 M cs sl r M' := by
  subst hp
  subst hs
  intro ρ H locs LS a1 a2 a3 a4 a5 a6 a7
  obtain ⟨m1, m2, m3, m7, m4, m5, m6⟩ := hm
  obtain ⟨fs, hMa⟩ := chk_some hck
  obtain ⟨⟨ws, hP, hD, hcov⟩, hinj, hcl, hz⟩ := id a3
  obtain ⟨q0, hq0⟩ := hcov a _ hMa
  have hG : GoodIn lw_all (wsV own idx y.cls y (.code y bc maxL rt :: lw_all)) := fun w hw => by
    unfold wsV at hw
    rcases List.mem_append.mp hw with h | h
    · simp only [List.mem_cons, List.not_mem_nil, or_false] at h
      rcases h with rfl | rfl | rfl | rfl
      · exact lw_all_good _ hl
      · exact lw_all_good _ m3
      · exact lw_all_good _ m7
      · exact lw_all_good _ m2
    · exact lw_gw m1 w h
  have oas : okl M (.ref a :: as) := fun x hx => a7 x (by
    rcases List.mem_cons.mp hx with e | e
    · exact List.mem_append_right _ (by rw [e]; exact List.mem_cons_self)
    · exact List.mem_append_left _ (List.mem_reverse.mpr e))
  have ost : okl M st := fun x hx => a7 x (List.mem_append_right _ (List.mem_cons_of_mem _ hx))
  have hrecv := va_recv C.hK.1 hP hq hq0
  rw [hqc] at hrecv
  refine J_after (mc := mc) (ms := ms) (r1 := r1) (av := ((.ref a :: as).map (rv ρ)).toArray) (va_runV (As := as.map (rv ρ)) (b := ρ a) (rest := st.map (rv ρ)) ⟨C.hx, C.hb, C.hml, C.hown, C.hts⟩ (hM (xl X) (xD X) (xcK X) (xsz X) ρ { frames := F1, cells := mc, slots := ms, locals := L1 } (Nat.le_refl _) (Nat.le_refl _) rfl rfl) (cwV n C.hts hG rfl rfl rfl ⟨rfl, m4, m5, m6⟩ ⟨Nat.le_trans hF C.hF, Nat.le_trans hL C.hLo⟩) ⟨J_blind, hrecv, fun U hU hW => ⟨rfl, C.hK.warm hW, by rw [hU]; exact a3, oas⟩⟩ rfl (by rw [List.length_map]; exact hn) a5.1 (by show (List.map (rv ρ) (as.reverse ++ .ref a :: st)) = _; rw [List.map_append, List.map_reverse]; rfl) (by show 2 * 0 + _ ≤ _; rw [cat_sum]; omega) hd ⟨by rw [C.hmc]; exact hc1, by rw [C.hms]; exact hs1⟩) a1 a2 a4 a5 a6 ost kk
theorem J_callVN (C : Cx X cc own nL ret F Lo) {y : MethodName} {bc : ByteArray} {maxL n idx F1 L1 mc ms a : Nat} {rt : Option FieldType} {as : List Value} {r1 : Option Value} {u : Unit} {q : vw_C} {host : String} (ci : Nat) (hq : vwCl[ci]? = some q) (hqc : q.1 = y.cls) (hck : chk M a ci = some u) (hM : Runs y bc maxL rt F1 L1 mc ms (.ref a :: as) M r1 M1) (hm : MwV y bc maxL rt n) (hl : Cond.methodLinkNest own idx y host ∈ lw_nest) (hn : as.length = n) (hd : decode cc pc = .ok (.invokevirtual idx, 3)) (hp : pc + 3 = pc') (hs : st1 = as.reverse ++ .ref a :: st) (h8 : (st.map fun v => v.category).sum ≤ 8) (hF : F1 + 1 ≤ F) (hL : 8 + (maxL + 11) + L1 ≤ Lo) (hc1 : cs + mc ≤ xMC X) (hs1 : sl + ms ≤ xMS X) (kk : J X nL pc' lv (r1.toList ++ st) M1 (cs + mc) (sl + ms) r M') : J X nL pc lv st1 M cs sl r M' := by
  subst hp
  subst hs
  intro ρ H locs LS a1 a2 a3 a4 a5 a6 a7
  obtain ⟨m1, m2, m3, m7, m4, m5, m6⟩ := hm
  obtain ⟨fs, hMa⟩ := chk_some hck
  obtain ⟨⟨ws, hP, hD, hcov⟩, hinj, hcl, hz⟩ := id a3
  obtain ⟨q0, hq0⟩ := hcov a _ hMa
  have oas : okl M (.ref a :: as) := fun x hx => a7 x (by
    rcases List.mem_cons.mp hx with e | e
    · exact List.mem_append_right _ (by rw [e]; exact List.mem_cons_self)
    · exact List.mem_append_left _ (List.mem_reverse.mpr e))
  have ost : okl M st := fun x hx => a7 x (List.mem_append_right _ (List.mem_cons_of_mem _ hx))
  have hrecv := va_recv C.hK.1 hP hq hq0
  rw [hqc] at hrecv
  refine J_after (mc := mc) (ms := ms) (r1 := r1) (av := ((.ref a :: as).map (rv ρ)).toArray) (va_runVN (C := y.cls) (As := as.map (rv ρ)) (b := ρ a) (rest := st.map (rv ρ)) ⟨C.hx, C.hb, C.hml, C.hown, C.hts⟩ (hM (xl X) (xD X) (xcK X) (xsz X) ρ { frames := F1, cells := mc, slots := ms, locals := L1 } (Nat.le_refl _) (Nat.le_refl _) rfl rfl) ⟨va_cnB n C.hts (lw_gw m1) rfl rfl rfl (C.hK.2.1 _ hl) (C.hts _ m2) ⟨m4, m5, m6⟩ ⟨Nat.le_trans hF C.hF, Nat.le_trans hL C.hLo⟩, C.hts _ m3, C.hts _ m7⟩ ⟨J_blind, hrecv, fun U hU hW => ⟨rfl, C.hK.warm hW, by rw [hU]; exact a3, oas⟩⟩ rfl (by rw [List.length_map]; exact hn) a5.1 (by show (List.map (rv ρ) (as.reverse ++ .ref a :: st)) = _; rw [List.map_append, List.map_reverse]; rfl) (by show 2 * 0 + _ ≤ _; rw [cat_sum]; omega) hd ⟨by rw [C.hmc]; exact hc1, by rw [C.hms]; exact hs1⟩) a1 a2 a4 a5 a6 ost kk
theorem J_callIN (C : Cx X cc own nL ret F Lo) {y : MethodName} {bc : ByteArray} {maxL n idx F1 L1 mc ms a : Nat} {as : List Value} {r1 : Option Value} {host : String} (hM : Runs y bc maxL none F1 L1 mc ms (.ref a :: as) M r1 M1) (hm : MwI y bc maxL n) (hl : Cond.methodLinkNest own idx y host ∈ lw_nest) (hn : as.length = n) (hd : decode cc pc = .ok (.invokespecial idx, 3)) (hp : pc + 3 = pc') (hs : st1 = as.reverse ++ .ref a :: st) (h8 : (st.map fun v => v.category).sum ≤ 8) (hF : F1 + 1 ≤ F) (hL : 8 + (maxL + 11) + L1 ≤ Lo) (hc1 : cs + mc ≤ xMC X) (hs1 : sl + ms ≤ xMS X) (kk : J X nL pc' lv (r1.toList ++ st) M1 (cs + mc) (sl + ms) r M') : J X nL pc lv st1 M cs sl r M' := by
  subst hp
  subst hs
  intro ρ H locs LS a1 a2 a3 a4 a5 a6 a7
  obtain ⟨m1, m2, m3, m7, m4, m5, m6⟩ := hm
  have oas : okl M (.ref a :: as) := fun x hx => a7 x (by
    rcases List.mem_cons.mp hx with e | e
    · exact List.mem_append_right _ (by rw [e]; exact List.mem_cons_self)
    · exact List.mem_append_left _ (List.mem_reverse.mpr e))
  have ost : okl M st := fun x hx => a7 x (List.mem_append_right _ (List.mem_cons_of_mem _ hx))
  refine J_after (mc := mc) (ms := ms) (r1 := r1) (av := ((.ref a :: as).map (rv ρ)).toArray) (va_runIN (As := as.map (rv ρ)) (b := ρ a) (rest := st.map (rv ρ)) ⟨C.hx, C.hb, C.hml, C.hown, C.hts⟩ (hM (xl X) (xD X) (xcK X) (xsz X) ρ { frames := F1, cells := mc, slots := ms, locals := L1 } (Nat.le_refl _) (Nat.le_refl _) rfl rfl) ⟨va_cnB n C.hts (lw_gw m1) rfl rfl rfl (C.hK.2.1 _ hl) (C.hts _ m2) ⟨m4, m5, m6⟩ ⟨Nat.le_trans hF C.hF, Nat.le_trans hL C.hLo⟩, m7, C.hts _ m3⟩ ⟨J_blind, fun U hU hW => ⟨rfl, C.hK.warm hW, by rw [hU]; exact a3, oas⟩⟩ rfl (by rw [List.length_map]; exact hn) a5.1 (by show (List.map (rv ρ) (as.reverse ++ .ref a :: st)) = _; rw [List.map_append, List.map_reverse]; rfl) (by show 2 * 0 + _ ≤ _; rw [cat_sum]; omega) hd ⟨by rw [C.hmc]; exact hc1, by rw [C.hms]; exact hs1⟩) a1 a2 a4 a5 a6 ost kk
theorem J_objInit (C : Cx X cc own nL ret F Lo) {idx a : Nat} (hl : Cond.methodLink own idx Lib.objectInit ∈ lw_all) (hi : Cond.instanceMethod Lib.objectInit ∈ lw_all) (hc : Cond.code Lib.objectInit ⟨#[0xb1]⟩ 1 none ∈ lw_all) (hd : decode cc pc = .ok (.invokespecial idx, 3)) (hp : pc + 3 = pc') (h8 : (st.map fun v => v.category).sum ≤ 8) (hF : 1 ≤ F) (hL : 20 ≤ Lo) (kk : J X nL pc' lv st M cs sl r M') : J X nL pc lv (.ref a :: st) M cs sl r M' := by
  subst hp
  intro ρ H locs LS a1 a2 a3 a4 a5 a6 a7
  exact W.objInit C.hx C.hb C.hown (C.hts _ hl) (C.hts _ hi) (C.hts _ hc) rfl (a5.1.trans C.hml.symm) rfl hd (Nat.le_trans hF C.hF) (by show 2 * 0 + _ + 12 ≤ _; rw [cat_sum]; have := C.hLo; omega) (kk ρ H locs LS a1 a2 a3 a4 a5 a6 (okl_t a7))
/-- System.arraycopy of ints, of longs: all of it within both -/
def cpI (M : A_M) (a : Nat) (sp : Int32) (b : Nat) (dp n : Int32) : Option A_M := match M a, M b with
  | some (.inl (0, (n0, .inl f))), some (.inl (0, (n1, .inl g))) => if sp < 0 ∨ dp < 0 ∨ n < 0 ∨ n0 < sp.toNatClampNeg + n.toNatClampNeg ∨ n1 < dp.toNatClampNeg + n.toNatClampNeg then none else some (upM M b (.inl (0, (n1, .inl (va_cpy f g sp.toNatClampNeg dp.toNatClampNeg n.toNatClampNeg)))))
  | _, _ => none
def cpJ (M : A_M) (a : Nat) (sp : Int32) (b : Nat) (dp n : Int32) : Option A_M := match M a, M b with
  | some (.inl (1, (n0, .inr (.inl f)))), some (.inl (1, (n1, .inr (.inl g)))) => if sp < 0 ∨ dp < 0 ∨ n < 0 ∨ n0 < sp.toNatClampNeg + n.toNatClampNeg ∨ n1 < dp.toNatClampNeg + n.toNatClampNeg then none else some (upM M b (.inl (1, (n1, .inr (.inl (va_cpy f g sp.toNatClampNeg dp.toNatClampNeg n.toNatClampNeg))))))
  | _, _ => none
theorem cpI_some {a b : Nat} {sp dp n : Int32} (h : cpI M a sp b dp n = some M1) : ∃ n0 f n1 g, M a = some (.inl (0, (n0, .inl f))) ∧ M b = some (.inl (0, (n1, .inl g))) ∧ ¬ sp < 0 ∧ ¬ dp < 0 ∧ ¬ n < 0 ∧ sp.toNatClampNeg + n.toNatClampNeg ≤ n0 ∧ dp.toNatClampNeg + n.toNatClampNeg ≤ n1 ∧ M1 = upM M b (.inl (0, (n1, .inl (va_cpy f g sp.toNatClampNeg dp.toNatClampNeg n.toNatClampNeg)))) := by
  unfold cpI at h
  split at h
  · split at h
    · cases h
    · rename_i n0 f n1 g e1 e2 e3
      simp only [not_or, Nat.not_lt] at e3
      exact ⟨n0, f, n1, g, e1, e2, e3.1, e3.2.1, e3.2.2.1, e3.2.2.2.1, e3.2.2.2.2, (Option.some.inj h).symm⟩
  · cases h
theorem cpJ_some {a b : Nat} {sp dp n : Int32} (h : cpJ M a sp b dp n = some M1) : ∃ n0 f n1 g, M a = some (.inl (1, (n0, .inr (.inl f)))) ∧ M b = some (.inl (1, (n1, .inr (.inl g)))) ∧ ¬ sp < 0 ∧ ¬ dp < 0 ∧ ¬ n < 0 ∧ sp.toNatClampNeg + n.toNatClampNeg ≤ n0 ∧ dp.toNatClampNeg + n.toNatClampNeg ≤ n1 ∧ M1 = upM M b (.inl (1, (n1, .inr (.inl (va_cpy f g sp.toNatClampNeg dp.toNatClampNeg n.toNatClampNeg))))) := by
  unfold cpJ at h
  split at h
  · split at h
    · cases h
    · rename_i n0 f n1 g e1 e2 e3
      simp only [not_or, Nat.not_lt] at e3
      exact ⟨n0, f, n1, g, e1, e2, e3.1, e3.2.1, e3.2.2.1, e3.2.2.2.1, e3.2.2.2.2, (Option.some.inj h).symm⟩
  · cases h
theorem J_copyI (C : Cx X cc own nL ret F Lo) {idx a b : Nat} {sp dp n : Int32} (hl : Cond.methodLink own idx arraycopyName ∈ lw_all) (hna : Cond.native arraycopyName ∈ lw_all) (hst : Cond.static arraycopyName ∈ lw_all) (hi : Cond.initialized "java/lang/System" ∈ lw_all) (hd : decode cc pc = .ok (.invokestatic idx, 3)) (hp : pc + 3 = pc') (h8 : (st.map fun v => v.category).sum ≤ 8) (hF : 1 ≤ F) (hL : 30 ≤ Lo) (hv : cpI M a sp b dp n = some M1) (kk : J X nL pc' lv st M1 cs sl r M') : J X nL pc lv (.int n :: .int dp :: .ref b :: .int sp :: .ref a :: st) M cs sl r M' := by
  subst hp
  intro ρ H locs LS a1 a2 a3 a4 a5 a6 a7
  obtain ⟨n0, f, n1, g, h1, h2, e1, e2, e3, e4, e5, rfl⟩ := cpI_some hv
  obtain ⟨⟨ws, hP, hD, hcov⟩, hinj, hcl, hz⟩ := id a3
  obtain ⟨q, hq⟩ := hcov a _ h1
  obtain ⟨q1, hq1⟩ := hcov b _ h2
  have hw : nativeFrameWords "java/lang/System" "arraycopy" 5 ≤ 11 := by decide
  refine va_copyi C.hx C.hb (C.hml.trans a5.1.symm) C.hown (C.hts _ hl) (C.hts _ hna) (C.hts _ hst) (C.hts _ hi) C.hK.1 hP hD a4 q q1 0 0 (n0 := n0) (f := f) (n1 := n1) (g := g) hq hq1 rfl rfl rfl e1 e2 e3 e4 e5 (fun _ _ => rfl) (Nat.le_trans hF C.hF) (by rw [cat_sum]; have := C.hLo; omega) hd (fun H1 locs1 hP1 hD1 hS1 => ?_)
  have hR := Rel.set hcov hinj hcl hq1 (by rw [h2]; exact Option.some_ne_none _) (c' := .inl (0, (n1, .inl (va_cpy f g sp.toNatClampNeg dp.toNatClampNeg n.toNatClampNeg)))) trivial hP1 hD1 (Nat.le_trans C.hsz hS1.1)
  exact kk ρ H1 locs1 LS a1 (fun k h => upM_dom (a2 k h)) hR hS1 a5 (okl_mono (fun _ h => upM_dom h) a6) (okl_mono (fun _ h => upM_dom h) (okl_t (okl_t (okl_t (okl_t (okl_t a7))))))
theorem J_copyJ (C : Cx X cc own nL ret F Lo) {idx a b : Nat} {sp dp n : Int32} (hl : Cond.methodLink own idx arraycopyName ∈ lw_all) (hna : Cond.native arraycopyName ∈ lw_all) (hst : Cond.static arraycopyName ∈ lw_all) (hi : Cond.initialized "java/lang/System" ∈ lw_all) (hd : decode cc pc = .ok (.invokestatic idx, 3)) (hp : pc + 3 = pc') (h8 : (st.map fun v => v.category).sum ≤ 8) (hF : 1 ≤ F) (hL : 30 ≤ Lo) (hv : cpJ M a sp b dp n = some M1) (kk : J X nL pc' lv st M1 cs sl r M') : J X nL pc lv (.int n :: .int dp :: .ref b :: .int sp :: .ref a :: st) M cs sl r M' := by
  subst hp
  intro ρ H locs LS a1 a2 a3 a4 a5 a6 a7
  obtain ⟨n0, f, n1, g, h1, h2, e1, e2, e3, e4, e5, rfl⟩ := cpJ_some hv
  obtain ⟨⟨ws, hP, hD, hcov⟩, hinj, hcl, hz⟩ := id a3
  obtain ⟨q, hq⟩ := hcov a _ h1
  obtain ⟨q1, hq1⟩ := hcov b _ h2
  have hw : nativeFrameWords "java/lang/System" "arraycopy" 5 ≤ 11 := by decide
  refine va_copyl C.hx C.hb (C.hml.trans a5.1.symm) C.hown (C.hts _ hl) (C.hts _ hna) (C.hts _ hst) (C.hts _ hi) C.hK.1 hP hD a4 q q1 1 1 (n0 := n0) (f := f) (n1 := n1) (g := g) hq hq1 rfl rfl rfl e1 e2 e3 e4 e5 (fun _ _ => rfl) (Nat.le_trans hF C.hF) (by rw [cat_sum]; have := C.hLo; omega) hd (fun H1 locs1 hP1 hD1 hS1 => ?_)
  have hR := Rel.set hcov hinj hcl hq1 (by rw [h2]; exact Option.some_ne_none _) (c' := .inl (1, (n1, .inr (.inl (va_cpy f g sp.toNatClampNeg dp.toNatClampNeg n.toNatClampNeg))))) trivial hP1 hD1 (Nat.le_trans C.hsz hS1.1)
  exact kk ρ H1 locs1 LS a1 (fun k h => upM_dom (a2 k h)) hR hS1 a5 (okl_mono (fun _ h => upM_dom h) a6) (okl_mono (fun _ h => upM_dom h) (okl_t (okl_t (okl_t (okl_t (okl_t a7))))))
theorem J_d2raw (C : Cx X cc own nL ret F Lo) {idx : Nat} {b : UInt64} (hl : Cond.methodLink own idx ⟨"java/lang/Double", "doubleToRawLongBits", "(D)J"⟩ ∈ lw_all) (hna : Cond.native ⟨"java/lang/Double", "doubleToRawLongBits", "(D)J"⟩ ∈ lw_all) (hst : Cond.static ⟨"java/lang/Double", "doubleToRawLongBits", "(D)J"⟩ ∈ lw_all) (hi : Cond.initialized "java/lang/Double" ∈ lw_all) (hd : decode cc pc = .ok (.invokestatic idx, 3)) (hp : pc + 3 = pc') (h8 : (st.map fun v => v.category).sum ≤ 8) (hF : 1 ≤ F) (hL : 30 ≤ Lo) (kk : J X nL pc' lv (.long b.toInt64 :: st) M cs sl r M') : J X nL pc lv (.double b :: st) M cs sl r M' := by
  subst hp
  intro ρ H locs LS a1 a2 a3 a4 a5 a6 a7
  exact vn_d2l C.hx C.hb (C.hml.trans a5.1.symm) C.hown (C.hts _ hl) (C.hts _ hna) (C.hts _ hst) (C.hts _ hi) (Nat.le_trans hF C.hF) (by rw [cat_sum]; have := C.hLo; omega) hd (kk ρ H locs LS a1 a2 a3 a4 a5 a6 (okl_l (okl_t a7)))
end Cl
