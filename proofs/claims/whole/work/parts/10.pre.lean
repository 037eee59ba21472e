/-! SMALL THINGS that the printed walks use. -/
theorem bd {α β : Type} {x : Option α} {f : α → Option β} {y : β} (h : x.bind f = some y) : ∃ v, x = some v ∧ f v = some y := by
  cases x with
  | none => cases h
  | some v => exact ⟨v, rfl, h⟩
def bnd2 {α β γ : Type} (x : Option (α × β)) (f : α → β → Option γ) : Option γ := match x with
  | none => none
  | some p => f p.1 p.2
theorem bd2 {α β γ : Type} {x : Option (α × β)} {f : α → β → Option γ} {y : γ} (h : bnd2 x f = some y) : ∃ a b, x = some (a, b) ∧ f a b = some y := by
  cases x with
  | none => cases h
  | some p => exact ⟨p.1, p.2, rfl, h⟩
/-- an int that is a boolean -/
def zb (x : Int32) : Option Unit := if x = 0 ∨ x = 1 then some () else none
theorem zb_some {x : Int32} {u : Unit} (h : zb x = some u) : x = 0 ∨ x = 1 := by
  unfold zb at h
  split at h
  · assumption
  · cases h
theorem zb_ok {x : Int32} (h : x = 0 ∨ x = 1) (ρ : Nat → Nat) : narrow .boolean (rv ρ (.int x)) = rv ρ (.int x) ∧ fits .boolean (rv ρ (.int x)) = true := by
  rcases h with rfl | rfl <;> exact ⟨rfl, rfl⟩
theorem zb_n {x : Int32} (h : x = 0 ∨ x = 1) : narrow .boolean (.int x) = .int x := by
  rcases h with rfl | rfl <;> rfl
/-- a double that is no NaN -/
def nz (r : UInt64) : Option UInt64 := if r &&& 0x7fffffffffffffff ≤ 0x7ff0000000000000 then some r else none
theorem nz_some {r v : UInt64} (h : nz r = some v) : vf_n64 r ∧ v = r := by
  unfold nz at h
  split at h
  · rename_i e; exact ⟨e, (Option.some.inj h).symm⟩
  · cases h
/-- a new cell at an id that is free -/
def alM (M : A_M) (n : Nat) (c : A_C) : Option A_M := match M n with
  | none => some (upM M n c)
  | some _ => none
theorem alM_some {M M1 : A_M} {n : Nat} {c : A_C} (h : alM M n c = some M1) : M n = none ∧ M1 = upM M n c := by
  unfold alM at h
  split at h
  · rename_i e; exact ⟨e, (Option.some.inj h).symm⟩
  · cases h
theorem sw06 {x : Int32} (h0 : ¬ x = 0) (h1 : ¬ x = 1) (h2 : ¬ x = 2) (h3 : ¬ x = 3) (h4 : ¬ x = 4) (h5 : ¬ x = 5) (h6 : ¬ x = 6) : x.toInt < 0 ∨ 6 < x.toInt := by
  rcases Int.lt_or_le x.toInt 0 with h | h
  · exact Or.inl h
  · refine Or.inr ?_
    have e : ∀ k : Int32, ¬ x = k → x.toInt ≠ k.toInt := fun k hk e => hk (Int32.toInt_inj.mp e)
    have e0 := e 0 h0
    have e1 := e 1 h1
    have e2 := e 2 h2
    have e3 := e 3 h3
    have e4 := e 4 h4
    have e5 := e 5 h5
    have e6 := e 6 h6
    have t0 : (0 : Int32).toInt = 0 := by decide
    have t1 : (1 : Int32).toInt = 1 := by decide
    have t2 : (2 : Int32).toInt = 2 := by decide
    have t3 : (3 : Int32).toInt = 3 := by decide
    have t4 : (4 : Int32).toInt = 4 := by decide
    have t5 : (5 : Int32).toInt = 5 := by decide
    have t6 : (6 : Int32).toInt = 6 := by decide
    omega
section Pc
variable {X : JX} {cc : ByteArray} {own : String} {nL : Nat} {ret : Option FieldType} {F Lo pc pc' : Nat} {lv lv' : List (Nat × Value)} {st st1 st2 : List Value} {M M1 M' : A_M} {cs sl cs2 sl2 : Nat} {r : Option Value}
theorem J_cS (C : Cx X cc own nL ret F Lo) {y : MethodName} {bc : ByteArray} {maxL n idx F1 L1 mc ms : Nat} {rt : Option FieldType} {as : List Value} {r1 : Option Value} (hM : Runs y bc maxL rt F1 L1 mc ms as M r1 M1) (hm : MwS y bc maxL rt n) (hl : Cond.methodLink own idx y ∈ lw_all) (hn : as.length = n) (hd : decode cc pc = .ok (.invokestatic idx, 3)) (hp : pc + 3 = pc') (hs : st1 = as.reverse ++ st) (h8 : (st.map fun v => v.category).sum ≤ 8) (hF : F1 + 1 ≤ F) (hL : 8 + (maxL + 11) + L1 ≤ Lo) (e1 : r1.toList ++ st = st2) (e2 : cs + mc = cs2) (e3 : sl + ms = sl2) (hc1 : cs2 ≤ xMC X) (hs1 : sl2 ≤ xMS X) (kk : J X nL pc' lv st2 M1 cs2 sl2 r M') : J X nL pc lv st1 M cs sl r M' := by
  subst e1; subst e2; subst e3
  exact J_callS C hM hm hl hn hd hp hs h8 hF hL hc1 hs1 kk
theorem J_cSN (C : Cx X cc own nL ret F Lo) {y : MethodName} {bc : ByteArray} {maxL n idx F1 L1 mc ms : Nat} {rt : Option FieldType} {as : List Value} {r1 : Option Value} {host : String} (hM : Runs y bc maxL rt F1 L1 mc ms as M r1 M1) (hm : MwS y bc maxL rt n) (hl : Cond.methodLinkNest own idx y host ∈ lw_nest) (hn : as.length = n) (hd : decode cc pc = .ok (.invokestatic idx, 3)) (hp : pc + 3 = pc') (hs : st1 = as.reverse ++ st) (h8 : (st.map fun v => v.category).sum ≤ 8) (hF : F1 + 1 ≤ F) (hL : 8 + (maxL + 11) + L1 ≤ Lo) (e1 : r1.toList ++ st = st2) (e2 : cs + mc = cs2) (e3 : sl + ms = sl2) (hc1 : cs2 ≤ xMC X) (hs1 : sl2 ≤ xMS X) (kk : J X nL pc' lv st2 M1 cs2 sl2 r M') : J X nL pc lv st1 M cs sl r M' := by
  subst e1; subst e2; subst e3
  exact J_callSN C hM hm hl hn hd hp hs h8 hF hL hc1 hs1 kk
theorem J_cV (C : Cx X cc own nL ret F Lo) {y : MethodName} {bc : ByteArray} {maxL n idx F1 L1 mc ms a : Nat} {rt : Option FieldType} {as : List Value} {r1 : Option Value} {u : Unit} {q : vw_C} (ci : Nat) (hq : vwCl[ci]? = some q) (hqc : q.1 = y.cls) (hck : chk M a ci = some u) (hM : Runs y bc maxL rt F1 L1 mc ms (.ref a :: as) M r1 M1) (hm : MwV y bc maxL rt n) (hl : Cond.methodLink own idx y ∈ lw_all) (hn : as.length = n) (hd : decode cc pc = .ok (.invokevirtual idx, 3)) (hp : pc + 3 = pc') (hs : st1 = as.reverse ++ .ref a :: st) (h8 : (st.map fun v => v.category).sum ≤ 8) (hF : F1 + 1 ≤ F) (hL : 8 + (maxL + 11) + L1 ≤ Lo) (e1 : r1.toList ++ st = st2) (e2 : cs + mc = cs2) (e3 : sl + ms = sl2) (hc1 : cs2 ≤ xMC X) (hs1 : sl2 ≤ xMS X) (kk : J X nL pc' lv st2 M1 cs2 sl2 r M') : J X nL pc lv st1 M cs sl r M' := by
  subst e1; subst e2; subst e3
  exact J_callV C ci hq hqc hck hM hm hl hn hd hp hs h8 hF hL hc1 hs1 kk
theorem J_cIN (C : Cx X cc own nL ret F Lo) {y : MethodName} {bc : ByteArray} {maxL n idx F1 L1 mc ms a : Nat} {as : List Value} {r1 : Option Value} {host : String} (hM : Runs y bc maxL none F1 L1 mc ms (.ref a :: as) M r1 M1) (hm : MwI y bc maxL n) (hl : Cond.methodLinkNest own idx y host ∈ lw_nest) (hn : as.length = n) (hd : decode cc pc = .ok (.invokespecial idx, 3)) (hp : pc + 3 = pc') (hs : st1 = as.reverse ++ .ref a :: st) (h8 : (st.map fun v => v.category).sum ≤ 8) (hF : F1 + 1 ≤ F) (hL : 8 + (maxL + 11) + L1 ≤ Lo) (e1 : r1.toList ++ st = st2) (e2 : cs + mc = cs2) (e3 : sl + ms = sl2) (hc1 : cs2 ≤ xMC X) (hs1 : sl2 ≤ xMS X) (kk : J X nL pc' lv st2 M1 cs2 sl2 r M') : J X nL pc lv st1 M cs sl r M' := by
  subst e1; subst e2; subst e3
  exact J_callIN C hM hm hl hn hd hp hs h8 hF hL hc1 hs1 kk
end Pc
