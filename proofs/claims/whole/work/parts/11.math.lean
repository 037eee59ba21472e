/-! Math.min, Math.max: run by entries of their own -/
def mxI (x y : Int32) : Int32 := if x < y then y else x
def mnI (x y : Int32) : Int32 := if y < x then y else x
def mnJ (x y : Int64) : Int64 := if y < x then y else x
section Mth
variable {X : JX} {cc : ByteArray} {own : String} {nL : Nat} {ret : Option FieldType} {F Lo pc pc' : Nat} {lv : List (Nat × Value)} {st : List Value} {M M' : A_M} {cs sl : Nat} {r : Option Value}
theorem wl_mmax : Cond.code Lib.Math.max.name Lib.Math.max.code 2 (some .int) ∈ lw_all := lw_t1 223 (by decide +kernel) (by decide +kernel)
theorem J_mmax (C : Cx X cc own nL ret F Lo) {idx : Nat} {x y : Int32} (hl : Cond.methodLink own idx yJ9_max_7cf53 ∈ lw_all) (hd : decode cc pc = .ok (.invokestatic idx, 3)) (hp : pc + 3 = pc') (h8 : (st.map fun v => v.category).sum ≤ 8) (hF : 1 ≤ F) (hL : 23 ≤ Lo) (hc1 : cs ≤ xMC X) (hs1 : sl ≤ xMS X) (kk : J X nL pc' lv (.int (mxI x y) :: st) M cs sl r M') : J X nL pc lv (.int y :: .int x :: st) M cs sl r M' := by
  subst hp
  intro ρ H locs LS a1 a2 a3 a4 a5 a6 a7
  have hs : Cond.static Lib.Math.max.name ∈ lw_all := wq_312
  have hl : Cond.methodLink own idx Lib.Math.max.name ∈ lw_all := hl
  exact va_mmax C.hx C.hb (C.hml.trans a5.1.symm) C.hown (C.hts _ hl) (C.hts _ hs) (C.hts _ wq_97) (C.hts _ wl_mmax) (Nat.le_trans hF C.hF) (by rw [cat_sum]; have := C.hLo; omega) (by rw [C.hmc]; exact hc1) (by rw [C.hms]; exact hs1) hd (kk ρ H locs LS a1 a2 a3 a4 a5 a6 (okl_i (okl_t (okl_t a7))))
theorem wl_mmin : Cond.code Lib.Math.min.name Lib.Math.min.code 2 (some .int) ∈ lw_all := lw_t2 38 (by decide +kernel) (by decide +kernel)
theorem J_mmin (C : Cx X cc own nL ret F Lo) {idx : Nat} {x y : Int32} (hl : Cond.methodLink own idx yJ9_min_7cf53 ∈ lw_all) (hd : decode cc pc = .ok (.invokestatic idx, 3)) (hp : pc + 3 = pc') (h8 : (st.map fun v => v.category).sum ≤ 8) (hF : 1 ≤ F) (hL : 23 ≤ Lo) (hc1 : cs ≤ xMC X) (hs1 : sl ≤ xMS X) (kk : J X nL pc' lv (.int (mnI x y) :: st) M cs sl r M') : J X nL pc lv (.int y :: .int x :: st) M cs sl r M' := by
  subst hp
  intro ρ H locs LS a1 a2 a3 a4 a5 a6 a7
  have hs : Cond.static Lib.Math.min.name ∈ lw_all := wq_367
  have hl : Cond.methodLink own idx Lib.Math.min.name ∈ lw_all := hl
  exact va_mmin C.hx C.hb (C.hml.trans a5.1.symm) C.hown (C.hts _ hl) (C.hts _ hs) (C.hts _ wq_97) (C.hts _ wl_mmin) (Nat.le_trans hF C.hF) (by rw [cat_sum]; have := C.hLo; omega) (by rw [C.hmc]; exact hc1) (by rw [C.hms]; exact hs1) hd (kk ρ H locs LS a1 a2 a3 a4 a5 a6 (okl_i (okl_t (okl_t a7))))
theorem wl_minl : Cond.code Lib.MathLoose.min_long.x Lib.MathLoose.min_long.code 4 (some .long) ∈ lw_all := lw_t2 65 (by decide +kernel) (by decide +kernel)
theorem J_minl (C : Cx X cc own nL ret F Lo) {idx : Nat} {x y : Int64} (hl : Cond.methodLink own idx yJ9_min_f86c9 ∈ lw_all) (hd : decode cc pc = .ok (.invokestatic idx, 3)) (hp : pc + 3 = pc') (h8 : (st.map fun v => v.category).sum ≤ 8) (hF : 1 ≤ F) (hL : 23 ≤ Lo) (hc1 : cs ≤ xMC X) (hs1 : sl ≤ xMS X) (kk : J X nL pc' lv (.long (mnJ x y) :: st) M cs sl r M') : J X nL pc lv (.long y :: .long x :: st) M cs sl r M' := by
  subst hp
  intro ρ H locs LS a1 a2 a3 a4 a5 a6 a7
  have hs : Cond.static Lib.MathLoose.min_long.x ∈ lw_all := wq_394
  have hl : Cond.methodLink own idx Lib.MathLoose.min_long.x ∈ lw_all := hl
  exact va_mmin_long C.hx C.hb (C.hml.trans a5.1.symm) C.hown (C.hts _ hl) (C.hts _ hs) (C.hts _ wq_97) (C.hts _ wl_minl) (Nat.le_trans hF C.hF) (by rw [cat_sum]; have := C.hLo; omega) (by rw [C.hmc]; exact hc1) (by rw [C.hms]; exact hs1) hd (kk ρ H locs LS a1 a2 a3 a4 a5 a6 (okl_l (okl_t (okl_t a7))))
end Mth
theorem rt2 {α β : Type} {a c : α} {b d : β} (h : some (a, b) = some (c, d)) : a = c ∧ b = d := by
  have := Option.some.inj h
  exact ⟨congrArg Prod.fst this, congrArg Prod.snd this⟩
theorem rt1 {α : Type} {a c : α} (h : some a = some c) : a = c := Option.some.inj h
