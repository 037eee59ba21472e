/-! THE LAW'S OWN JUDGEMENT: in its loop; locals: the script, the class's object (id 0), the reference (id 44), the place -/
abbrev LX : Type := Program × Launch × Env × State × MethodId × List Frame × Method × Code × Nat × Nat × (Nat → Int32) × va_G × (Nat → ClassId)
section LXs
variable (Y : LX)
abbrev lp : Program := Y.1
abbrev ll : Launch := Y.2.1
abbrev le : Env := Y.2.2.1
abbrev ls : State := Y.2.2.2.1
abbrev lm : MethodId := Y.2.2.2.2.1
abbrev lbel : List Frame := Y.2.2.2.2.2.1
abbrev lmeth : Method := Y.2.2.2.2.2.2.1
abbrev lc : Code := Y.2.2.2.2.2.2.2.1
abbrev lb : Nat := Y.2.2.2.2.2.2.2.2.1
abbrev lL : Nat := Y.2.2.2.2.2.2.2.2.2.1
abbrev lxs : Nat → Int32 := Y.2.2.2.2.2.2.2.2.2.2.1
abbrev lD : va_G := Y.2.2.2.2.2.2.2.2.2.2.2.1
abbrev lcK : Nat → ClassId := Y.2.2.2.2.2.2.2.2.2.2.2.2
end LXs
def CL (Y : LX) : Prop := lw_At (lp Y) (ls Y) (lm Y) (lmeth Y) (lc Y) (lb Y) (lL Y) (lxs Y) ∧ KK (lD Y) (lcK Y) (ls Y)
def LW (Y : LX) (H : Heap) (locs : List Loc) (cs sl : Nat) (g : JFrame) : Prop := W (lp Y) (ll Y) (le Y) room_1 (ls Y) (lm Y) #[Value.ref (lb Y)] (lbel Y) (lmeth Y) (lc Y) H locs cs sl (lw_Z (lbel Y) #[Value.ref (lb Y)] (ls Y)) g
def JL (Y : LX) (pc : Nat) (x3 : Int32) (st : List Value) (M : A_M) (cs sl : Nat) : Prop :=
  ∀ (ρ : Nat → Nat) (H : Heap) (locs : List Loc) (LS : Array Slot), Rel (lD Y) (lcK Y) (ls Y).heap.size ρ M H → va_S (fun q => (ls Y).heap.size ≤ q) (ls Y).heap H locs → lv_has LS 4 [(0, .ref (lb Y)), (1, .ref (ρ 0)), (2, .ref (ρ 44)), (3, .int x3)] → M 0 ≠ none → M 44 ≠ none → okl M st → LW Y H locs cs sl (F0 (lm Y) pc LS (st.map (rv ρ)))
section Lr
variable {Y : LX} {pc pc' : Nat} {x3 : Int32} {st st1 st2 : List Value} {M M1 : A_M} {cs sl cs2 sl2 : Nat}
theorem CL.hx (C : CL Y) : (lp Y).tables.exec = Jvm.exec := C.1.1
theorem CL.hb (C : CL Y) : (lc Y).code = code := C.1.2.1
theorem CL.hml (C : CL Y) : (lc Y).maxLocals = 4 := C.1.2.2.2.1
theorem CL.hown (C : CL Y) : (ls Y).vm.findClass RL = some (lm Y).cls := C.1.2.2.2.2.1
theorem CL.hts (C : CL Y) : ∀ w ∈ lw_tbl, w.before #[Value.ref (lb Y)] (ls Y) = true := C.1.2.2.2.2.2.1
theorem CL.hX (C : CL Y) : va_X (lb Y) (lL Y) (lxs Y) (ls Y) (ls Y).heap := C.1.2.2.2.2.2.2.1
theorem CL.hbl (C : CL Y) : lb Y < (ls Y).heap.size := C.1.2.2.2.2.2.2.2.1
theorem L_x (C : CL Y) (hd : decode code pc = .ok (.aload_n 1, 1)) (hp : pc + 1 = pc') (k : JL Y pc' x3 (.ref 0 :: st) M cs sl) : JL Y pc x3 st M cs sl := by
  subst hp
  intro ρ H locs LS a3 a4 a5 m1 m2 a7
  exact lv_aload_n C.hx C.hb hd rfl (lv_at a5 1 rfl) (k ρ H locs LS a3 a4 a5 m1 m2 (okl_c (fun x e => by cases e; exact m1) a7))
theorem L_m (C : CL Y) (hd : decode code pc = .ok (.aload_n 2, 1)) (hp : pc + 1 = pc') (k : JL Y pc' x3 (.ref 44 :: st) M cs sl) : JL Y pc x3 st M cs sl := by
  subst hp
  intro ρ H locs LS a3 a4 a5 m1 m2 a7
  exact lv_aload_n C.hx C.hb hd rfl (lv_at a5 2 rfl) (k ρ H locs LS a3 a4 a5 m1 m2 (okl_c (fun x e => by cases e; exact m2) a7))
theorem L_iload (C : CL Y) (hd : decode code pc = .ok (.iload_n 3, 1)) (hp : pc + 1 = pc') (k : JL Y pc' x3 (.int x3 :: st) M cs sl) : JL Y pc x3 st M cs sl := by
  subst hp
  intro ρ H locs LS a3 a4 a5 m1 m2 a7
  exact lv_iload_n C.hx C.hb hd rfl (lv_at a5 3 rfl) (k ρ H locs LS a3 a4 a5 m1 m2 (okl_i a7))
theorem L_iconst (C : CL Y) {n : Int} {v : Int32} (hd : decode code pc = .ok (.iconst n, 1)) (hp : pc + 1 = pc') (hv : Int32.ofInt n = v) (k : JL Y pc' x3 (.int v :: st) M cs sl) : JL Y pc x3 st M cs sl := by
  subst hp
  intro ρ H locs LS a3 a4 a5 m1 m2 a7
  exact lv_iconst C.hx C.hb hd hv (k ρ H locs LS a3 a4 a5 m1 m2 (okl_i a7))
theorem L_bipush (C : CL Y) {n : Int} {v : Int32} (hd : decode code pc = .ok (.bipush n, 2)) (hp : pc + 2 = pc') (hv : (Int8.ofInt n).toInt32 = v) (k : JL Y pc' x3 (.int v :: st) M cs sl) : JL Y pc x3 st M cs sl := by
  subst hp
  intro ρ H locs LS a3 a4 a5 m1 m2 a7
  exact lv_bipush C.hx C.hb hd hv (k ρ H locs LS a3 a4 a5 m1 m2 (okl_i a7))
theorem L_isub (C : CL Y) {x y : Int32} (hd : decode code pc = .ok (.isub, 1)) (hp : pc + 1 = pc') (k : JL Y pc' x3 (.int (x - y) :: st) M cs sl) : JL Y pc x3 (.int y :: .int x :: st) M cs sl := by
  subst hp
  intro ρ H locs LS a3 a4 a5 m1 m2 a7
  exact lv_isub C.hx C.hb hd (k ρ H locs LS a3 a4 a5 m1 m2 (okl_i (okl_t (okl_t a7))))
theorem L_iand (C : CL Y) {x y : Int32} (hd : decode code pc = .ok (.iand, 1)) (hp : pc + 1 = pc') (k : JL Y pc' x3 (.int (x &&& y) :: st) M cs sl) : JL Y pc x3 (.int y :: .int x :: st) M cs sl := by
  subst hp
  intro ρ H locs LS a3 a4 a5 m1 m2 a7
  exact lv_iand C.hx C.hb hd (k ρ H locs LS a3 a4 a5 m1 m2 (okl_i (okl_t (okl_t a7))))
theorem L_lcmp (C : CL Y) {x y : Int64} (hd : decode code pc = .ok (.lcmp, 1)) (hp : pc + 1 = pc') (k : JL Y pc' x3 (.int (lg_cmp x y) :: st) M cs sl) : JL Y pc x3 (.long y :: .long x :: st) M cs sl := by
  subst hp
  intro ρ H locs LS a3 a4 a5 m1 m2 a7
  exact W.lcmp C.hx C.hb hd (k ρ H locs LS a3 a4 a5 m1 m2 (okl_i (okl_t (okl_t a7))))
theorem L_icmp_gt (C : CL Y) {x y : Int32} {off : Int} {tgt : Nat} (hd : decode code pc = .ok (.if_icmp .gt off, 3)) (ht : (pc : Int) + off = (tgt : Int)) (hp : pc + 3 = pc') (kt : y < x → JL Y tgt x3 st M cs sl) (kf : ¬ y < x → JL Y pc' x3 st M cs sl) : JL Y pc x3 (.int y :: .int x :: st) M cs sl := by
  subst hp
  intro ρ H locs LS a3 a4 a5 m1 m2 a7
  exact lv_icmp_gt C.hx C.hb hd ht (fun c => kt c ρ H locs LS a3 a4 a5 m1 m2 (okl_t (okl_t a7))) (fun c => kf c ρ H locs LS a3 a4 a5 m1 m2 (okl_t (okl_t a7)))
theorem L_icmp_eq (C : CL Y) {x : Int32} {off : Int} {tgt : Nat} (hd : decode code pc = .ok (.if_icmp .eq off, 3)) (ht : (pc : Int) + off = (tgt : Int)) (k : JL Y tgt x3 st M cs sl) : JL Y pc x3 (.int x :: .int x :: st) M cs sl := by
  intro ρ H locs LS a3 a4 a5 m1 m2 a7
  exact lv_icmp_eq C.hx C.hb hd ht (fun _ => k ρ H locs LS a3 a4 a5 m1 m2 (okl_t (okl_t a7))) (fun c => absurd rfl c)
theorem L_if_eq (C : CL Y) {x : Int32} {off : Int} {tgt : Nat} (hd : decode code pc = .ok (.ifCond .eq off, 3)) (ht : (pc : Int) + off = (tgt : Int)) (h0 : x = 0) (k : JL Y tgt x3 st M cs sl) : JL Y pc x3 (.int x :: st) M cs sl := by
  intro ρ H locs LS a3 a4 a5 m1 m2 a7
  exact lv_if_eq C.hx C.hb hd ht (fun _ => k ρ H locs LS a3 a4 a5 m1 m2 (okl_t a7)) (fun c => absurd h0 c)
theorem L_goto (C : CL Y) {off : Int} {tgt : Nat} (hd : decode code pc = .ok (.goto off, 3)) (ht : (pc : Int) + off = (tgt : Int)) (k : JL Y tgt x3 st M cs sl) : JL Y pc x3 st M cs sl := by
  intro ρ H locs LS a3 a4 a5 m1 m2 a7
  exact lv_goto C.hx C.hb hd ht (k ρ H locs LS a3 a4 a5 m1 m2 a7)
theorem L_iinc (C : CL Y) {v : Int32} (hd : decode code pc = .ok (.iinc 3 3, 3)) (hp : pc + 3 = pc') (hv : x3 + Int32.ofInt 3 = v) (k : JL Y pc' v st M cs sl) : JL Y pc x3 st M cs sl := by
  subst hp
  intro ρ H locs LS a3 a4 a5 m1 m2 a7
  exact lv_iinc (lv' := [(3, .int v), (0, .ref (lb Y)), (1, .ref (ρ 0)), (2, .ref (ρ 44))]) C.hx C.hb hd a5 (k := 3) rfl hv (by decide) rfl (fun LS' h => k ρ H locs LS' a3 a4 (lv_sub h [1, 2, 3, 0] rfl) m1 m2 a7)
theorem L_tableOut (C : CL Y) {dflt lo hi : Int} {offs : Array Int} {len : Nat} {x : Int32} {tgt : Nat} (hd : decode code pc = .ok (.tableswitch dflt lo hi offs, len)) (h : x.toInt < lo ∨ hi < x.toInt) (ht : (pc : Int) + dflt = (tgt : Int)) (k : JL Y tgt x3 st M cs sl) : JL Y pc x3 (.int x :: st) M cs sl := by
  intro ρ H locs LS a3 a4 a5 m1 m2 a7
  exact lv_tableOut C.hx C.hb hd h ht (k ρ H locs LS a3 a4 a5 m1 m2 (okl_t a7))
theorem L_tableIn (C : CL Y) {dflt lo hi : Int} {offs : Array Int} {len : Nat} {x : Int32} {off : Int} {tgt : Nat} (hd : decode code pc = .ok (.tableswitch dflt lo hi offs, len)) (h1 : ¬ x.toInt < lo) (h2 : ¬ hi < x.toInt) (ho : offs[(x.toInt - lo).toNat]? = some off) (ht : (pc : Int) + off = (tgt : Int)) (k : JL Y tgt x3 st M cs sl) : JL Y pc x3 (.int x :: st) M cs sl := by
  intro ρ H locs LS a3 a4 a5 m1 m2 a7
  exact lv_tableIn C.hx C.hb hd h1 h2 ho ht (k ρ H locs LS a3 a4 a5 m1 m2 (okl_t a7))
theorem lw_nA (C : CL Y) : ¬ (fun q : Nat => (ls Y).heap.size ≤ q) (lb Y) := Nat.not_le.mpr C.hbl
theorem L_slen (C : CL Y) {pc1 : Nat} (hd1 : decode code pc = .ok (.aload_n 0, 1)) (h1 : pc + 1 = pc1) (hd2 : decode code pc1 = .ok (.arraylength, 1)) (h2 : pc1 + 1 = pc') (k : JL Y pc' x3 (.int (Int32.ofNat (lL Y)) :: st) M cs sl) : JL Y pc x3 st M cs sl := by
  subst h1; subst h2
  intro ρ H locs LS a3 a4 a5 m1 m2 a7
  refine lv_aload_n C.hx C.hb hd1 rfl (lv_at a5 0 rfl) ?_
  exact va_slen C.hx C.hb C.hX C.hbl (lw_nA C) a4 hd2 (k ρ H locs LS a3 a4 a5 m1 m2 (okl_i a7))
theorem L_sld0 (C : CL Y) {pc1 pc2 : Nat} (hin : vp_in x3 (lL Y)) (hd1 : decode code pc = .ok (.aload_n 0, 1)) (h1 : pc + 1 = pc1) (hd2 : decode code pc1 = .ok (.iload_n 3, 1)) (h2 : pc1 + 1 = pc2) (hd3 : decode code pc2 = .ok (.iaload, 1)) (h3 : pc2 + 1 = pc') (k : JL Y pc' x3 (.int (lxs Y x3.toNatClampNeg) :: st) M cs sl) : JL Y pc x3 st M cs sl := by
  subst h1; subst h2; subst h3
  intro ρ H locs LS a3 a4 a5 m1 m2 a7
  refine lv_aload_n C.hx C.hb hd1 rfl (lv_at a5 0 rfl) ?_
  refine lv_iload_n C.hx C.hb hd2 rfl (lv_at a5 3 rfl) ?_
  exact va_sld C.hx C.hb C.hX C.hbl (lw_nA C) a4 hin hd3 (k ρ H locs LS a3 a4 a5 m1 m2 (okl_i a7))
theorem L_sld (C : CL Y) {pc1 pc2 pc3 pc4 : Nat} {n : Int} {v : Int32} (hin : vp_in (x3 + v) (lL Y)) (hd1 : decode code pc = .ok (.aload_n 0, 1)) (h1 : pc + 1 = pc1) (hd2 : decode code pc1 = .ok (.iload_n 3, 1)) (h2 : pc1 + 1 = pc2) (hd3 : decode code pc2 = .ok (.iconst n, 1)) (h3 : pc2 + 1 = pc3) (hv : Int32.ofInt n = v) (hd4 : decode code pc3 = .ok (.iadd, 1)) (h4 : pc3 + 1 = pc4) (hd5 : decode code pc4 = .ok (.iaload, 1)) (h5 : pc4 + 1 = pc') (k : JL Y pc' x3 (.int (lxs Y (x3 + v).toNatClampNeg) :: st) M cs sl) : JL Y pc x3 st M cs sl := by
  subst h1; subst h2; subst h3; subst h4; subst h5
  intro ρ H locs LS a3 a4 a5 m1 m2 a7
  refine lv_aload_n C.hx C.hb hd1 rfl (lv_at a5 0 rfl) ?_
  refine lv_iload_n C.hx C.hb hd2 rfl (lv_at a5 3 rfl) ?_
  refine lv_iconst C.hx C.hb hd3 hv ?_
  refine lv_iadd C.hx C.hb hd4 ?_
  exact va_sld C.hx C.hb C.hX C.hbl (lw_nA C) a4 hin hd5 (k ρ H locs LS a3 a4 a5 m1 m2 (okl_i a7))
theorem L_callV (C : CL Y) {y : MethodName} {bc : ByteArray} {maxL n idx F1 L1 mc ms a : Nat} {rt : Option FieldType} {as : List Value} {r1 : Option Value} {u : Unit} {q : vw_C} (ci : Nat) (hq : vwCl[ci]? = some q) (hqc : q.1 = y.cls) (hck : chk M a ci = some u) (hM : Runs y bc maxL rt F1 L1 mc ms (.ref a :: as) M r1 M1) (hm : MwV y bc maxL rt n) (hl : Cond.methodLink RL idx y ∈ lw_all) (hn : as.length = n) (hd : decode code pc = .ok (.invokevirtual idx, 3)) (hp : pc + 3 = pc') (hs : st1 = as.reverse ++ .ref a :: st) (h8 : (st.map fun v => v.category).sum ≤ 8) (hF : F1 + 1 ≤ 2048) (hL : 8 + (maxL + 11) + L1 ≤ 84000) (e1 : r1.toList ++ st = st2) (e2 : cs + mc = cs2) (e3 : sl + ms = sl2) (hc1 : cs2 ≤ 600000) (hs1 : sl2 ≤ 7302250) (kk : JL Y pc' x3 st2 M1 cs2 sl2) : JL Y pc x3 st1 M cs sl := by
  subst hp; subst hs; subst e1; subst e2; subst e3
  intro ρ H locs LS a3 a4 a5 m1 m2 a7
  obtain ⟨w1, w2, w3, w7, w4, w5, w6⟩ := hm
  obtain ⟨fs, hMa⟩ := chk_some hck
  obtain ⟨⟨ws, hP, hD, hcov⟩, hinj, hcl, hz⟩ := id a3
  obtain ⟨q0, hq0⟩ := hcov a _ hMa
  have hts : ∀ w ∈ lw_all, w.before #[Value.ref (lb Y)] (ls Y) = true := fun w h => C.hts w (lw_all_tbl h)
  have hG : GoodIn lw_all (wsV RL idx y.cls y (.code y bc maxL rt :: lw_all)) := fun w hw => by
    unfold wsV at hw
    rcases List.mem_append.mp hw with h | h
    · simp only [List.mem_cons, List.not_mem_nil, or_false] at h
      rcases h with rfl | rfl | rfl | rfl
      · exact lw_all_good _ hl
      · exact lw_all_good _ w3
      · exact lw_all_good _ w7
      · exact lw_all_good _ w2
    · exact lw_gw w1 w h
  have oas : okl M (.ref a :: as) := fun x hx => a7 x (by
    rcases List.mem_cons.mp hx with e | e
    · exact List.mem_append_right _ (by rw [e]; exact List.mem_cons_self)
    · exact List.mem_append_left _ (List.mem_reverse.mpr e))
  have ost : okl M st := fun x hx => a7 x (List.mem_append_right _ (List.mem_cons_of_mem _ hx))
  have hrecv := va_recv C.2.1 hP hq hq0
  rw [hqc] at hrecv
  have hrun := va_runV (l := ll Y) (e := le Y) (R := room_1) (below := lbel Y) (meth := lmeth Y) (H := H) (locs := locs) (cells := cs) (slots := sl) (g := F0 (lm Y) pc LS ((as.reverse ++ .ref a :: st).map (rv ρ))) (As := as.map (rv ρ)) (b := ρ a) (rest := st.map (rv ρ)) ⟨C.hx, C.hb, C.hml, C.hown, hts⟩ (hM (ll Y) (lD Y) (lcK Y) (ls Y).heap.size ρ { frames := F1, cells := mc, slots := ms, locals := L1 } (Nat.le_refl _) (Nat.le_refl _) rfl rfl) (cwV n hts hG rfl rfl rfl ⟨rfl, w4, w5, w6⟩ ⟨hF, hL⟩) ⟨J_blind, hrecv, fun U hU hW => ⟨rfl, C.2.warm hW, by rw [hU]; exact a3, oas⟩⟩ rfl (by rw [List.length_map]; exact hn) a5.1 (by show (List.map (rv ρ) (as.reverse ++ .ref a :: st)) = _; rw [List.map_append, List.map_reverse]; rfl) (by show 2 * 0 + _ ≤ _; rw [cat_sum]; omega) hd ⟨hc1, hs1⟩
  intro T hT XS
  obtain ⟨v, s0, t, T', L, h0, X', hL', e1, e2, ⟨⟨ρ1, hρ, hdom, hv, hK, hR, hok⟩, hz1, hk⟩, hst⟩ := hrun T hT XS
  have hv' : v = r1.map (rv ρ1) := by injection hv
  subst hv'
  rw [h0] at hz1 hk
  have hS : va_S (fun q => (ls Y).heap.size ≤ q) (ls Y).heap T'.heap (locs ++ L) := by
    refine ⟨Nat.le_trans a4.1 (by rw [e1]; exact hz1), fun q h1 h2 => by rw [e1, hk q (Nat.lt_of_lt_of_le h1 a4.1) h2]; exact a4.2.1 q h1 h2, fun q hq => ?_⟩
    rcases List.mem_append.mp hq with h | h
    · exact a4.2.2 q h
    · exact hL' q h
  have h := kk ρ1 T'.heap (locs ++ L) LS (by rw [e1]; exact hR) hS (by rw [hρ 0 m1, hρ 44 m2]; exact a5) (hdom 0 m1) (hdom 44 m2) (okl_app hok (okl_mono hdom ost)) T' rfl X'
  obtain ⟨t2, b1, b2⟩ := h
  refine ⟨t2, hst t2 ?_, b2⟩
  rw [List.map_append, rv_ext hρ ost] at b1
  cases r1 with
  | none => exact b1
  | some w => exact b1
theorem L_end (C : CL Y) (hd1 : decode code pc = .ok (.iconst 1, 1)) (h1 : pc + 1 = pc') (hd2 : decode code pc' = .ok (.ireturn, 1)) (hc : cs ≤ 600000) (hs : sl ≤ 7302250) : JL Y pc x3 [] M cs sl := by
  subst h1
  intro ρ H locs LS a3 a4 a5 m1 m2 a7
  refine lv_iconst (v := 1) C.hx C.hb hd1 (by decide) ?_
  refine va_forget (fun q hq => a4.2.2 q hq) ?_
  refine W.widen hc hs ?_
  exact W.base (lw_ret (Drawn.sameBut.refl (ls Y).drawn lw_cs) C.hx C.hb C.1.2.2.1 C.1.2.2.2.2.2.2.2.2.1 hd2)
end Lr
/-- one call of the class and the same one of the reference answer alike, and the invariant holds again -/
def LawI (Inv : Nat → A_M → Nat → Nat → Prop) (yx : MethodName) (bx : ByteArray) (lx Fx Lox : Nat) (ym : MethodName) (bm : ByteArray) (lm1 Fm Lom : Nat) (ax : List Value) : Prop :=
  ∀ z M cs sl, z < 1536 → Inv z M cs sl → ∃ (r : Int32) (M1 M2 : A_M) (mc ms : Nat), Runs yx bx lx (some .int) Fx Lox mc ms (.ref 0 :: ax) M (some (.int r)) M1 ∧ Runs ym bm lm1 (some .int) Fm Lom 0 0 (.ref 44 :: ax) M1 (some (.int r)) M2 ∧ chk M 0 6 = some () ∧ chk M1 44 7 = some () ∧ Inv (z + 1) M2 (cs + mc) (sl + ms)
def LawJ (Inv : Nat → A_M → Nat → Nat → Prop) (yx : MethodName) (bx : ByteArray) (lx Fx Lox : Nat) (ym : MethodName) (bm : ByteArray) (lm1 Fm Lom : Nat) (ax : List Value) : Prop :=
  ∀ z M cs sl, z < 1536 → Inv z M cs sl → ∃ (r : Int64) (M1 M2 : A_M) (mc ms : Nat), Runs yx bx lx (some .long) Fx Lox mc ms (.ref 0 :: ax) M (some (.long r)) M1 ∧ Runs ym bm lm1 (some .long) Fm Lom 0 0 (.ref 44 :: ax) M1 (some (.long r)) M2 ∧ chk M 0 6 = some () ∧ chk M1 44 7 = some () ∧ Inv (z + 1) M2 (cs + mc) (sl + ms)
def InvB (Inv : Nat → A_M → Nat → Nat → Prop) : Prop := ∀ z M cs sl, Inv z M cs sl → cs ≤ 600000 ∧ sl ≤ 7302250 ∧ M 0 ≠ none ∧ M 44 ≠ none
theorem lg_cmp_self (x : Int64) : lg_cmp x x = 0 := by
  unfold lg_cmp
  rw [if_neg (show ¬ x > x from fun h => by have h : x.toInt < x.toInt := Int64.lt_iff_toInt_lt.mp h; omega), if_pos rfl]
