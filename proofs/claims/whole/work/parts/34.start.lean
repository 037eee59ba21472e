/-! THE LAW'S ENTRY -/
def JE (Y : LX) (pc : Nat) (lv : List (Nat × Value)) (M : A_M) (cs sl : Nat) : Prop :=
  ∀ (ρ : Nat → Nat) (H : Heap) (locs : List Loc) (LS : Array Slot), Rel (lD Y) (lcK Y) (ls Y).heap.size ρ M H → va_S (fun q => (ls Y).heap.size ≤ q) (ls Y).heap H locs → lv_has LS 4 ((lv.map (fun q => (q.1, rv ρ q.2))) ++ [(0, .ref (lb Y))]) → okl M (lv.map (fun q => q.2)) → LW Y H locs cs sl (F0 (lm Y) pc LS [])
set_option maxHeartbeats 4000000 in
theorem E_make {Y : LX} (C : CL Y) {pc idx idx2 n maxL F1 L1 mc ms N cs sl : Nat} {j : Fin 4} {lv : List (Nat × Value)} {M M1 : A_M} {Cn : String} {T : u_T} {fs : List Value} {y : MethodName} {bc : ByteArray} (ci : Nat) (hc : vwCl[ci]? = some (Cn, T, N)) (hin : ∀ w ∈ u_ws Cn T N, w ∈ lw_all) (ty : Nat → FieldType) (hty : ∀ k, k < N → parseFieldDescriptor (T k).2.2.1 = some (ty k)) (hcl0 : Cond.classLink RL idx Cn ∈ lw_all) (hinst : Cond.instantiable Cn N ∈ lw_all) (hini : Cond.initialized Cn ∈ lw_all) (hfs : ∀ j, j < N → defaultValue (ty j) = vp_V fs j) (hfr : fs.all (fun v => match v with | .ref _ => false | _ => true) = true) (hn : M n = none)
    (hM : Runs y bc maxL none F1 L1 mc ms [.ref n] (upM M n (.inr (ci, fs))) none M1) (hm : MwI y bc maxL 0) (hl : Cond.methodLink RL idx2 y ∈ lw_all) (hF : F1 + 1 ≤ 2048) (hL : 8 + (maxL + 11) + L1 ≤ 84000) (hc1 : cs + 1 + mc ≤ 600000) (hs1 : sl + N + ms ≤ 7302250)
    (d1 : decode code pc = .ok (.new idx, 3)) (d2 : decode code (pc + 3) = .ok (.dup, 1)) (d3 : decode code (pc + 3 + 1) = .ok (.invokespecial idx2, 3)) (d4 : decode code (pc + 3 + 1 + 3) = .ok (.astore_n j, 1)) (hj0 : (j : Nat) ≠ 0) (hjl : ∀ q ∈ lv, q.1 ≠ (j : Nat)) (hcat : ∀ q ∈ lv, q.2.category = 1)
    (kk : JE Y (pc + 3 + 1 + 3 + 1) (((j : Nat), .ref n) :: lv) M1 (cs + 1 + mc) (sl + N + ms)) : JE Y pc lv M cs sl := by
  intro ρ H locs LS a3 a4 a5 a6
  obtain ⟨w1, w2, w3, w7, w4, w5, w6⟩ := hm
  obtain ⟨⟨ws, hP, hD, hcov⟩, hinj, hcl, hz⟩ := id a3
  have hnr : ∀ x, Value.ref x ∉ fs := fun x hx => by have := List.all_eq_true.mp hfr _ hx; cases this
  have hts : ∀ w ∈ lw_all, w.before #[Value.ref (lb Y)] (ls Y) = true := fun w h => C.hts w (lw_all_tbl h)
  refine va_new C.hx C.hb hts hin ty hty C.hown (hts _ hcl0) (hts _ hinst) (hts _ hini) C.2.1 hP hD a4 (fun q h => h) hc hfs (Nat.le_trans (by omega) hc1) (Nat.le_trans (by omega) hs1) d1 (fun q H1 hP1 hD1 hS1 => ?_)
  have hR : Rel (lD Y) (lcK Y) (ls Y).heap.size (fun j => if j = n then q else ρ j) (upM M n (.inr (ci, fs))) H1 := by
    refine Rel.push (c' := .inr (ci, fs)) hcov hinj hcl hn (fun ρ1 => ?_) (fun x hx => absurd hx (hnr x)) hP1 hD1 hS1.1
    show Sum.inr (ci, fs.map (rv ρ1)) = _
    have e : fs.map (rv ρ1) = fs := by
      conv => rhs; rw [← List.map_id fs]
      apply List.map_congr_left
      intro v hv
      cases v with
      | ref x => exact absurd hv (hnr x)
      | _ => rfl
    rw [e]
  generalize hρ' : (fun j => if j = n then q else ρ j) = ρ1 at hR
  have hρn : ρ1 n = q := by rw [← hρ']; exact if_pos rfl
  have hρo : ∀ k, M k ≠ none → ρ1 k = ρ k := fun k hk => by rw [← hρ']; exact if_neg (fun e => hk (by rw [e]; exact hn))
  have hdm : ∀ k, M k ≠ none → upM M n (.inr (ci, fs)) k ≠ none := fun k hk => upM_dom hk
  refine lv_dup C.hx C.hb d2 rfl ?_
  have oas : okl (upM M n (.inr (ci, fs))) [.ref n] := fun x hx => by
    rcases List.mem_cons.mp hx with e | e
    · cases e; rw [upM_eq]; exact Option.some_ne_none _
    · cases e
  have hrun := va_runI (l := ll Y) (e := le Y) (R := room_1) (below := lbel Y) (meth := lmeth Y) (H := H1) (locs := locs) (cells := cs + 1) (slots := sl + N) (g := F0 (lm Y) (pc + 3 + 1) LS [.ref q, .ref q]) (As := []) (b := q) (rest := [.ref q]) (own := RL) (index := idx2) ⟨C.hx, C.hb, C.hml, C.hown, hts⟩ (hM (ll Y) (lD Y) (lcK Y) (ls Y).heap.size ρ1 { frames := F1, cells := mc, slots := ms, locals := L1 } (Nat.le_refl _) (Nat.le_refl _) rfl rfl) (cwI 0 hts (lw_gw w1) rfl rfl rfl (hts _ w2) (hts _ hl) (hts _ w3) w7 ⟨w4, w5, w6⟩ ⟨hF, hL⟩) ⟨J_blind, fun U hU hW => ⟨by simp [rv, hρn], C.2.warm hW, by rw [hU]; exact hR, oas⟩⟩ rfl rfl a5.1 rfl (Nat.le_of_ble_eq_true rfl) d3 ⟨hc1, hs1⟩
  intro T hT XS
  obtain ⟨v, s0, t, T', L, h0, X', hL', e1, e2, ⟨⟨ρ2, hρ, hdom, hv, hK, hR2, hok⟩, hz1, hk⟩, hst⟩ := hrun T hT XS
  have hv' : v = none := by injection hv
  subst hv'
  rw [h0] at hz1 hk
  have hS : va_S (fun q => (ls Y).heap.size ≤ q) (ls Y).heap T'.heap (locs ++ L) := by
    refine ⟨Nat.le_trans hS1.1 (by rw [e1]; exact hz1), fun q h1 h2 => by rw [e1, hk q (Nat.lt_of_lt_of_le h1 hS1.1) h2]; exact hS1.2.1 q h1 h2, fun q hq => ?_⟩
    rcases List.mem_append.mp hq with h | h
    · exact hS1.2.2 q h
    · exact hL' q h
  have hlv : lv.map (fun q => (q.1, rv ρ2 q.2)) = lv.map (fun q => (q.1, rv ρ q.2)) := by
    rw [rv_ext2 (M := M) (fun k hk => (hρ k (hdm k hk)).trans (hρo k hk)) a6]
  have h := lv_astore_n (p := lp Y) (l := ll Y) (e := le Y) (R := room_1) (s := ls Y) (m := lm Y) (args := #[Value.ref (lb Y)]) (below := lbel Y) (meth := lmeth Y) (c := lc Y) (H := T'.heap) (locs := locs ++ L) (cells := cs + 1 + mc) (slots := sl + N + ms) (Q := lw_Z (lbel Y) #[Value.ref (lb Y)] (ls Y)) (ls := LS) (rest := []) (x := q) (lv' := ((j : Nat), .ref q) :: (lv.map (fun q => (q.1, rv ρ q.2)) ++ [(0, .ref (lb Y))])) C.hx C.hb d4 rfl a5 j.isLt (by
    refine congrArg (List.cons _) (List.filter_eq_self.mpr ?_)
    intro z hz
    rcases List.mem_append.mp hz with hz | hz
    · obtain ⟨w, hw, rfl⟩ := List.mem_map.mp hz
      have h1 := hjl w hw
      have h2 := hcat w hw
      simp [rv_cat, h1, h2]
    · have : z = (0, .ref (lb Y)) := by simpa using hz
      subst this
      have : ¬ (0 = (j : Nat)) := fun e => hj0 e.symm
      simp [this, Value.category]) (fun LS' hLS => by
    have hn2 : ρ2 n = q := (hρ n (by rw [upM_eq]; exact Option.some_ne_none _)).trans hρn
    refine kk ρ2 T'.heap (locs ++ L) LS' (by rw [e1]; exact hR2) hS (by show lv_has LS' 4 (((j : Nat), rv ρ2 (.ref n)) :: List.map (fun q => (q.1, rv ρ2 q.2)) lv ++ [(0, .ref (lb Y))]); rw [show rv ρ2 (.ref n) = .ref q by simp [rv, hn2], hlv]; exact hLS) ?_
    refine okl_c (fun x e => by cases e; exact hdom n (by rw [upM_eq]; exact Option.some_ne_none _)) (okl_mono (fun k hk => hdom k (hdm k hk)) a6)) T' rfl X'
  obtain ⟨t2, b1, b2⟩ := h
  exact ⟨t2, hst t2 b1, b2⟩
def dX6 : List Value := [.null, .null, .null, .null, .null, .null, .null, .null, .null, .null, .int 0, .int 0, .int 0, .int 0, .int 0, .null, .null, .null]
def dX7 : List Value := [.null, .int 0, .null, .int 0, .int 0, .int 0, .int 0, .null, .null, .null, .null, .null, .null, .null, .int 0, .int 0, .int 0, .null, .null, .null, .null, .int 0, .null, .int 0, .null, .int 0, .int 0, .null, .null, .null, .null, .null, .null, .int 0, .null, .null, .int 0, .int 0, .null, .null, .int 0, .null, .null, .null, .int 0, .null, .int 0, .null, .null, .null, .int 0, .null, .null, .int 0, .null, .null, .null]
/-- the two objects are made, and the invariant holds of what is there then -/
def StartOk (Inv : Nat → A_M → Nat → Nat → Prop) : Prop := ∃ M1 M3 : A_M, Runs yX6_init cX6_init 2 none 2 40 43 1319 [.ref 0] (upM (fun _ => none) 0 (.inr (6, dX6))) none M1 ∧ M1 44 = none ∧ Runs yX7_init cX7_init 1 none 1 20 37 464576 [.ref 44] (upM M1 44 (.inr (7, dX7))) none M3 ∧ Inv 0 M3 82 465970
/-- the tables' numbers of classes and array classes -/
theorem KK_ex {s : State} {av : Array Value} (hts : ∀ w ∈ lw_tbl, w.before av s = true) : ∃ (D : va_G) (cK : Nat → ClassId), KK D cK s := by
  have ht : ∀ w ∈ lw_all, w.before av s = true := fun w h => hts w (lw_all_tbl h)
  obtain ⟨c0, i0, hK0⟩ := u_known (C := RX0) (T := TX0) (N := 3) (n := 3) ht inA0 (ht _ wq_165)
  obtain ⟨c1, i1', hK1⟩ := u_known (C := RX1) (T := TX1) (N := 11) (n := 11) ht inA1 (ht _ wq_320)
  obtain ⟨c2, i2', hK2⟩ := u_known (C := RX2) (T := TX2) (N := 5) (n := 5) ht inA2 (ht _ wq_115)
  obtain ⟨c3, i3', hK3⟩ := u_known (C := RX3) (T := TX3) (N := 5) (n := 5) ht inA3 (ht _ wq_142)
  obtain ⟨c4, i4, hK4⟩ := u_known (C := RX4) (T := TX4) (N := 5) (n := 5) ht inA4 (ht _ wq_455)
  obtain ⟨c5, i5, hK5⟩ := u_known (C := RX5) (T := TX5) (N := 11) (n := 11) ht inA5 (ht _ wq_734)
  obtain ⟨c6, i6, hK6⟩ := u_known (C := RX6) (T := TX6) (N := 18) (n := 18) ht inA6 (ht _ wq_107)
  obtain ⟨c7, i7, hK7⟩ := u_known (C := RX7) (T := TX7) (N := 57) (n := 57) ht inA7 (ht _ wq_873)
  obtain ⟨cI, kI, coI, i1, i2, i3⟩ := Cond.arrayClass_spec (ht _ wq_140)
  obtain ⟨cJ, kJ, coJ, j1, j2, j3⟩ := Cond.arrayClass_spec (ht _ wq_163)
  obtain ⟨cZ, kZ, coZ, z1, z2, z3⟩ := Cond.arrayClass_spec (ht _ wq_1051)
  have hm : Cond.arrayOver (.object "WordChest$Code") ∈ lw_tbl := by
    have h : tables_1_1[99]? = some (Cond.arrayOver (.object "WordChest$Code")) := by decide +kernel
    have h := List.mem_of_getElem? h
    exact List.mem_append_right _ (List.mem_append_left _ h)
  have hao : (Cond.arrayOver (.object "WordChest$Code")).before av s = true := hts _ hm
  obtain ⟨comp, cA, kA, q4, -, q2, q3, q1⟩ := Cond.arrayOver_spec hao
  refine ⟨(fun k => if k = 0 then c0 else if k = 1 then c1 else if k = 2 then c2 else if k = 3 then c3 else if k = 4 then c4 else if k = 5 then c5 else if k = 6 then c6 else c7, fun k => if k = 0 then i0 else if k = 1 then i1' else if k = 2 then i2' else if k = 3 then i3' else if k = 4 then i4 else if k = 5 then i5 else if k = 6 then i6 else i7), (fun k => if k = 0 then cI else if k = 1 then cJ else if k = 2 then cZ else cA), ⟨?_, ?_⟩, ?_, ?_⟩
  · intro k q hq
    match k, hq with
    | 0, hq => cases hq; exact hK0
    | 1, hq => cases hq; exact hK1
    | 2, hq => cases hq; exact hK2
    | 3, hq => cases hq; exact hK3
    | 4, hq => cases hq; exact hK4
    | 5, hq => cases hq; exact hK5
    | 6, hq => cases hq; exact hK6
    | 7, hq => cases hq; exact hK7
    | k + 8, hq => simp [vwCl] at hq
  · intro k q hq
    match k, hq with
    | 0, hq => cases hq; exact ⟨fun n z => ⟨fun k h => (by cases h), kI, i2, coI, i3⟩, i1⟩
    | 1, hq => cases hq; exact ⟨fun n z => ⟨fun k h => (by cases h), kJ, j2, coJ, j3⟩, j1⟩
    | 2, hq => cases hq; exact ⟨fun n z => ⟨fun k h => (by cases h), kZ, z2, coZ, z3⟩, z1⟩
    | 3, hq => cases hq; exact ⟨fun n z => ⟨fun k h => (by cases h), kA, q2, comp, q3⟩, kA, comp, q2, q3, q4, q1⟩
    | k + 4, hq => simp [tysK] at hq
  · intro w hw
    obtain ⟨a, i, x, b, rfl⟩ := lw_nest_is hw
    exact va_Nw.of rfl (hts _ (List.mem_filter.mp hw).1)
  · exact va_AO.of hao
set_option maxHeartbeats 4000000 in
set_option maxRecDepth 100000 in
/-- THE WHOLE WALK, out of what each call does and of the start -/
theorem whole_of {Inv : Nat → A_M → Nat → Nat → Prop} (hB : InvB Inv) (hSt : StartOk Inv) (H0 : LO_sign Inv) (H1 : LO_thing Inv) (H2 : LO_count Inv) (H3 : LO_build Inv) (H4 : LO_own Inv) (H5 : LO_add Inv) (H6 : LO_holds Inv) (H7 : LO_broken Inv) (H8 : LO_cost Inv) (H9 : LO_mean Inv) (H10 : LO_length Inv) (H11 : LO_word Inv) (H12 : LO_room Inv) (H13 : LO_full Inv) (H14 : LO_canon Inv) (H15 : LO_node Inv) (H16 : LO_write Inv) (H17 : LO_put Inv) (H18 : LO_wipe Inv) (H19 : LO_line Inv) (H20 : LO_read Inv) (H21 : LO_item Inv) (H22 : LO_grow Inv) (H23 : LO_send Inv) (H24 : LO_hear Inv) (H25 : LO_grown Inv) (H26 : LO_step Inv) (H27 : LO_stepSign Inv) (H28 : LO_keep Inv) (H29 : LO_back Inv) (H30 : LO_differs Inv) (H31 : LO_told Inv) (H32 : LO_price Inv) (H33 : LO_rank Inv) {p : Program} {e : Env} {s : State} {m : MethodId} {below : List Frame} {meth : Method} {c : Code} (l : Launch) {b L : Nat} {xs : Nat → Int32} (hL : L ≤ 1536) (C0 : lw_At p s m meth c b L xs) : W p l e room_1 s m #[Value.ref b] below meth c s.heap [] 0 0 (lw_Z below #[Value.ref b] s) (entryFrame m ([Value.ref b] : List Value).toArray 4) := by
  obtain ⟨D, cK, hK⟩ := KK_ex C0.2.2.2.2.2.1
  obtain ⟨M1, M3, r1, e1, r2, hI⟩ := hSt
  have C : CL (p, l, e, s, m, below, meth, c, b, L, xs, D, cK) := ⟨C0, hK⟩
  have hl := lv_entry ([.ref b]) (n := 4) (Nat.le_of_ble_eq_true rfl)
  rw [lg_entry_eq]
  generalize (lg_sl ([.ref b]) ++ List.replicate (4 - (lg_sl ([.ref b])).length) Slot.unset).toArray = ls0 at hl ⊢
  have hl : lv_has ls0 4 [(0, .ref b)] := hl
  have K : JE (p, l, e, s, m, below, meth, c, b, L, xs, D, cK) 0 [] (fun _ => none) 0 0 := by
    refine E_make (j := 1) (n := 0) (fs := dX6) C 6 rfl inA6 tyX6 tyX6_ok wq_106 wq_107 wq_91 (by decide +kernel) (by decide +kernel) rfl r1 mw_X6_init wq_108 (by decide) (by decide) (by decide) (by decide) dL_law_0 dL_law_3 dL_law_4 dL_law_7 (by decide) (fun _ h => absurd h List.not_mem_nil) (fun _ h => absurd h List.not_mem_nil) ?_
    refine E_make (j := 2) (n := 44) (fs := dX7) C 7 rfl inA7 tyX7 tyX7_ok wq_872 wq_873 wq_95 (by decide +kernel) (by decide +kernel) e1 r2 mw_X7_init wq_874 (by decide) (by decide) (by decide) (by decide) dL_law_8 dL_law_11 dL_law_12 dL_law_15 (by decide) (fun q h => by rw [List.mem_singleton.mp h]; decide) (fun q h => by rw [List.mem_singleton.mp h]; rfl) ?_
    intro ρ H locs LS a3 a4 a5 a6
    have hb := hB _ _ _ _ hI
    refine lv_iconst (v := 0) C.hx C.hb dL_law_16 (by decide) ?_
    refine lv_istore_n (lv' := [(3, .int 0), (2, .ref (ρ 44)), (1, .ref (ρ 0)), (0, .ref b)]) C.hx C.hb dL_law_17 rfl a5 (by decide) rfl (fun LS' hLS => ?_)
    exact law_loop C hL hB H0 H1 H2 H3 H4 H5 H6 H7 H8 H9 H10 H11 H12 H13 H14 H15 H16 H17 H18 H19 H20 H21 H22 H23 H24 H25 H26 H27 H28 H29 H30 H31 H32 H33 (L + 4) 0 0 M3 _ _ (Nat.zero_le _) (Nat.le_refl _) (Nat.le_of_eq (Nat.zero_add _).symm) hI ρ H locs LS' a3 a4 (lv_sub hLS [3, 2, 1, 0] rfl) hb.2.2.1 hb.2.2.2 (fun _ h => absurd h List.not_mem_nil)
  exact K (fun _ => 0) s.heap [] ls0 ⟨⟨[], fun k q h => by simp at h, ⟨fun i j p q h => by simp at h, fun k q h => by simp at h⟩, fun k c h => (by cases h)⟩, fun j k h _ _ => absurd rfl h, fun k c h => (by cases h), Nat.le_refl _⟩ va_S.rf hl (fun _ h => absurd h List.not_mem_nil)
