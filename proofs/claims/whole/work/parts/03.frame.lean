/-! THE WALK'S OWN WORLD: an abstract memory (ids to cells), how a heap shows it, and the judgement J of a method's walk over it. -/
/-- every word of the tables that stays good at a call -/
def lw_all : List Cond := lw_tbl.filter goodWord
theorem lw_all_good : GoodIn lw_all lw_all := fun w hw => ⟨hw, good_of_word (List.mem_filter.mp hw).2⟩
theorem lw_all_tbl {w : Cond} (h : w ∈ lw_all) : w ∈ lw_tbl := (List.mem_filter.mp h).1
theorem lw_all_of {w : Cond} (i : Nat) (h : lw_tbl[i]? = some w) (hg : goodWord w = true) : w ∈ lw_all := List.mem_filter.mpr ⟨List.mem_of_getElem? h, hg⟩
/-- the links to nest mates -/
def isNestW (w : Cond) : Bool := match w with
  | .methodLinkNest _ _ _ _ => true
  | _ => false
def lw_nest : List Cond := lw_tbl.filter isNestW
theorem lw_nest_of {w : Cond} (i : Nat) (h : lw_tbl[i]? = some w) (hg : isNestW w = true) : w ∈ lw_nest := List.mem_filter.mpr ⟨List.mem_of_getElem? h, hg⟩
theorem lw_nest_is {w : Cond} (h : w ∈ lw_nest) : ∃ a i x b, w = .methodLinkNest a i x b := by
  have h2 := (List.mem_filter.mp h).2
  revert h2
  unfold isNestW
  cases w <;> intro h2 <;> first | exact ⟨_, _, _, _, rfl⟩ | cases h2
/-- a cell: an array (kind 0 int, 1 long, 2 boolean, 3 Code) or an object (its class's number, its fields); references are ids -/
abbrev A_C : Type := (Nat × vp_A) ⊕ (Nat × List Value)
abbrev A_M : Type := Nat → Option A_C
def rv (ρ : Nat → Nat) (v : Value) : Value := match v with
  | .ref k => .ref (ρ k)
  | w => w
def rA (ρ : Nat → Nat) (a : vp_A) : vp_A := match a with
  | (n, .inr (.inr (.inr (.inr f)))) => (n, .inr (.inr (.inr (.inr (fun j => (f j).map ρ)))))
  | b => b
def rc (cK : Nat → ClassId) (ρ : Nat → Nat) (c : A_C) : va_E := match c with
  | .inl (k, a) => .inl (cK k, rA ρ a)
  | .inr (k, fs) => .inr (k, fs.map (rv ρ))
def tysK (cK : Nat → ClassId) : List (ClassId × FieldType) := [(cK 0, .int), (cK 1, .long), (cK 2, .boolean), (cK 3, .object "WordChest$Code")]
def okl (M : A_M) (vs : List Value) : Prop := ∀ x, Value.ref x ∈ vs → M x ≠ none
def okc (M : A_M) (c : A_C) : Prop := match c with
  | .inl (_, (_, .inr (.inr (.inr (.inr f))))) => ∀ j x, f j = some x → M x ≠ none
  | .inl _ => True
  | .inr (_, fs) => okl M fs
def upM (M : A_M) (a : Nat) (c : A_C) : A_M := fun j => if j = a then some c else M j
theorem upM_eq (M : A_M) (a : Nat) (c : A_C) : upM M a c a = some c := if_pos rfl
theorem upM_ne (M : A_M) {a j : Nat} (c : A_C) (h : j ≠ a) : upM M a c j = M j := if_neg h
theorem upM_dom {M : A_M} {a : Nat} {c : A_C} {k : Nat} (h : M k ≠ none) : upM M a c k ≠ none := by
  by_cases e : k = a
  · rw [e, upM_eq]; exact Option.some_ne_none _
  · rw [upM_ne M c e]; exact h
theorem okl_mono {M M1 : A_M} (h : ∀ k, M k ≠ none → M1 k ≠ none) {vs : List Value} (o : okl M vs) : okl M1 vs := fun x hx => h x (o x hx)
theorem okc_mono {M M1 : A_M} (h : ∀ k, M k ≠ none → M1 k ≠ none) {c : A_C} (o : okc M c) : okc M1 c := by
  rcases c with ⟨k, n, f | f | f | f | f⟩ | ⟨k, fs⟩
  · trivial
  · trivial
  · trivial
  · trivial
  · exact fun j x e => h x (o j x e)
  · exact okl_mono h o
theorem okl_t {M : A_M} {v : Value} {vs : List Value} (h : okl M (v :: vs)) : okl M vs := fun x hx => h x (List.mem_cons_of_mem _ hx)
theorem okl_i {M : A_M} {v : Int32} {vs : List Value} (h : okl M vs) : okl M (.int v :: vs) := fun x hx => by
  rcases List.mem_cons.mp hx with e | e
  · cases e
  · exact h x e
theorem okl_l {M : A_M} {v : Int64} {vs : List Value} (h : okl M vs) : okl M (.long v :: vs) := fun x hx => by
  rcases List.mem_cons.mp hx with e | e
  · cases e
  · exact h x e
theorem okl_d {M : A_M} {v : UInt64} {vs : List Value} (h : okl M vs) : okl M (.double v :: vs) := fun x hx => by
  rcases List.mem_cons.mp hx with e | e
  · cases e
  · exact h x e
theorem okl_c {M : A_M} {v : Value} {vs : List Value} (hv : ∀ x, v = .ref x → M x ≠ none) (h : okl M vs) : okl M (v :: vs) := fun x hx => by
  rcases List.mem_cons.mp hx with e | e
  · exact hv x e.symm
  · exact h x e
theorem okl_app {M : A_M} {us vs : List Value} (h1 : okl M us) (h2 : okl M vs) : okl M (us ++ vs) := fun x hx => (List.mem_append.mp hx).elim (h1 x) (h2 x)
/-- a heap shows the memory M: ρ says where each id lies; all of it from sz0 on -/
def Rel (D : va_G) (cK : Nat → ClassId) (sz0 : Nat) (ρ : Nat → Nat) (M : A_M) (H : Heap) : Prop :=
  (∃ ws : va_W, va_P D vwCl ws H ∧ va_D (fun q => sz0 ≤ q) ws ∧ ∀ k c, M k = some c → ∃ q : Nat, ws[q]? = some (ρ k, rc cK ρ c)) ∧
  (∀ j k, M j ≠ none → M k ≠ none → ρ j = ρ k → j = k) ∧ (∀ k c, M k = some c → okc M c) ∧ sz0 ≤ H.size
/-- what the tables say, of the state -/
def KK (D : va_G) (cK : Nat → ClassId) (U : State) : Prop := va_K D vwCl (tysK cK) U ∧ (∀ w ∈ lw_nest, va_Nw w U) ∧ va_AO "WordChest$Code" U
theorem KK.warm {D : va_G} {cK : Nat → ClassId} {s U : State} (hW : s.WarmedH U.vm) (h : KK D cK s) : KK D cK U := by
  refine ⟨va_K.moved hW.alike h.1, fun w hw => ?_, h.2.2.moved hW.alike⟩
  obtain ⟨a, i, x, b, rfl⟩ := lw_nest_is hw
  exact va_Nw.warmM hW (h.2.1 _ hw)

theorem KK.moved0 {D : va_G} {cK : Nat → ClassId} {s U : State} (hv : s.vm = U.vm) (h : KK D cK s) : KK D cK U := by
  refine ⟨va_K.moved (by rw [hv]; exact Vm.Alike.refl _) h.1, fun w hw => ?_, h.2.2.moved (by rw [hv]; exact Vm.Alike.refl _)⟩
  obtain ⟨a, i, x, b, rfl⟩ := lw_nest_is hw
  exact (h.2.1 _ hw).same rfl hv
/-- the walk's fixed things: program, launch, env, room, start, method, arguments, frames below, method, code; the tables' numbers; where ids begin; where they lie at the start; the memory at the start; how many cells and slots the method may make -/
abbrev JX : Type := Program × Launch × Env × Room × State × MethodId × Array Value × List Frame × Method × Code × va_G × (Nat → ClassId) × Nat × (Nat → Nat) × A_M × Nat × Nat
section JXs
variable (X : JX)
abbrev xp : Program := X.1
abbrev xl : Launch := X.2.1
abbrev xe : Env := X.2.2.1
abbrev xR : Room := X.2.2.2.1
abbrev xs : State := X.2.2.2.2.1
abbrev xm : MethodId := X.2.2.2.2.2.1
abbrev xargs : Array Value := X.2.2.2.2.2.2.1
abbrev xbelow : List Frame := X.2.2.2.2.2.2.2.1
abbrev xmeth : Method := X.2.2.2.2.2.2.2.2.1
abbrev xc : Code := X.2.2.2.2.2.2.2.2.2.1
abbrev xD : va_G := X.2.2.2.2.2.2.2.2.2.2.1
abbrev xcK : Nat → ClassId := X.2.2.2.2.2.2.2.2.2.2.2.1
abbrev xsz : Nat := X.2.2.2.2.2.2.2.2.2.2.2.2.1
abbrev xρ : Nat → Nat := X.2.2.2.2.2.2.2.2.2.2.2.2.2.1
abbrev xM : A_M := X.2.2.2.2.2.2.2.2.2.2.2.2.2.2.1
abbrev xMC : Nat := X.2.2.2.2.2.2.2.2.2.2.2.2.2.2.2.1
abbrev xMS : Nat := X.2.2.2.2.2.2.2.2.2.2.2.2.2.2.2.2
end JXs
/-- a method's end: its answer r (ids in it), the memory M' -/
def Qr (D : va_G) (cK : Nat → ClassId) (sz0 : Nat) (ρ0 : Nat → Nat) (M0 : A_M) (r : Option Value) (M' : A_M) : Array Value → State → Outcome → State → Prop := fun _ st oc t =>
  (∃ ρ : Nat → Nat, (∀ k, M0 k ≠ none → ρ k = ρ0 k) ∧ (∀ k, M0 k ≠ none → M' k ≠ none) ∧ oc = .returned (r.map (rv ρ)) ∧ KK D cK t ∧ Rel D cK sz0 ρ M' t.heap ∧ okl M' r.toList) ∧ va_F (fun q => sz0 ≤ q) st t
/-- what is known throughout a walk: of class own, code cc, nL locals, type of answer, frames and words of locals that are left at least -/
def Cx (X : JX) (cc : ByteArray) (own : String) (nL : Nat) (ret : Option FieldType) (F Lo : Nat) : Prop :=
  (xp X).tables.exec = Jvm.exec ∧ (xc X).code = cc ∧ (xmeth X).sig.returnType = ret ∧ (xc X).maxLocals = nL ∧ (xs X).vm.findClass own = some (xm X).cls ∧ (∀ w ∈ lw_all, w.before (xargs X) (xs X) = true) ∧ (xmeth X).locks = false ∧ KK (xD X) (xcK X) (xs X) ∧ F ≤ (xR X).frames ∧ Lo ≤ (xR X).locals ∧ (xR X).cells = xMC X ∧ (xR X).slots = xMS X ∧ xsz X ≤ (xs X).heap.size
/-- the walk's judgement: from pc, with these locals and this stack, in the memory M, with cs cells of sl slots made so far, the method comes to its end with the answer r in the memory M' -/
def J (X : JX) (nL pc : Nat) (lv : List (Nat × Value)) (st : List Value) (M : A_M) (cs sl : Nat) (r : Option Value) (M' : A_M) : Prop :=
  ∀ (ρ : Nat → Nat) (H : Heap) (locs : List Loc) (LS : Array Slot), (∀ k, xM X k ≠ none → ρ k = xρ X k) → (∀ k, xM X k ≠ none → M k ≠ none) → Rel (xD X) (xcK X) (xsz X) ρ M H → va_S (fun q => xsz X ≤ q) (xs X).heap H locs →
    lv_has LS nL (lv.map (fun q => (q.1, rv ρ q.2))) → okl M (lv.map (fun q => q.2)) → okl M st →
    W (xp X) (xl X) (xe X) (xR X) (xs X) (xm X) (xargs X) (xbelow X) (xmeth X) (xc X) H locs cs sl (MQ (xbelow X) (Qr (xD X) (xcK X) (xsz X) (xρ X) (xM X) r M') (xargs X) (xs X) (xMC X) (xMS X) (fun q => xsz X ≤ q)) (F0 (xm X) pc LS (st.map (rv ρ)))
/-- a method's contract: called with these arguments in the memory M it answers r, and leaves the memory M' -/
def Runs (y : MethodName) (bc : ByteArray) (maxL : Nat) (ret : Option FieldType) (F Lo mc ms : Nat) (as : List Value) (M : A_M) (r : Option Value) (M' : A_M) : Prop :=
  ∀ (l : Launch) (D : va_G) (cK : Nat → ClassId) (sz0 : Nat) (ρ : Nat → Nat) (rm : Room), F ≤ rm.frames → Lo ≤ rm.locals → rm.cells = mc → rm.slots = ms →
    Met l y (.code y bc maxL ret :: lw_all) rm (va_Pc (as.map (rv ρ)) (fun U => KK D cK U ∧ Rel D cK sz0 ρ M U.heap ∧ okl M as)) (Qr D cK sz0 ρ M r M') mc ms (fun q => sz0 ≤ q)
theorem rv_cat (ρ : Nat → Nat) (v : Value) : (rv ρ v).category = v.category := by cases v <;> rfl
theorem lgsl_len (ρ : Nat → Nat) (as : List Value) : (lg_sl (as.map (rv ρ))).length = (lg_sl as).length := by
  induction as with
  | nil => rfl
  | cons a t ih =>
    simp only [lg_sl, List.map_cons, List.flatMap_cons, List.length_append] at ih ⊢
    rw [ih, rv_cat]
    by_cases h : a.category = 2
    · rw [if_pos h, if_pos h]; rfl
    · rw [if_neg h, if_neg h]; rfl
theorem lvargs_map (ρ : Nat → Nat) (as : List Value) : ∀ i, lv_args i (as.map (rv ρ)) = (lv_args i as).map (fun q => (q.1, rv ρ q.2)) := by
  induction as with
  | nil => intro i; rfl
  | cons a t ih =>
    intro i
    simp only [List.map_cons, lv_args, rv_cat, ih]
theorem lvargs_snd (as : List Value) : ∀ i, (lv_args i as).map (fun q => q.2) = as := by
  induction as with
  | nil => intro i; rfl
  | cons a t ih =>
    intro i
    simp only [List.map_cons, lv_args, ih]
theorem Runs.intro {y : MethodName} {bc : ByteArray} {maxL : Nat} {ret : Option FieldType} {F Lo mc ms : Nat} {as : List Value} {M M' : A_M} {r : Option Value} (hy : plainName y.cls = true) (hn : (lg_sl as).length ≤ maxL)
    (h : ∀ X : JX, Cx X bc y.cls maxL ret F Lo → ((xmeth X).name = y.name) → xMC X = mc → xMS X = ms → J X maxL 0 (lv_args 0 as) [] M 0 0 r M') : Runs y bc maxL ret F Lo mc ms as M r M' := by
  intro l D cK sz0 ρ rm hF hLo hmc hms
  refine Met.ofW (cc := bc) (maxL := maxL) (ret := ret) hy rfl ?_
  intro p e s m args below meth c s₁ B hml hv
  obtain ⟨rfl, hK, hR, ho⟩ := hv
  have hts := atoms_spec (ws := .code y bc maxL ret :: lw_all) B.pre
  have hX := h (p, l, e, rm, s, m, (as.map (rv ρ)).toArray, below, meth, c, D, cK, sz0, ρ, M, mc, ms) ⟨B.exec, B.bytes, B.returns, hml, findClass_of_methodNamed B.named, fun w hw => hts w (List.mem_cons_of_mem _ hw), B.notSynchronized, hK, hF, hLo, hmc, hms, hR.2.2.2⟩ (name_of_methodNamed B.named B.method).1 rfl rfl
  have hl := lv_entry (as.map (rv ρ)) (n := maxL) (by rw [lgsl_len]; exact hn)
  rw [lg_entry_eq]
  rw [lvargs_map] at hl
  exact hX ρ s.heap [] _ (fun _ _ => rfl) (fun _ h => h) hR va_S.rf hl (by rw [lvargs_snd]; exact ho) (fun _ h => absurd h List.not_mem_nil)
