/-! OPEN ROWS: the class's sorted ones -/
abbrev Ent : Type := Nat × Nat × Nat
def ky (e : Ent) : Nat := e.2.2 * 4 ^ 24 + e.1
def ib (x : Ent) : List Ent → List Ent → List Ent
  | [], suf => x :: suf
  | y :: rp, suf => if ky x < ky y then ib x rp (y :: suf) else (y :: rp).reverse ++ x :: suf
/-- an entry put into sorted ones -/
def insS (x : Ent) (S : List Ent) : List Ent := ib x S.reverse []
def SrtK (S : List Ent) : Prop := S.Pairwise (fun a b => ky a < ky b)
theorem ib_perm (x : Ent) : ∀ (rp suf : List Ent), (ib x rp suf).Perm (x :: (rp.reverse ++ suf)) := by
  intro rp
  induction rp with
  | nil => intro suf; exact List.Perm.refl _
  | cons y rp ih =>
    intro suf
    rw [ib]
    by_cases h : ky x < ky y
    · rw [if_pos h]
      have := ih (y :: suf)
      rw [List.reverse_cons, List.append_assoc]
      exact this
    · rw [if_neg h]
      exact List.perm_middle
theorem insS_perm (x : Ent) (S : List Ent) : (insS x S).Perm (x :: S) := by
  have := ib_perm x S.reverse []
  rw [List.reverse_reverse, List.append_nil] at this
  exact this
theorem ib_sort {x : Ent} : ∀ (rp suf : List Ent), SrtK (rp.reverse ++ suf) → (∀ z, z ∈ suf → ky x < ky z) → (∀ z, z ∈ rp → ky z ≠ ky x) → SrtK (ib x rp suf) := by
  intro rp
  induction rp with
  | nil =>
    intro suf h1 h2 h3
    exact List.pairwise_cons.mpr ⟨h2, h1⟩
  | cons y rp ih =>
    intro suf h1 h2 h3
    rw [ib]
    rw [List.reverse_cons, List.append_assoc] at h1
    by_cases h : ky x < ky y
    · rw [if_pos h]
      refine ih (y :: suf) h1 (fun z hz => ?_) (fun z hz => h3 z (List.mem_cons_of_mem _ hz))
      rcases List.mem_cons.mp hz with rfl | hz
      · exact h
      · exact h2 z hz
    · rw [if_neg h, List.reverse_cons]
      have hyx : ky y < ky x := by have := h3 y List.mem_cons_self; omega
      unfold SrtK at h1 ⊢
      rw [List.pairwise_append] at h1
      obtain ⟨a1, a2, a3⟩ := h1
      have a2' := List.pairwise_cons.mp a2
      rw [List.append_assoc, List.pairwise_append]
      refine ⟨a1, ?_, fun p hp q hq => ?_⟩
      · refine List.pairwise_cons.mpr ⟨fun q hq => ?_, List.pairwise_cons.mpr ⟨h2, a2'.2⟩⟩
        rcases List.mem_cons.mp hq with rfl | hq
        · exact hyx
        · exact a2'.1 q hq
      · rcases List.mem_cons.mp hq with rfl | hq
        · exact a3 p hp q List.mem_cons_self
        · rcases List.mem_cons.mp hq with rfl | hq
          · have := a3 p hp y List.mem_cons_self
            omega
          · exact a3 p hp q (List.mem_cons_of_mem _ hq)
theorem insS_sort {x : Ent} {S : List Ent} (h : SrtK S) (hx : ∀ z, z ∈ S → ky z ≠ ky x) : SrtK (insS x S) := by
  refine ib_sort S.reverse [] (by rw [List.reverse_reverse, List.append_nil]; exact h) (fun z hz => (by cases hz)) (fun z hz => hx z (List.mem_reverse.mp hz))
theorem insS_len (x : Ent) (S : List Ent) : (insS x S).length = S.length + 1 := (insS_perm x S).length_eq
def opL (fl : Nat → Bool) (o : Nat) : Prop := lay fl o = some (.inr (3, [o + 2, o + 3, o + 4, 0, 0])) ∧ lay fl (o + 1) = some (.inl (1, 97)) ∧ lay fl (o + 2) = some (.inl (0, 97)) ∧ lay fl (o + 3) = some (.inl (0, 97)) ∧ o + 4 < 1000
def OpC (A : Nat → Nat → Int32) (B : Nat → Nat → Int64) (o k : Nat) (x : Ent) : Prop := B (o + 1) k = lN x.1 ∧ A (o + 2) k = nI x.2.1 ∧ A (o + 3) k = nI x.2.2
def OpS (A : Nat → Nat → Int32) (B : Nat → Nat → Int64) (G : Nat → Nat → Int32) (o f : Nat) (S : List Ent) : Prop := G o 3 = nI f ∧ G o 4 = nI (f + S.length) ∧ ∀ k x, S[k]? = some x → OpC A B o (f + k) x
/-- small entries -/
def EnS (x : Ent) : Prop := x.1 < 4 ^ 24 ∧ x.2.1 ≤ 24 ∧ x.2.2 ≤ 1000
theorem ky_lt {x y : Ent} (hx : EnS x) (hy : EnS y) : ky x < ky y ↔ x.2.2 < y.2.2 ∨ (y.2.2 = x.2.2 ∧ x.1 < y.1) := by
  obtain ⟨a, b, c⟩ := x
  obtain ⟨a', b', c'⟩ := y
  have h1 : a < 4 ^ 24 := hx.1
  have h2 : a' < 4 ^ 24 := hy.1
  show c * 4 ^ 24 + a < c' * 4 ^ 24 + a' ↔ c < c' ∨ (c' = c ∧ a < a')
  generalize (4 : Nat) ^ 24 = W at h1 h2
  constructor
  · intro h
    by_cases h3 : c < c'
    · exact Or.inl h3
    · by_cases h4 : c = c'
      · subst h4; exact Or.inr ⟨rfl, by omega⟩
      · exfalso
        have h5 : (c' + 1) * W ≤ c * W := Nat.mul_le_mul_right _ (by omega)
        rw [Nat.add_mul] at h5
        omega
  · rintro (h | ⟨rfl, h⟩)
    · have h5 : (c + 1) * W ≤ c' * W := Nat.mul_le_mul_right _ h
      rw [Nat.add_mul] at h5
      omega
    · omega
section Op
variable {fl : Nat → Bool} {N o f : Nat}
theorem op_r {A : Nat → Nat → Int32} {B : Nat → Nat → Int64} {G : Nat → Nat → Int32} (h : opL fl o) : gR (mem A B G fl) o 3 0 = some (o + 1) ∧ gR (mem A B G fl) o 3 1 = some (o + 2) ∧ gR (mem A B G fl) o 3 2 = some (o + 3) ∧ gI (mem A B G fl) o 3 3 = some (G o 3) ∧ gI (mem A B G fl) o 3 4 = some (G o 4) ∧ chk (mem A B G fl) o 3 = some () := by
  have h5 := h.2.2.2.2
  exact ⟨gR_mem h.1 (by omega) rfl, gR_mem h.1 (by omega) rfl, gR_mem h.1 (by omega) rfl, gI_mem h.1 rfl, gI_mem h.1 rfl, chk_mem h.1⟩
theorem op_p {A : Nat → Nat → Int32} {B : Nat → Nat → Int64} {G : Nat → Nat → Int32} (h : opL fl o) (v : Int32) : pV (mem A B G fl) o 3 3 (.int v) = some (mem A B (upA G o (upd (G o) 3 v)) fl) ∧ pV (mem A B G fl) o 3 4 (.int v) = some (mem A B (upA G o (upd (G o) 4 v)) fl) := ⟨pI_mem h.1 rfl v, pI_mem h.1 rfl v⟩
/-- what OPEN ROWS leave alone -/
def FrP2 (o : Nat) (A A' : Nat → Nat → Int32) (B B' : Nat → Nat → Int64) (G G' : Nat → Nat → Int32) : Prop := (∀ k, k ≠ o + 2 → k ≠ o + 3 → A' k = A k) ∧ (∀ k, k ≠ o + 1 → B' k = B k) ∧ (∀ k, k ≠ o → G' k = G k)
theorem FrP2.refl (o : Nat) (A : Nat → Nat → Int32) (B : Nat → Nat → Int64) (G : Nat → Nat → Int32) : FrP2 o A A B B G G := ⟨fun _ _ _ => rfl, fun _ _ => rfl, fun _ _ => rfl⟩
theorem FrP2.trans {A A' A2 : Nat → Nat → Int32} {B B' B2 : Nat → Nat → Int64} {G G' G2 : Nat → Nat → Int32} (h : FrP2 o A A' B B' G G') (k : FrP2 o A' A2 B' B2 G' G2) : FrP2 o A A2 B B2 G G2 := ⟨fun x a b => (k.1 x a b).trans (h.1 x a b), fun x a => (k.2.1 x a).trans (h.2.1 x a), fun x a => (k.2.2 x a).trans (h.2.2 x a)⟩
theorem s_isBehind {A : Nat → Nat → Int32} {B : Nat → Nat → Int64} {G : Nat → Nat → Int32} (hp : opL fl o) {k : Nat} (hk : k < 97) {x y : Ent} (hx : EnS x) (hy : EnS y) (hc : OpC A B o k y) : f_X3_isBehind N o (nI k) (lN x.1) (nI x.2.2) (mem A B G fl) = some (bz (ky x < ky y), mem A B G fl) := by
  obtain ⟨c1, c2, c3⟩ := hc
  have r1 := r48 hx.1
  have r2 := r48 hy.1
  have l1 := hx.2.2
  have l2 := hy.2.2
  unfold f_X3_isBehind
  rw [(op_r hp).2.2.1, sb, ldI_n hp.2.2.2.1 hk (by decide), sb, c3]
  have hlt := ky_lt hx hy
  by_cases h1 : x.2.2 < y.2.2
  · rw [if_pos (nI_lt h1 (by omega)), show bz (ky x < ky y) = 1 from if_pos (hlt.mpr (Or.inl h1))]
  · rw [if_neg (nI_nlt (by omega) (by omega)), sb, ldI_n hp.2.2.2.1 hk (by decide), sb, c3]
    by_cases h2 : y.2.2 = x.2.2
    · rw [if_pos (by rw [h2]), (op_r hp).1, sb, ldJ_n hp.2.1 hk (by decide), sb, c1]
      by_cases h3 : x.1 < y.1
      · rw [if_neg (Int32.not_le.mpr ((lgG _ _).mpr (by rw [pk_lT (by omega), pk_lT (by omega)]; omega))), show bz (ky x < ky y) = 1 from if_pos (hlt.mpr (Or.inr ⟨h2, h3⟩))]
      · rw [if_pos (Int32.not_lt.mp (fun q => h3 (by have := (lgG _ _).mp q; rw [pk_lT (by omega), pk_lT (by omega)] at this; omega))), show bz (ky x < ky y) = 0 from bz0 (fun q => by rcases hlt.mp q with q | ⟨_, q⟩ <;> omega)]
    · rw [if_neg (fun q => h2 ((nI_eq (by omega) (by omega)).mp q)), show bz (ky x < ky y) = 0 from bz0 (fun q => by rcases hlt.mp q with q | ⟨q, _⟩ <;> omega)]
/-- the last act of putting in -/
theorem s_ins93 {A : Nat → Nat → Int32} {B : Nat → Nat → Int64} {G : Nat → Nat → Int32} (hp : opL fl o) {k e : Nat} (hk : k < 97) (x : Ent) (hG : G o 4 = nI e) :
    ∃ A' B' G', f_X3_insert_K93 N o (lN x.1) (nI x.2.1) (nI x.2.2) (nI k) (mem A B G fl) = some (mem A' B' G' fl) ∧ FrP2 o A A' B B' G G' ∧ G' o 3 = G o 3 ∧ G' o 4 = nI (e + 1) ∧ OpC A' B' o k x ∧ (∀ j y, j ≠ k → OpC A B o j y → OpC A' B' o j y) := by
  refine ⟨upA (upA A (o + 2) (upd (A (o + 2)) k (nI x.2.1))) (o + 3) (upd (A (o + 3)) k (nI x.2.2)), upA B (o + 1) (vp_updL (B (o + 1)) k (lN x.1)), upA G o (upd (G o) 4 (nI (e + 1))), ?_, ⟨fun i h1 h2 => by rw [upA_ne _ _ _ h2, upA_ne _ _ _ h1], fun i h => upA_ne _ _ _ h, fun i h => upA_ne _ _ _ h⟩, ?_, ?_, ⟨?_, ?_, ?_⟩, fun j y hj hy => ⟨?_, ?_, ?_⟩⟩
  · unfold f_X3_insert_K93
    rw [(op_r hp).1, sb, stJ_n hp.2.1 hk (by decide), sb, (op_r hp).2.1, sb, stI_n hp.2.2.1 hk (by decide), sb, (op_r hp).2.2.1, sb, stI_n hp.2.2.2.1 hk (by decide), sb, (op_r hp).2.2.2.2.1, sb, hG, nI_1, (op_p hp _).2, sb, upA_ne _ _ _ (show o + 3 ≠ o + 2 by omega)]
  · rw [upA_same, upd_ne _ _ _ (by omega)]
  · rw [upA_same, upd_eq]
  · rw [upA_same, vpL_eq]
  · rw [upA_ne _ _ _ (show o + 2 ≠ o + 3 by omega), upA_same, upd_eq]
  · rw [upA_same, upd_eq]
  · rw [upA_same, vpL_ne _ _ _ hj]; exact hy.1
  · rw [upA_ne _ _ _ (show o + 2 ≠ o + 3 by omega), upA_same, upd_ne _ _ _ hj]; exact hy.2.1
  · rw [upA_same, upd_ne _ _ _ hj]; exact hy.2.2
theorem s_insL (hp : opL fl o) {x : Ent} (hx : EnS x) : ∀ (rp suf : List Ent) (m : Nat) (A : Nat → Nat → Int32) (B : Nat → Nat → Int64) (G : Nat → Nat → Int32), rp.length < m → f + rp.length + suf.length < 97 → (∀ y, y ∈ rp → EnS y) → G o 3 = nI f → G o 4 = nI (f + rp.length + suf.length) → (∀ k y, rp.reverse[k]? = some y → OpC A B o (f + k) y) → (∀ k y, suf[k]? = some y → OpC A B o (f + rp.length + 1 + k) y) →
    ∃ A' B' G', f_X3_insert_L16 N m o (lN x.1) (nI x.2.1) (nI x.2.2) (nI (f + rp.length)) (mem A B G fl) = some (mem A' B' G' fl) ∧ FrP2 o A A' B B' G G' ∧ OpS A' B' G' o f (ib x rp suf) := by
  intro rp
  induction rp with
  | nil =>
    intro suf m A B G hm h97 hE h3 h4 hR hSf
    obtain ⟨m, rfl⟩ : ∃ j, m = j + 1 := ⟨m - 1, by have : ([] : List Ent).length = 0 := rfl; omega⟩
    have h0 : ([] : List Ent).length = 0 := rfl
    rw [h0, Nat.add_zero] at h4 h97 hSf ⊢
    obtain ⟨A', B', G', e1, e2, e3, e4, e5, e6⟩ := s_ins93 (A := A) (B := B) (G := G) (N := N) hp (show f < 97 by omega) x h4
    refine ⟨A', B', G', ?_, e2, e3.trans h3, ?_, fun k y hy => ?_⟩
    · show f_X3_insert_L16 N (m + 1) o (lN x.1) (nI x.2.1) (nI x.2.2) (nI f) (mem A B G fl) = _
      rw [f_X3_insert_L16, (op_r hp).2.2.2.1, sb, h3, if_pos (nI_le (Nat.le_refl _) (by omega)), e1]
    · rw [e4]; rfl
    · cases k with
      | zero =>
        obtain rfl := Option.some.inj hy
        exact e5
      | succ k =>
        have hy : suf[k]? = some y := hy
        have := e6 (f + 1 + k) y (by omega) (hSf k y hy)
        rw [show f + (k + 1) = f + 1 + k by omega]
        exact this
  | cons y rp ih =>
    intro suf m A B G hm h97 hE h3 h4 hR hSf
    have hc : (y :: rp).length = rp.length + 1 := rfl
    rw [hc] at hm h97 h4 hSf ⊢
    obtain ⟨m, rfl⟩ : ∃ j, m = j + 1 := ⟨m - 1, by omega⟩
    have hy := hE y List.mem_cons_self
    have hcy : OpC A B o (f + rp.length) y := hR rp.length y (by
      rw [List.reverse_cons, List.getElem?_append_right (by rw [List.length_reverse]; exact Nat.le_refl _), List.length_reverse, Nat.sub_self]
      rfl)
    have e0 : nI (f + (rp.length + 1)) - 1 = nI (f + rp.length) := by rw [show (1 : Int32) = nI 1 from rfl, pk_sub (by omega), show f + (rp.length + 1) - 1 = f + rp.length by omega]
    rw [f_X3_insert_L16, (op_r hp).2.2.2.1, sb, h3, if_neg (nI_ge (by omega) (by omega)), (op_r hp).2.2.2.2.2, sb, e0, s_isBehind hp (by omega) hx hy hcy, b2s, ib]
    by_cases h : ky x < ky y
    · rw [if_neg (bz1 h), if_pos h]
      generalize hB1 : upA B (o + 1) (vp_updL (B (o + 1)) (f + (rp.length + 1)) (lN y.1)) = B1
      generalize hA1 : upA (upA A (o + 2) (upd (A (o + 2)) (f + (rp.length + 1)) (nI y.2.1))) (o + 3) (upd (A (o + 3)) (f + (rp.length + 1)) (nI y.2.2)) = A1
      have b0 : ∀ k, k ≠ o + 1 → B1 k = B k := fun k hk => by rw [← hB1, upA_ne _ _ _ hk]
      have a0 : ∀ k, k ≠ o + 2 → k ≠ o + 3 → A1 k = A k := fun k h1 h2 => by rw [← hA1, upA_ne _ _ _ h2, upA_ne _ _ _ h1]
      have cO : ∀ j z, j ≠ f + (rp.length + 1) → OpC A B o j z → OpC A1 B1 o j z := fun j z hj hz => by
        refine ⟨?_, ?_, ?_⟩
        · rw [← hB1, upA_same, vpL_ne _ _ _ hj]; exact hz.1
        · rw [← hA1, upA_ne _ _ _ (show o + 2 ≠ o + 3 by omega), upA_same, upd_ne _ _ _ hj]; exact hz.2.1
        · rw [← hA1, upA_same, upd_ne _ _ _ hj]; exact hz.2.2
      have cN : OpC A1 B1 o (f + (rp.length + 1)) y := by
        refine ⟨?_, ?_, ?_⟩
        · rw [← hB1, upA_same, vpL_eq]
        · rw [← hA1, upA_ne _ _ _ (show o + 2 ≠ o + 3 by omega), upA_same, upd_eq]
        · rw [← hA1, upA_same, upd_eq]
      have hcs : (y :: suf).length = suf.length + 1 := rfl
      obtain ⟨A', B', G', g1, g2, g3⟩ := ih (y :: suf) m A1 B1 G (by omega) (by omega) (fun z hz => hE z (List.mem_cons_of_mem _ hz)) h3 (by rw [h4, hcs]; congr 1; omega) (fun k z hz => by
        have hkl : k < rp.length := by have := (List.getElem?_eq_some_iff.mp hz).1; rw [List.length_reverse] at this; exact this
        refine cO _ _ (by omega) (hR k z ?_)
        rw [List.reverse_cons, List.getElem?_append_left (by rw [List.length_reverse]; exact hkl)]
        exact hz) (fun k z hz => by
        cases k with
        | zero =>
          obtain rfl := Option.some.inj hz
          exact cN
        | succ k =>
          have hz : suf[k]? = some z := hz
          have := cO _ _ (by omega) (hSf k z hz)
          rw [show f + rp.length + 1 + (k + 1) = f + (rp.length + 1) + 1 + k by omega]
          exact this)
      refine ⟨A', B', G', ?_, FrP2.trans ⟨a0, b0, fun _ _ => rfl⟩ g2, g3⟩
      rw [(op_r hp).1, sb, sb, ldJ_n hp.2.1 (by omega) (by decide), sb, hcy.1, stJ_n hp.2.1 (by omega) (by decide), sb, hB1, (op_r hp).2.1, sb, sb, ldI_n hp.2.2.1 (by omega) (by decide), sb, hcy.2.1, stI_n hp.2.2.1 (by omega) (by decide), sb, (op_r hp).2.2.1, sb, sb, ldI_n hp.2.2.2.1 (by omega) (by decide), sb, upA_ne _ _ _ (show o + 3 ≠ o + 2 by omega), hcy.2.2, stI_n hp.2.2.2.1 (by omega) (by decide), sb, upA_ne _ _ _ (show o + 3 ≠ o + 2 by omega), hA1, show f + (rp.length + 1) = f + rp.length + 1 by omega, pk_m1, g1]
    · rw [if_pos (bz0 h), if_neg h]
      obtain ⟨A', B', G', e1, e2, e3, e4, e5, e6⟩ := s_ins93 (A := A) (B := B) (G := G) (N := N) hp (show f + (rp.length + 1) < 97 by omega) x h4
      refine ⟨A', B', G', e1, e2, e3.trans h3, ?_, fun k z hz => ?_⟩
      · rw [e4, List.length_append, List.length_reverse]
        show _ = nI (f + (rp.length + 1 + (suf.length + 1)))
        congr 1
        omega
      · by_cases hk : k < rp.length + 1
        · rw [List.getElem?_append_left (by rw [List.length_reverse]; exact hk)] at hz
          exact e6 _ _ (by omega) (hR k z hz)
        · rw [List.getElem?_append_right (by rw [List.length_reverse]; show rp.length + 1 ≤ k; omega), List.length_reverse] at hz
          have hz : (x :: suf)[k - (rp.length + 1)]? = some z := hz
          cases hq : k - (rp.length + 1) with
          | zero =>
            rw [hq] at hz
            obtain rfl := Option.some.inj hz
            rw [show k = rp.length + 1 by omega]
            exact e5
          | succ q =>
            rw [hq] at hz
            have hz : suf[q]? = some z := hz
            have := e6 _ _ (by omega) (hSf q z hz)
            rw [show f + k = f + (rp.length + 1) + 1 + q by omega]
            exact this
theorem s_insert (hp : opL fl o) (hN : 200 < N) {x : Ent} (hx : EnS x) {S : List Ent} {A : Nat → Nat → Int32} {B : Nat → Nat → Int64} {G : Nat → Nat → Int32} (h97 : f + S.length < 97) (hE : ∀ y, y ∈ S → EnS y) (hO : OpS A B G o f S) :
    ∃ A' B' G', f_X3_insert N o (lN x.1) (nI x.2.1) (nI x.2.2) (mem A B G fl) = some (mem A' B' G' fl) ∧ FrP2 o A A' B B' G G' ∧ OpS A' B' G' o f (insS x S) := by
  obtain ⟨h3, h4, h5⟩ := hO
  have h0 : ([] : List Ent).length = 0 := rfl
  obtain ⟨A', B', G', g1, g2, g3⟩ := s_insL (fl := fl) (N := N) (f := f) hp hx S.reverse [] N A B G (by rw [List.length_reverse]; omega) (by rw [List.length_reverse]; omega) (fun y hy => hE y (List.mem_reverse.mp hy)) h3 (by rw [List.length_reverse, h0, Nat.add_zero]; exact h4) (by rw [List.reverse_reverse]; exact h5) (fun k y hy => (by cases hy))
  refine ⟨A', B', G', ?_, g2, g3⟩
  rw [List.length_reverse] at g1
  unfold f_X3_insert
  rw [(op_r hp).2.2.2.2.1, sb, h4, if_pos (show nI (f + S.length) < (97 : Int32) from nI_lt (b := 97) h97 (by omega)), sb, g1]
end Op
