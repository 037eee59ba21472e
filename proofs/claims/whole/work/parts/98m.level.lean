/-! FREE: one level of the reference's laying -/
section Lv
variable {fl : Nat → Bool} {N s t al : Nat} {P : Nat → Nat} {o : Nat → Nat}
/-- what the laying reads -/
def LyM (al : Nat) (P o : Nat → Nat) (s t : Nat) (A : Nat → Nat → Int32) (G : Nat → Nat → Int32) : Prop := G 44 1 = nI s ∧ G 44 14 = nI al ∧ (al = 0 → ∀ u, u < s → A 45 u = nI (P u)) ∧ (al = 1 → ∀ u, u < s → P u = 1) ∧ ∀ j, j < t → A 50 j = nI (o j) ∧ o j < t
theorem LyM.fr {A A' : Nat → Nat → Int32} {G G' : Nat → Nat → Int32} (h : LyM al P o s t A G) (h1 : A' 45 = A 45) (h3 : A' 50 = A 50) (h0 : G' 44 1 = G 44 1) (h2 : G' 44 14 = G 44 14) : LyM al P o s t A' G' := by
  unfold LyM at *
  rw [h1, h3, h0, h2]
  exact h
theorem s_goOnL (hal : al = 0 ∨ al = 1) (hs : s ≤ 4) {p q : Nat} {e : Ent} (he : EnW s e) (hn : e.2.1 ≤ 23) (hl : e.2.2 = p) (hp : p ≤ 300) : ∀ (k u m : Nat) (A : Nat → Nat → Int32) (B : Nat → Nat → Int64) (G : Nat → Nat → Int32) (L : List Ent), u + k = s → k < m → LyM al P o s t A G → OpM A B G L → L.length + k ≤ 400 → L[q]? = some e →
    ∃ A' B' G', f_X7_goOn_L2 N m 44 (nI q) (nI p) (nI u) (mem A B G fl) = some (mem A' B' G' fl) ∧ OpM A' B' G' (L ++ kidL P s e k u) ∧ FrM2 A A' B B' G G' ∧ A' 58 = A 58 := by
  intro k
  induction k with
  | zero =>
    intro u m A B G L hu hm hE hM hL hq
    obtain ⟨m, rfl⟩ : ∃ j, m = j + 1 := ⟨m - 1, by omega⟩
    refine ⟨A, B, G, ?_, ?_, FrM2.refl A B G, rfl⟩
    · rw [f_X7_goOn_L2, gx_44_1, sb, hE.1, if_pos (nI_le (by omega) (by omega))]
    · rw [kidL, List.append_nil]; exact hM
  | succ k ih =>
    intro u m A B G L hu hm hE hM hL hq
    obtain ⟨m, rfl⟩ : ∃ j, m = j + 1 := ⟨m - 1, by omega⟩
    have hql : q < L.length := (List.getElem?_eq_some_iff.mp hq).1
    obtain ⟨r1, r2, r3⟩ := hM.2 q e hq
    obtain ⟨A1, B1, G1, c1', c2, c3, c4, c5⟩ := s_openM (fl := fl) (N := N) (show L.length < 400 by omega) hM (kd P e u)
    have hl1 : (L ++ [kd P e u]).length = L.length + 1 := List.length_append
    obtain ⟨A', B', G', g1, g2, g3, g4⟩ := ih (u + 1) m A1 B1 G1 (L ++ [kd P e u]) (by omega) (by omega) (hE.fr (c3.1 45 (by omega) (by omega) (by omega)) (c3.1 50 (by omega) (by omega) (by omega)) (c3.2.2.2 1 (by omega) (by omega)) (c3.2.2.2 14 (by omega) (by omega))) c2 (by omega) (by rw [List.getElem?_append_left hql]; exact hq)
    refine ⟨A', B', G', ?_, ?_, c3.trans g3, g4.trans c4⟩
    · have hK : f_X7_goOn_K53 N (f_X7_goOn_L2 N m) 44 (nI q) (nI p) (nI u) (nI (P u)) (nI p) (nI (e.2.1 + 1)) (lN (e.1 + u * 4 ^ (23 - e.2.1))) 44 (mem A B G fl) = some (mem A' B' G' fl) := by
        rw [f_X7_goOn_K53, ck_44, sb, nI_add, ← hl]
        rw [show f_X7_open N 44 (lN (e.1 + u * 4 ^ (23 - e.2.1))) (nI (e.2.1 + 1)) (nI (e.2.2 + P u)) (mem A B G fl) = _ from c1', sb, nI_1, hl, g1]
      rw [f_X7_goOn_L2, gx_44_1, sb, hE.1, if_neg (nI_ge (by omega) (by omega)), gx_44_18, sb, ldJ_n (ly55 fl) (by omega) (by decide), sb, r1, gx_44_19, sb, ldI_n (ly56 fl) (by omega) (by decide), sb, r2, s_with (by omega) he.2.2.1 (by omega), b2s, gx_44_19, sb, ldI_n (ly56 fl) (by omega) (by decide), sb, r2, gx_44_14, sb, hE.2.1, show nI e.2.1 + (1 : Int32) = nI (e.2.1 + 1) from nI_1 _]
      rcases hal with h | h
      · rw [h, if_pos (show (nI 0 : Int32) = 0 from rfl), gx_44_0, sb, ldI_n (ly45 fl) (by omega) (by decide), sb, hE.2.2.1 h u (by omega)]
        exact hK
      · rw [hE.2.2.2.1 h u (by omega)] at hK
        rw [h, if_neg (show ¬ (nI 1 : Int32) = 0 by decide)]
        exact hK
    · rw [kidL, if_neg (by omega)]
      rw [List.append_assoc] at g2
      exact g2
theorem s_lay136 (hN : 500 < N) (hal : al = 0 ∨ al = 1) (hs : s ≤ 4) {L0 : List Ent} {b c x p w mo : Nat} (hp : p ≤ 300) (hwm : w + mo ≤ 400) (k24 : Nat → Int32 → Int32 → Int32 → Int32 → Int32 → A_M → Option A_M) : ∀ (U : List Nat) (i n : Nat) (A : Nat → Nat → Int32) (B : Nat → Nat → Int64) (G : Nat → Nat → Int32) (K : List Ent), i + U.length = w + mo → U.length < n → (∀ j y, U[j]? = some y → A 58 (i + j) = nI y) → (∀ y, y ∈ U → y < L0.length ∧ EnW s (eN L0 y) ∧ (eN L0 y).2.1 ≤ 23 ∧ (eN L0 y).2.2 = p) → OpM A B G (L0 ++ K) → L0.length + K.length + 4 * U.length ≤ 400 → LyM al P o s t A G →
    ∃ A' B' G', f_X7_layFree_L136 N k24 n 44 (nI b) (nI c) (nI x) (nI p) (nI w) (nI mo) (nI i) (mem A B G fl) = f_X7_layFree_K165 N k24 44 (nI b) (nI c) (nI x) (nI p) (nI w) (nI mo) (mem A' B' G' fl) ∧ OpM A' B' G' (L0 ++ (K ++ kF P s (U.map (eN L0)))) ∧ FrM2 A A' B B' G G' := by
  intro U
  induction U with
  | nil =>
    intro i n A B G K h hn h58 hU hM hK hLy
    have h0 : ([] : List Nat).length = 0 := rfl
    obtain ⟨n, rfl⟩ : ∃ j, n = j + 1 := ⟨n - 1, by omega⟩
    refine ⟨A, B, G, ?_, ?_, FrM2.refl A B G⟩
    · rw [f_X7_layFree_L136, nI_add, if_pos (nI_le (by omega) (by omega))]
    · rw [List.map_nil, show kF P s [] = [] from rfl, List.append_nil]; exact hM
  | cons q U ih =>
    intro i n A B G K h hn h58 hU hM hK hLy
    have h0 : (q :: U).length = U.length + 1 := rfl
    obtain ⟨n, rfl⟩ : ∃ j, n = j + 1 := ⟨n - 1, by omega⟩
    obtain ⟨u1, u2, u3, u4⟩ := hU q List.mem_cons_self
    have hgq : (L0 ++ K)[q]? = some (eN L0 q) := by rw [List.getElem?_append_left u1]; exact eN_get u1
    have hll : (L0 ++ K).length = L0.length + K.length := List.length_append
    obtain ⟨A1, B1, G1, e1, e2, e3, e4⟩ := s_goOnL (fl := fl) (N := N) (P := P) (o := o) (t := t) (q := q) hal hs u2 u3 u4 hp s 0 N A B G (L0 ++ K) (by omega) (by omega) hLy hM (by omega) hgq
    have hkl := kidL_len3 (P := P) (x := s) (e := eN L0 q) s 0 (by omega)
    obtain ⟨A2, B2, G2, g1, g2, g3⟩ := ih (i + 1) n A1 B1 G1 (K ++ kidL P s (eN L0 q) s 0) (by omega) (by omega) (fun j y hy => by
      rw [e4, show i + 1 + j = i + (j + 1) by omega]
      exact h58 (j + 1) y hy) (fun y hy => hU y (List.mem_cons_of_mem _ hy)) (by rw [← List.append_assoc]; exact e2) (by rw [List.length_append]; omega) (hLy.fr (e3.1 45 (by omega) (by omega) (by omega)) (e3.1 50 (by omega) (by omega) (by omega)) (e3.2.2.2 1 (by omega) (by omega)) (e3.2.2.2 14 (by omega) (by omega)))
    have h58q : A 58 i = nI q := h58 0 q rfl
    refine ⟨A2, B2, G2, ?_, ?_, e3.trans g3⟩
    · rw [f_X7_layFree_L136, nI_add, if_neg (nI_ge (by omega) (by omega)), gx_44_22, sb, ldI_n (ly58 fl) (by omega) (by decide), sb, h58q, ck_44, sb, f_X7_goOn, show (0 : Int32) = nI 0 from rfl, e1, sb, nI_1, g1]
    · rw [List.map_cons, kF_cons]
      rw [List.append_assoc] at g2
      exact g2
theorem s_lay65 (ht : t ≤ 24) {L0 : List Ent} (hL0 : L0.length ≤ 400) {T : List Nat} {b c x p w mo : Nat} (hxw : x + w ≤ t) (hwT : w ≤ T.length) (hTL : T.length ≤ 400) (hT : ∀ y, y ∈ T → y < L0.length) (hinj : ∀ j1 j2, j1 < j2 → j2 < t → o j1 ≠ o j2) {G : Nat → Nat → Int32} (k24 : Nat → Int32 → Int32 → Int32 → Int32 → Int32 → A_M → Option A_M) : ∀ (d i n : Nat) (A : Nat → Nat → Int32) (B : Nat → Nat → Int64), i + d = w → d < n → OpM A B G L0 → LyM al P o s t A G → (∀ j y, T[j]? = some y → A 58 j = nI y) →
    ∃ A' B', f_X7_layFree_L65 N k24 n 44 (nI b) (nI c) (nI x) (nI p) (nI w) (nI mo) (nI i) (mem A B G fl) = f_X7_layFree_K132 N k24 44 (nI b) (nI c) (nI x) (nI p) (nI w) (nI mo) (mem A' B' G fl) ∧ (∀ k, k ≠ 48 → A' k = A k) ∧ (∀ k, k ≠ 47 → B' k = B k) ∧ (∀ j, i ≤ j → j < w → B' 47 (o (x + j)) = lN ((T.map (eN L0)).getD j (0, 0, 0)).1 ∧ A' 48 (o (x + j)) = nI ((T.map (eN L0)).getD j (0, 0, 0)).2.1) ∧ (∀ y, (∀ j, x + i ≤ j → j < x + w → o j ≠ y) → B' 47 y = B 47 y ∧ A' 48 y = A 48 y) := by
  intro d
  induction d with
  | zero =>
    intro i n A B h hn hM hLy h58
    obtain ⟨n, rfl⟩ : ∃ j, n = j + 1 := ⟨n - 1, by omega⟩
    refine ⟨A, B, ?_, fun _ _ => rfl, fun _ _ => rfl, fun j q1 q2 => by omega, fun y _ => ⟨rfl, rfl⟩⟩
    rw [f_X7_layFree_L65, if_pos (nI_le (by omega) (by omega))]
  | succ d ih =>
    intro i n A B h hn hM hLy h58
    obtain ⟨n, rfl⟩ : ∃ j, n = j + 1 := ⟨n - 1, by omega⟩
    have hiT : i < T.length := by omega
    have hq : T[i]? = some T[i] := List.getElem?_eq_getElem hiT
    have hqL := hT T[i] (List.getElem_mem hiT)
    have h58i := h58 i _ hq
    have hgd : (T.map (eN L0)).getD i (0, 0, 0) = eN L0 T[i] := by
      rw [List.getD_eq_getElem?_getD, List.getElem?_map, hq]
      rfl
    generalize T[i] = q at hq hqL h58i hgd
    obtain ⟨r1, r2, r3⟩ := hM.2 q (eN L0 q) (eN_get hqL)
    obtain ⟨o1, o2⟩ := hLy.2.2.2.2 (x + i) (by omega)
    generalize hA1 : upA A 48 (upd (A 48) (o (x + i)) (nI (eN L0 q).2.1)) = A1
    generalize hB1 : upA B 47 (vp_updL (B 47) (o (x + i)) (lN (eN L0 q).1)) = B1
    have a0 : ∀ k, k ≠ 48 → A1 k = A k := fun k hk => by rw [← hA1, upA_ne _ _ _ hk]
    have b0 : ∀ k, k ≠ 47 → B1 k = B k := fun k hk => by rw [← hB1, upA_ne _ _ _ hk]
    have a48 : A1 48 = upd (A 48) (o (x + i)) (nI (eN L0 q).2.1) := by rw [← hA1, upA_same]
    have b47 : B1 47 = vp_updL (B 47) (o (x + i)) (lN (eN L0 q).1) := by rw [← hB1, upA_same]
    obtain ⟨A2, B2, g1, g2, g3, g4, g5⟩ := ih (i + 1) n A1 B1 (by omega) (by omega) ⟨hM.1, fun k z hz => by rw [a0 56 (by omega), a0 57 (by omega), b0 55 (by omega)]; exact hM.2 k z hz⟩ (hLy.fr (a0 45 (by omega)) (a0 50 (by omega)) rfl rfl) (fun j y hy => by rw [a0 58 (by omega)]; exact h58 j y hy)
    refine ⟨A2, B2, ?_, fun k hk => by rw [g2 k hk, a0 k hk], fun k hk => by rw [g3 k hk, b0 k hk], fun j q1 q2 => ?_, fun y hy => ?_⟩
    · rw [f_X7_layFree_L65, if_neg (nI_ge (by omega) (by omega)), gx_44_7, sb, gx_44_10, sb, nI_add, ldI_n (ly50 fl) (by omega) (by decide), sb, o1, gx_44_18, sb, gx_44_22, sb, ldI_n (ly58 fl) (by omega) (by decide), sb, h58i, ldJ_n (ly55 fl) (by omega) (by decide), sb, r1, stJ_n (ly47 fl) (by omega) (by decide), sb, hB1, gx_44_8, sb, gx_44_10, sb, ldI_n (ly50 fl) (by omega) (by decide), sb, o1, gx_44_19, sb, gx_44_22, sb, ldI_n (ly58 fl) (by omega) (by decide), sb, h58i, ldI_n (ly56 fl) (by omega) (by decide), sb, r2, stI_n (ly48 fl) (by omega) (by decide), sb, hA1, nI_1, g1]
    · rcases Nat.lt_or_ge i j with r | r
      · exact g4 j (by omega) q2
      · have hji : j = i := by omega
        subst hji
        obtain ⟨v1, v2⟩ := g5 (o (x + j)) (fun j2 w3 w4 w5 => hinj (x + j) j2 (by omega) (by omega) w5.symm)
        rw [v1, v2, a48, b47, upd_eq, vpL_eq, hgd]
        exact ⟨rfl, rfl⟩
    · obtain ⟨v1, v2⟩ := g5 y (fun j2 w3 w4 => hy j2 (by omega) w4)
      have hne := hy (x + i) (Nat.le_refl _) (by omega)
      rw [v1, v2, a48, b47, upd_ne _ _ _ (fun w => hne w.symm), vpL_ne _ _ _ (fun w => hne w.symm)]
      exact ⟨rfl, rfl⟩
/-- what the laying leaves alone -/
def FrZ (A A' : Nat → Nat → Int32) (B B' : Nat → Nat → Int64) (G G' : Nat → Nat → Int32) : Prop := (∀ k, k ≠ 48 → k ≠ 56 → k ≠ 57 → k ≠ 58 → A' k = A k) ∧ (∀ k, k ≠ 47 → k ≠ 55 → B' k = B k) ∧ (∀ k, k ≠ 44 → G' k = G k) ∧ (∀ f, f ≠ 21 → f ≠ 23 → f ≠ 25 → f ≠ 26 → G' 44 f = G 44 f)
theorem FrZ.trans {A A' A2 : Nat → Nat → Int32} {B B' B2 : Nat → Nat → Int64} {G G' G2 : Nat → Nat → Int32} (h : FrZ A A' B B' G G') (g : FrZ A' A2 B' B2 G' G2) : FrZ A A2 B B2 G G2 := ⟨fun k a b c d => (g.1 k a b c d).trans (h.1 k a b c d), fun k a b => (g.2.1 k a b).trans (h.2.1 k a b), fun k a => (g.2.2.1 k a).trans (h.2.2.1 k a), fun k a b c d => (g.2.2.2 k a b c d).trans (h.2.2.2 k a b c d)⟩
variable {b1 b2 b3 : Nat} {lc : Nat → Nat} {un D : Nat}
theorem s_level (hN : 500 < N) (hal : al = 0 ∨ al = 1) (hs : s ≤ 4) (ht : t ≤ 24) (hP : ∀ u, u < s → 1 ≤ P u ∧ P u ≤ 3) (hinj : ∀ j1 j2, j1 < j2 → j2 < t → o j1 ≠ o j2) (hb4 : b1 ≤ 4 ∧ b2 ≤ 4 ∧ b3 ≤ 4) {L : List Ent} (hLl : L.length ≤ 49) (hO : OkF s L) {A : Nat → Nat → Int32} {B : Nat → Nat → Int64} {G : Nat → Nat → Int32} (hM : OpM A B G L) (hLy : LyM al P o s t A G) (hC : RfC b1 b2 b3 lc un D al t A B G) {p a b c x w mo : Nat} (hp : p ≤ 40) (hx : x < t) (hw : x + w ≤ t) (hwT : w + mo ≤ cn p L) (hmp : mo = 0 ∨ p ≤ 22) (hbc : b ≤ 24 ∧ c ≤ 24)
    (hch : ∀ A' G', (∀ j, j ≠ 58 → A' j = A j) → (∀ j, j ≠ 23 → G' 44 j = G 44 j) → f_X7_choose N 44 (nI p) (nI a) (nI b) (nI c) (nI x) (mem A' B G' fl) = some (mem A' B (upA G' 44 (upd (upd (G' 44) 25 (nI w)) 26 (nI mo))) fl)) (n : Nat) :
    ∃ (A' : Nat → Nat → Int32) (B' : Nat → Nat → Int64) (G' : Nat → Nat → Int32) (TT : List Ent), f_X7_layFree_L24 N (n + 1) 44 (nI a) (nI b) (nI c) (nI x) (nI p) (mem A B G fl) = f_X7_layFree_L24 N n 44 (nI (min (b + b1 * mo) (t - x - w))) (nI (min (c + b2 * mo) (t - x - w))) (nI (min (b3 * mo) (t - x - w))) (nI (x + w)) (nI (p + 1)) (mem A' B' G' fl) ∧ SrtK TT ∧ TT.Perm (L.filter (fun z => decide (z.2.2 = p))) ∧ OpM A' B' G' (L.filter (fun z => decide (p < z.2.2)) ++ kF P s ((TT.drop w).take mo)) ∧ FrZ A A' B B' G G' ∧ Wr A' B' 46 o x ((TT.take w).map wd1) ∧ (∀ y, (∀ j, x ≤ j → j < x + w → o j ≠ y) → B' 47 y = B 47 y ∧ A' 48 y = A 48 y) := by
  have hens := hO.1.ens (Nat.le_refl 24)
  have hD : ∀ a b, a < L.length → b < L.length → a ≠ b → (eN L a).1 ≠ (eN L b).1 := by
    have hpw := List.pairwise_iff_getElem.mp hO.1.1
    have hget : ∀ a (ha : a < L.length), eN L a = L[a] := fun a ha => by
      have := eN_get ha
      rw [List.getElem?_eq_getElem ha] at this
      exact (Option.some.inj this).symm
    intro a b ha hb hab
    rw [hget a ha, hget b hb]
    rcases Nat.lt_or_ge a b with q | q
    · exact apt_row (hens _ (List.getElem_mem ha)).2.1 (hpw a b ha hb q)
    · exact fun e => apt_row (hens _ (List.getElem_mem hb)).2.1 (hpw b a hb ha (by omega)) e.symm
  obtain ⟨A1, G1, T, f1, f2, f3, f4, f5, f6, f7, f8, f9⟩ := s_findTurn (fl := fl) (N := N) (B := B) (by omega) hens hD hN (show p ≤ 1000 by omega) A G hM
  have hTl : T.length = cn p L := by
    have := f9.length_eq
    rw [List.length_map] at this
    rw [this]
    exact lvT_len p L
  have hcL : cn p L ≤ L.length := List.countP_le_length
  have hc1 := hch A1 G1 f2 f4
  generalize hG2 : upA G1 44 (upd (upd (G1 44) 25 (nI w)) 26 (nI mo)) = G2 at hc1
  have g0 : ∀ k, k ≠ 44 → G2 k = G k := fun k hk => by rw [← hG2, upA_ne _ _ _ hk, f3 k hk]
  have g44 : ∀ f, f ≠ 23 → f ≠ 25 → f ≠ 26 → G2 44 f = G 44 f := fun f q1 q2 q3 => by rw [← hG2, upA_same, upd_ne _ _ _ q3, upd_ne _ _ _ q2, f4 f q1]
  have g25 : G2 44 25 = nI w := by rw [← hG2, upA_same, upd_ne _ _ _ (by omega), upd_eq]
  have g26 : G2 44 26 = nI mo := by rw [← hG2, upA_same, upd_eq]
  have hM2 : OpM A1 B G2 L := ⟨by rw [g44 21 (by omega) (by omega) (by omega)]; exact hM.1, fun k z hz => by rw [f2 56 (by omega), f2 57 (by omega)]; exact hM.2 k z hz⟩
  have hLy2 : LyM al P o s t A1 G2 := hLy.fr (f2 45 (by omega)) (f2 50 (by omega)) (g44 1 (by omega) (by omega) (by omega)) (g44 14 (by omega) (by omega) (by omega))
  obtain ⟨A3, B3, h1, h2, h3, h4, h5⟩ := s_lay65 (fl := fl) (N := N) (P := P) (o := o) (al := al) (s := s) (b := b) (c := c) (p := p) (mo := mo) ht (show L.length ≤ 400 by omega) hw (show w ≤ T.length by omega) (by omega) (fun y hy => (f7 y hy).1) hinj (f_X7_layFree_L24 N n) w 0 N A1 B (by omega) (by omega) hM2 hLy2 f6
  have hM3 : OpM A3 B3 G2 L := ⟨hM2.1, fun k z hz => by rw [h2 56 (by omega), h2 57 (by omega), h3 55 (by omega)]; exact hM2.2 k z hz⟩
  have hLy3 : LyM al P o s t A3 G2 := hLy2.fr (h2 45 (by omega)) (h2 50 (by omega)) rfl rfl
  have hUl : ((T.drop w).take mo).length = mo := by rw [List.length_take, List.length_drop]; omega
  obtain ⟨A4, B4, G4, k1, k2, k3⟩ := s_lay136 (fl := fl) (N := N) (P := P) (o := o) (t := t) (b := b) (c := c) (x := x) (p := p) (w := w) (mo := mo) hN hal hs (L0 := L) (by omega) (by omega) (f_X7_layFree_L24 N n) ((T.drop w).take mo) w N A3 B3 G2 [] (by omega) (by omega) (fun j y hy => by
    rw [h2 58 (by omega)]
    have hj : j < mo := by
      have := (List.getElem?_eq_some_iff.mp hy).1
      omega
    rw [List.getElem?_take_of_lt hj, List.getElem?_drop] at hy
    exact f6 (w + j) y hy) (fun y hy => by
    have hyT : y ∈ T := List.mem_of_mem_drop (List.mem_of_mem_take hy)
    obtain ⟨q1, q2⟩ := f7 y hyT
    have hm : eN L y ∈ L := List.mem_of_getElem? (eN_get q1)
    have q3 := (hO.1.2 _ hm).1
    have q4 := hO.2 _ hm
    have hmo : mo ≠ 0 := by
      intro q
      rw [q, List.take_zero] at hy
      cases hy
    exact ⟨q1, q3, by omega, q2⟩) (by rw [List.append_nil]; exact hM3) (by rw [hUl]; have : ([] : List Ent).length = 0 := rfl; omega) hLy3
  rw [List.nil_append] at k2
  have hmap : ((T.drop w).take mo).map (eN L) = ((T.map (eN L)).drop w).take mo := by rw [List.map_take, List.map_drop]
  rw [hmap] at k2
  have hkm : ∀ z, z ∈ kF P s (((T.map (eN L)).drop w).take mo) → p < z.2.2 ∧ z.2.2 ≤ 1000 := by
    intro z hz
    obtain ⟨e0, v, q1, q2, rfl⟩ := kF_mem _ hz
    have q3 : e0 ∈ T.map (eN L) := List.mem_of_mem_drop (List.mem_of_mem_take q1)
    obtain ⟨y, hy, rfl⟩ := List.mem_map.mp q3
    have q4 := (f7 y hy).2
    have q5 := hP v q2
    show p < (eN L y).2.2 + P v ∧ (eN L y).2.2 + P v ≤ 1000
    omega
  have hkl : (kF P s (((T.map (eN L)).drop w).take mo)).length ≤ 4 * mo := by
    rw [kF_len]
    refine Nat.mul_le_mul hs ?_
    rw [List.length_take]
    omega
  obtain ⟨A5, B5, G5, m1, m2, m3, m4⟩ := s_forget (fl := fl) (N := N) (show p ≤ 1000 by omega) (L := L ++ kF P s (((T.map (eN L)).drop w).take mo)) (by rw [List.length_append]; omega) (fun z hz => by
    rcases List.mem_append.mp hz with hz | hz
    · have := (hO.2 z hz).2; omega
    · exact (hkm z hz).2) (L ++ kF P s (((T.map (eN L)).drop w).take mo)) 0 0 N A4 B4 G4 [] List.drop_zero (by omega) (by rw [List.length_append]; omega) rfl (Nat.le_refl _) rfl k2.1 (fun j x _ hx => k2.2 j x hx) (fun j x hx => (by cases hx))
  have hfl : (L ++ kF P s (((T.map (eN L)).drop w).take mo)).filter (fun z => decide (p < z.2.2)) = L.filter (fun z => decide (p < z.2.2)) ++ kF P s (((T.map (eN L)).drop w).take mo) := by
    rw [List.filter_append]
    congr 1
    exact List.filter_eq_self.mpr (fun z hz => decide_eq_true (hkm z hz).1)
  rw [hfl] at m2
  have hC5 : RfC b1 b2 b3 lc un D al t A5 B5 G5 := hC.fr (by rw [m3.1 54 (by omega) (by omega) (by omega), k3.1 54 (by omega) (by omega) (by omega), h2 54 (by omega), f2 54 (by omega)]) (by rw [m3.2.1 53 (by omega), k3.2.1 53 (by omega), h3 53 (by omega)]) (by rw [m3.2.2.2 3 (by omega) (by omega), k3.2.2.2 3 (by omega) (by omega), g44 3 (by omega) (by omega) (by omega)]) (by rw [m3.2.2.2 14 (by omega) (by omega), k3.2.2.2 14 (by omega) (by omega), g44 14 (by omega) (by omega) (by omega)]) (by rw [m3.2.2.2 15 (by omega) (by omega), k3.2.2.2 15 (by omega) (by omega), g44 15 (by omega) (by omega) (by omega)]) (by rw [m3.2.2.2 16 (by omega) (by omega), k3.2.2.2 16 (by omega) (by omega), g44 16 (by omega) (by omega) (by omega)])
  refine ⟨A5, B5, G5, T.map (eN L), ?_, f8, f9, m2, ⟨fun k w1 w2 w3 w4 => by rw [m3.1 k w2 w3 w4, k3.1 k w2 w3 w4, h2 k w1, f2 k w4], fun k w1 w2 => by rw [m3.2.1 k w2, k3.2.1 k w2, h3 k w1], fun k w1 => by rw [m3.2.2.1 k w1, k3.2.2.1 k w1, g0 k w1], fun f w1 w2 w3 w4 => by rw [m3.2.2.2 f w1 w2, k3.2.2.2 f w1 w2, g44 f w2 w3 w4]⟩, ?_, fun y hy => ?_⟩
  · obtain ⟨c1, c2, c3, c4, c5, c6, c7, c8⟩ := hC5
    have mo49 : mo ≤ 49 := by omega
    have mm1 : b1 * mo ≤ 4 * 49 := Nat.mul_le_mul hb4.1 mo49
    have mm2 : b2 * mo ≤ 4 * 49 := Nat.mul_le_mul hb4.2.1 mo49
    have mm3 : b3 * mo ≤ 4 * 49 := Nat.mul_le_mul hb4.2.2 mo49
    rw [f_X7_layFree_L24, gx_44_3, sb, hC.1, if_neg (nI_ge hx (by omega)), ck_44, sb, f1, sb, ck_44, sb, hc1, sb, gx_44_25, sb, g25, gx_44_26, sb, g26, show (0 : Int32) = nI 0 from rfl, h1, f_X7_layFree_K132, k1, f_X7_layFree_K165, ck_44, sb]
    unfold f_X7_forget
    rw [show f_X7_forget_L4 N N 44 (nI p) (0 : Int32) (0 : Int32) (mem A4 B4 G4 fl) = _ from m1, sb, gx_44_3, sb, c1, pk_sub (by omega), pk_sub (by omega), gx_44_17, sb, show (1 : Int32) = nI 1 from rfl, ldI_n (ly54 fl) (by omega) (by decide), sb, c5, pk_mul, nI_add, least_n (by rw [Nat.mul_comm mo b1]; omega) (by omega), b2s, gx_44_17, sb, show (2 : Int32) = nI 2 from rfl, ldI_n (ly54 fl) (by omega) (by decide), sb, c6, pk_mul, nI_add, least_n (by rw [Nat.mul_comm mo b2]; omega) (by omega), b2s, gx_44_17, sb, show (3 : Int32) = nI 3 from rfl, ldI_n (ly54 fl) (by omega) (by decide), sb, c7, pk_mul, least_n (by rw [Nat.mul_comm mo b3]; omega) (by omega), b2s, Nat.mul_comm mo b1, Nat.mul_comm mo b2, Nat.mul_comm mo b3, nI_add, nI_add]
  · intro j hj
    have hjw : j < w := by
      rw [List.length_map, List.length_take] at hj
      omega
    obtain ⟨v1, v2⟩ := h4 j (Nat.zero_le _) hjw
    have hgd : (((T.map (eN L)).take w).map wd1).getD j (0, 0) = wd1 ((T.map (eN L)).getD j (0, 0, 0)) := by
      rw [List.getD_eq_getElem?_getD, List.getD_eq_getElem?_getD, List.getElem?_map, List.getElem?_take_of_lt hjw]
      have hjT : j < (T.map (eN L)).length := by rw [List.length_map]; omega
      rw [List.getElem?_eq_getElem hjT]
      rfl
    rw [hgd]
    show B5 47 (o (x + j)) = _ ∧ A5 48 (o (x + j)) = _
    rw [m3.2.1 47 (by omega), k3.2.1 47 (by omega), m3.1 48 (by omega) (by omega) (by omega), k3.1 48 (by omega) (by omega) (by omega), v1, v2]
    exact ⟨rfl, rfl⟩
  · obtain ⟨v1, v2⟩ := h5 y (fun j q1 q2 => hy j (by omega) q2)
    rw [m3.2.1 47 (by omega), k3.2.1 47 (by omega), m3.1 48 (by omega) (by omega) (by omega), k3.1 48 (by omega) (by omega) (by omega), v1, v2, f2 48 (by omega)]
    exact ⟨rfl, rfl⟩
end Lv
