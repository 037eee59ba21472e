/-! the reference's stack at work -/
def StkM (A : Nat → Nat → Int32) (B : Nat → Nat → Int64) (G : Nat → Nat → Int32) (L : List NdQ) : Prop := G 44 33 = nI L.length ∧ ∀ k q, L[k]? = some q → A 62 k = nI q.1 ∧ A 63 k = nI q.2.1 ∧ B 64 k = lN q.2.2.1 ∧ A 65 k = nI q.2.2.2
def FrD (A A' : Nat → Nat → Int32) (B B' : Nat → Nat → Int64) (G G' : Nat → Nat → Int32) : Prop := (∀ k, k ≠ 48 → k ≠ 62 → k ≠ 63 → k ≠ 65 → A' k = A k) ∧ (∀ k, k ≠ 47 → k ≠ 64 → k ≠ 61 → B' k = B k) ∧ (∀ k, k ≠ 44 → G' k = G k) ∧ (∀ f, f ≠ 33 → G' 44 f = G 44 f)
theorem FrD.refl (A : Nat → Nat → Int32) (B : Nat → Nat → Int64) (G : Nat → Nat → Int32) : FrD A A B B G G := ⟨fun _ _ _ _ _ => rfl, fun _ _ _ _ => rfl, fun _ _ => rfl, fun _ _ => rfl⟩
theorem FrD.trans {A A' A2 : Nat → Nat → Int32} {B B' B2 : Nat → Nat → Int64} {G G' G2 : Nat → Nat → Int32} (h : FrD A A' B B' G G') (k : FrD A' A2 B' B2 G' G2) : FrD A A2 B B2 G G2 := ⟨fun x a b c d => (k.1 x a b c d).trans (h.1 x a b c d), fun x a b c => (k.2.1 x a b c).trans (h.2.1 x a b c), fun x a => (k.2.2.1 x a).trans (h.2.2.1 x a), fun x a => (k.2.2.2 x a).trans (h.2.2.2 x a)⟩
section Dw
variable {fl : Nat → Bool} {N s t : Nat} {P C : Nat → Nat}
theorem NdC.frD {A A' : Nat → Nat → Int32} {B B' : Nat → Nat → Int64} {G G' : Nat → Nat → Int32} (h : NdC A G P C s t) (k : FrD A A' B B' G G') : NdC A' G' P C s t := ⟨by rw [k.2.2.2 1 (by omega)]; exact h.1, by rw [k.2.2.2 3 (by omega)]; exact h.2.1, fun u hu => by rw [k.1 45 (by omega) (by omega) (by omega) (by omega)]; exact h.2.2.1 u hu, fun i hi => by rw [k.1 46 (by omega) (by omega) (by omega) (by omega)]; exact h.2.2.2 i hi⟩
theorem s_wait {A : Nat → Nat → Int32} {B : Nat → Nat → Int64} {G : Nat → Nat → Int32} {L : List NdQ} (hL : L.length < 100) (hM : StkM A B G L) (q : NdQ) :
    ∃ A' B' G', f_X7_wait N 44 (nI q.1) (nI q.2.1) (lN q.2.2.1) (nI q.2.2.2) (mem A B G fl) = some (mem A' B' G' fl) ∧ StkM A' B' G' (L ++ [q]) ∧ FrD A A' B B' G G' ∧ A' 48 = A 48 ∧ B' 47 = B 47 ∧ B' 61 = B 61 := by
  have hl1 : (L ++ [q]).length = L.length + 1 := List.length_append
  refine ⟨upA (upA (upA A 62 (upd (A 62) L.length (nI q.1))) 63 (upd (A 63) L.length (nI q.2.1))) 65 (upd (A 65) L.length (nI q.2.2.2)), upA B 64 (vp_updL (B 64) L.length (lN q.2.2.1)), upA G 44 (upd (G 44) 33 (nI (L.length + 1))), ?_, ⟨?_, fun k x hx => ?_⟩, ⟨fun k _ a b c => by rw [upA_ne _ _ _ c, upA_ne _ _ _ b, upA_ne _ _ _ a], fun k _ a _ => upA_ne _ _ _ a, fun k a => upA_ne _ _ _ a, fun f a => by rw [upA_same, upd_ne _ _ _ a]⟩, ?_, ?_, ?_⟩
  · unfold f_X7_wait
    rw [gx_44_29, sb, gx_44_33, sb, hM.1, stI_n (ly62 fl) hL (by decide), sb, gx_44_30, sb, gx_44_33, sb, hM.1, stI_n (ly63 fl) hL (by decide), sb, gx_44_31, sb, gx_44_33, sb, hM.1, stJ_n (ly64 fl) hL (by decide), sb, gx_44_32, sb, gx_44_33, sb, hM.1, stI_n (ly65 fl) hL (by decide), sb, gx_44_33, sb, hM.1, nI_1, px_44_33, sb]
    rw [upA_ne _ _ _ (show 63 ≠ 62 by omega), upA_ne _ _ _ (show 65 ≠ 63 by omega), upA_ne _ _ _ (show 65 ≠ 62 by omega)]
  · rw [upA_same, upd_eq, hl1]
  · rw [upA_ne _ _ _ (show 62 ≠ 65 by omega), upA_ne _ _ _ (show 62 ≠ 63 by omega), upA_same, upA_ne _ _ _ (show 63 ≠ 65 by omega), upA_same, upA_same, upA_same]
    by_cases e : k < L.length
    · rw [List.getElem?_append_left e] at hx
      rw [upd_ne _ _ _ (by omega), upd_ne _ _ _ (by omega), upd_ne _ _ _ (by omega), vpL_ne _ _ _ (by omega)]
      exact hM.2 k x hx
    · have hk : k < (L ++ [q]).length := (List.getElem?_eq_some_iff.mp hx).1
      have e2 : k = L.length := by omega
      subst e2
      rw [List.getElem?_append_right (Nat.le_refl _), Nat.sub_self] at hx
      obtain rfl := Option.some.inj hx
      rw [upd_eq, upd_eq, upd_eq, vpL_eq]
      exact ⟨rfl, rfl, rfl, rfl⟩
  · rw [upA_ne _ _ _ (by omega), upA_ne _ _ _ (by omega), upA_ne _ _ _ (by omega)]
  · rw [upA_ne _ _ _ (by omega)]
  · rw [upA_ne _ _ _ (by omega)]
/-- what dealing a node reads -/
def DlC (A : Nat → Nat → Int32) (B : Nat → Nat → Int64) (G : Nat → Nat → Int32) (P C : Nat → Nat) (s t i j : Nat) : Prop := NdC A G P C s t ∧ (∀ v, v ≤ s → ∀ e, i ≤ e → e ≤ j + 1 → B 61 (30 * v + e) = lN (rD P C s (nd P C s) i j (s - v) e)) ∧ NsM B P C s i j
theorem s_dl25 {A : Nat → Nat → Int32} {B : Nat → Nat → Int64} {G : Nat → Nat → Int32} (hN : 100 < N) (hS : Sml P C s t) {i j r n : Nat} (hC : DlC A B G P C s t i j) (hij : i < j) (hj : j < t) (k12 : Nat → Int32 → Int32 → Int64 → Int32 → Int32 → Int32 → A_M → Option A_M) {u a : Nat} (hu : u < s) (ha : i ≤ a) (haj : a ≤ j + 1) (hf : rD P C s (nd P C s) i j (s - u) a < EV) : ∀ (d e m : Nat), e + d = sp P C s i j u a → a ≤ e → d < m → f_X7_deal_L25 N k12 m 44 (nI i) (nI j) (lN r) (nI n) (nI a) (nI u) (nI e) (mem A B G fl) = f_X7_deal_K60 N k12 44 (nI i) (nI j) (lN r) (nI n) (nI a) (nI u) (nI (sp P C s i j u a)) (mem A B G fl) := by
  have h24 := hS.2.1
  have h4 := hS.1
  obtain ⟨p1, p2, p3, p4⟩ := sp_ok hu haj hf
  have body : ∀ (m e : Nat), a ≤ e → e ≤ j + 1 → f_X7_deal_L25 N k12 (m + 1) 44 (nI i) (nI j) (lN r) (nI n) (nI a) (nI u) (nI e) (mem A B G fl) = (if prB P C s i j u a e = true then f_X7_deal_K60 N k12 44 (nI i) (nI j) (lN r) (nI n) (nI a) (nI u) (nI e) (mem A B G fl) else f_X7_deal_L25 N k12 m 44 (nI i) (nI j) (lN r) (nI n) (nI a) (nI u) (nI (e + 1)) (mem A B G fl)) := by
    intro m e h1 h2
    have hr1 := hC.2.1 (u + 1) (by omega) e (by omega) h2
    have hd := s_dealt (A := A) (G := G) (fl := fl) (N := N) hN hS hC.1 (show i ≤ j by omega) hj hu ha h1 h2 hr1 (rD_le _ _ _ _) (fun x y => hC.2.2 a (e - 1) ha (by omega) (by omega) (by omega))
    have hb := dv_le hS (i := i) (j := j) (u := u) (a := a) (e := e) (r := rD P C s (nd P C s) i j (s - (u + 1)) e) (by omega) hu
    have hb2 := hf
    unfold EV at hb2
    rw [f_X7_deal_L25, ck_44, sb, hd, b2s, gx_44_28, sb, show (30 : Int32) = nI 30 from rfl, pk_mul, nI_add, ldJ_n (ly61 fl) (by omega) (by decide), sb, hC.2.1 u (by omega) a ha haj]
    by_cases c : prB P C s i j u a e = true
    · rw [if_pos c, if_pos ((lg_eq (by omega) (by omega)).mpr (of_decide_eq_true c))]
    · rw [if_neg c, if_neg (fun g => c (decide_eq_true ((lg_eq (by omega) (by omega)).mp g))), nI_1]
  intro d
  induction d with
  | zero =>
    intro e m h hae hm
    obtain ⟨m, rfl⟩ : ∃ j, m = j + 1 := ⟨m - 1, by omega⟩
    have he : e = sp P C s i j u a := by omega
    rw [body m e hae (by omega), he, if_pos (by unfold prB; exact decide_eq_true p3)]
  | succ d ih =>
    intro e m h hae hm
    obtain ⟨m, rfl⟩ : ∃ j, m = j + 1 := ⟨m - 1, by omega⟩
    rw [body m e hae (by omega), if_neg (by rw [p4 e hae (by omega)]; decide), ih (e + 1) m (by omega) (by omega) (by omega)]
theorem DlC.frD {A A' : Nat → Nat → Int32} {B B' : Nat → Nat → Int64} {G G' : Nat → Nat → Int32} {i j : Nat} (h : DlC A B G P C s t i j) (k : FrD A A' B B' G G') (h61 : B' 61 = B 61) : DlC A' B' G' P C s t i j := ⟨h.1.frD k, by rw [h61]; exact h.2.1, fun a b g1 g2 g3 g4 => by rw [k.2.1 60 (by omega) (by omega) (by omega)]; exact h.2.2 a b g1 g2 g3 g4⟩
def oB (o : Option (Nat × Nat)) (x : Int64) : Int64 := match o with
  | some v => lN v.1
  | none => x
def oA (o : Option (Nat × Nat)) (x : Int32) : Int32 := match o with
  | some v => nI v.2
  | none => x
theorem s_dl12 (hN : 100 < N) (hS : Sml P C s t) {i j r n : Nat} (hij : i < j) (hj : j < t) (hr : r < 4 ^ 24) (hz : rz r n) (hn : n + (j - i) ≤ 23) : ∀ (k u a m : Nat) (A : Nat → Nat → Int32) (B : Nat → Nat → Int64) (G : Nat → Nat → Int32) (L : List NdQ), u + k = s → i ≤ a → a ≤ j + 1 → k < m → rD P C s (nd P C s) i j (s - u) a < EV → DlC A B G P C s t i j → StkM A B G L → L.length + k < 100 →
    ∃ A' B' G', f_X7_deal_L12 N m 44 (nI i) (nI j) (lN r) (nI n) (nI a) (nI u) (mem A B G fl) = some (mem A' B' G' fl) ∧ StkM A' B' G' (L ++ chl P C s i j r n k u a) ∧ FrD A A' B B' G G' ∧ (∀ x, B' 47 x = oB (lfA P C s i j r n k u a x) (B 47 x) ∧ A' 48 x = oA (lfA P C s i j r n k u a x) (A 48 x)) := by
  have h24 := hS.2.1
  have h4 := hS.1
  intro k
  induction k with
  | zero =>
    intro u a m A B G L hu ha haj hm hf hC hM hL
    obtain ⟨m, rfl⟩ : ∃ j, m = j + 1 := ⟨m - 1, by omega⟩
    refine ⟨A, B, G, ?_, ?_, FrD.refl A B G, fun x => ⟨rfl, rfl⟩⟩
    · rw [f_X7_deal_L12, gx_44_1, sb, hC.1.1, if_pos (nI_le (by omega) (by omega))]
    · show StkM A B G (L ++ [])
      rw [List.append_nil]
      exact hM
  | succ k ih =>
    intro u a m A B G L hu ha haj hm hf hC hM hL
    obtain ⟨m, rfl⟩ : ∃ j, m = j + 1 := ⟨m - 1, by omega⟩
    obtain ⟨p1, p2, -, -⟩ := sp_ok (show u < s by omega) haj hf
    obtain ⟨r1, r2, -⟩ := sp_rest (show u < s by omega) haj hf
    have h25 := s_dl25 (fl := fl) (r := r) (n := n) hN hS hC hij hj (f_X7_deal_L12 N m) (show u < s by omega) ha haj hf (sp P C s i j u a - a) a N (by omega) (Nat.le_refl _) (by omega)
    have hlf : ∀ x, lfA P C s i j r n (k + 1) u a x = if a ≤ x ∧ x < sp P C s i j u a then (if sp P C s i j u a - a = 1 then some (r + u * 4 ^ (23 - n), n + 1) else none) else lfA P C s i j r n k (u + 1) (sp P C s i j u a) x := fun x => rfl
    have hch : chl P C s i j r n (k + 1) u a = (if 2 ≤ sp P C s i j u a - a then [(a, sp P C s i j u a - 1, r + u * 4 ^ (23 - n), n + 1)] else []) ++ chl P C s i j r n k (u + 1) (sp P C s i j u a) := rfl
    have hlow : ∀ x, x < sp P C s i j u a → lfA P C s i j r n k (u + 1) (sp P C s i j u a) x = none := fun x hx => (chl_ok (P := P) (C := C) (s := s) hij hr hz hn h4 (fun _ _ => (0, 0)) k (u + 1) (sp P C s i j u a) (by omega) (by omega) p2 r1).2.2.2.2 x (Or.inl hx)
    generalize sp P C s i j u a = e at p1 p2 r1 r2 h25 hlf hch hlow
    rw [f_X7_deal_L12, gx_44_1, sb, hC.1.1, if_neg (nI_ge (by omega) (by omega)), h25, f_X7_deal_K60, s_with (by omega) hz (by omega), b2s, pk_sub p1]
    by_cases h1 : e - a = 1
    · -- one thing: its word
      generalize hA1 : upA A 48 (upd (A 48) a (nI (n + 1))) = A1
      generalize hB1 : upA B 47 (vp_updL (B 47) a (lN (r + u * 4 ^ (23 - n)))) = B1
      have a0 : ∀ k, k ≠ 48 → A1 k = A k := fun k hk => by rw [← hA1, upA_ne _ _ _ hk]
      have b0 : ∀ k, k ≠ 47 → B1 k = B k := fun k hk => by rw [← hB1, upA_ne _ _ _ hk]
      have fr : FrD A A1 B B1 G G := ⟨fun k h _ _ _ => a0 k h, fun k h _ _ => b0 k h, fun _ _ => rfl, fun _ _ => rfl⟩
      obtain ⟨A', B', G', g1, g2, g3, g4⟩ := ih (u + 1) e m A1 B1 G L (by omega) (by omega) p2 (by omega) r1 (hC.frD fr (b0 61 (by omega))) ⟨hM.1, fun k q hq => by rw [a0 62 (by omega), a0 63 (by omega), a0 65 (by omega), b0 64 (by omega)]; exact hM.2 k q hq⟩ (by omega)
      refine ⟨A', B', G', ?_, ?_, fr.trans g3, fun x => ?_⟩
      · rw [if_pos (show nI (e - a) = (1 : Int32) by rw [h1]; rfl), gx_44_7, sb, stJ_n (ly47 fl) (by omega) (by decide), sb, gx_44_8, sb, show nI n + (1 : Int32) = nI (n + 1) from nI_1 n, stI_n (ly48 fl) (by omega) (by decide), sb, hA1, hB1, f_X7_deal_K125, nI_1, g1]
      · rw [hch, if_neg (by omega), List.nil_append]
        exact g2
      · obtain ⟨q1, q2⟩ := g4 x
        rw [q1, q2, hlf]
        by_cases hx : a ≤ x ∧ x < e
        · have hxa : x = a := by omega
          subst hxa
          rw [if_pos hx, if_pos h1, hlow x hx.2]
          show B1 47 x = lN _ ∧ A1 48 x = nI _
          rw [← hA1, ← hB1, upA_same, upA_same, upd_eq, vpL_eq]
          exact ⟨rfl, rfl⟩
        · rw [if_neg hx]
          have e1 : B1 47 x = B 47 x ∨ e ≤ x := by
            by_cases q : x = a
            · exact Or.inr (by omega)
            · exact Or.inl (by rw [← hB1, upA_same, vpL_ne _ _ _ q])
          have e3 : x ≠ a := by omega
          have e1 : B1 47 x = B 47 x := by rw [← hB1, upA_same, vpL_ne _ _ _ e3]
          have e2 : A1 48 x = A 48 x := by rw [← hA1, upA_same, upd_ne _ _ _ e3]
          rw [e1, e2]
          exact ⟨rfl, rfl⟩
    · by_cases h2 : e = a
      · -- nothing
        subst h2
        obtain ⟨A', B', G', g1, g2, g3, g4⟩ := ih (u + 1) e m A B G L (by omega) ha p2 (by omega) r1 hC hM (by omega)
        refine ⟨A', B', G', ?_, ?_, g3, fun x => ?_⟩
        · rw [if_neg (show ¬ nI (e - e) = (1 : Int32) by rw [Nat.sub_self]; decide), if_pos (nI_le (Nat.le_refl _) (by omega)), f_X7_deal_K125, nI_1, g1]
        · rw [hch, if_neg (by omega), List.nil_append]
          exact g2
        · rw [hlf, if_neg (by omega)]
          exact g4 x
      · -- a node that waits
        obtain ⟨A1, B1, G1, c1', c2, c3, c4, c5, c6⟩ := s_wait (fl := fl) (N := N) (show L.length < 100 by omega) hM (a, e - 1, r + u * 4 ^ (23 - n), n + 1)
        have hl1 : (L ++ [(a, e - 1, r + u * 4 ^ (23 - n), n + 1)]).length = L.length + 1 := List.length_append
        obtain ⟨A', B', G', g1, g2, g3, g4⟩ := ih (u + 1) e m A1 B1 G1 (L ++ [(a, e - 1, r + u * 4 ^ (23 - n), n + 1)]) (by omega) (by omega) p2 (by omega) r1 (hC.frD c3 c6) c2 (by omega)
        refine ⟨A', B', G', ?_, ?_, c3.trans g3, fun x => ?_⟩
        · rw [if_neg (show ¬ nI (e - a) = (1 : Int32) from fun q => h1 ((nI_eq (b := 1) (by omega) (by omega)).mp q)), if_neg (nI_ge (by omega) (by omega)), ck_44, sb, show (1 : Int32) = nI 1 from rfl, pk_sub (by omega), nI_add]
          rw [show f_X7_wait N 44 (nI a) (nI (e - 1)) (lN (r + u * 4 ^ (23 - n))) (nI (n + 1)) (mem A B G fl) = _ from c1', sb, f_X7_deal_K125, nI_1, g1]
        · rw [hch, if_pos (by omega), ← List.append_assoc]
          exact g2
        · obtain ⟨q1, q2⟩ := g4 x
          rw [q1, q2, hlf, c4, c5]
          by_cases hx : a ≤ x ∧ x < e
          · rw [if_pos hx, if_neg h1, hlow x hx.2]
            exact ⟨rfl, rfl⟩
          · rw [if_neg hx]
            exact ⟨rfl, rfl⟩
end Dw
