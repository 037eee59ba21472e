/-! FREE: the reference goes through a level -/
section Gt
variable {al t : Nat} {fl : Nat → Bool} {N : Nat} {G : Nat → Nat → Int32}
section Gen
variable {p mk wa wb : Nat} {J : (Nat → Nat → Int32) → (Nat → Nat → Int64) → Prop} {St : (Nat → Nat → Int32) → (Nat → Nat → Int64) → (Nat → Nat → Int32) → (Nat → Nat → Int64) → Prop} {Dn : Nat → Nat → Nat → Nat → (Nat → Nat → Int32) → (Nat → Nat → Int64) → Prop}
/-- one cell -/
def GtB (N : Nat) (fl : Nat → Bool) (G : Nat → Nat → Int32) (p mk wa wb t : Nat) (J : (Nat → Nat → Int32) → (Nat → Nat → Int64) → Prop) (St : (Nat → Nat → Int32) → (Nat → Nat → Int64) → (Nat → Nat → Int32) → (Nat → Nat → Int64) → Prop) (Dn : Nat → Nat → Nat → Nat → (Nat → Nat → Int32) → (Nat → Nat → Int64) → Prop) : Prop :=
  ∀ a b c x A B, a ≤ wa → b ≤ wb → c ≤ wb → x < t → J A B → ∃ A' B', (∀ k33 k42 k52 n, f_X7_goThrough_L62 N k33 k42 k52 (n + 1) 44 (nI p) (nI mk) (nI wa) (nI wb) (nI a) (nI b) (nI c) (nI x) (mem A B G fl) = f_X7_goThrough_L62 N k33 k42 k52 n 44 (nI p) (nI mk) (nI wa) (nI wb) (nI a) (nI b) (nI c) (nI (x + 1)) (mem A' B' G fl)) ∧ J A' B' ∧ St A B A' B' ∧ Dn a b c x A' B'
/-- what is asked -/
def GtA (N : Nat) (fl : Nat → Bool) (G : Nat → Nat → Int32) (p mk wa wb t : Nat) (J : (Nat → Nat → Int32) → (Nat → Nat → Int64) → Prop) (St : (Nat → Nat → Int32) → (Nat → Nat → Int64) → (Nat → Nat → Int32) → (Nat → Nat → Int64) → Prop) (Dn : Nat → Nat → Nat → Nat → (Nat → Nat → Int32) → (Nat → Nat → Int64) → Prop) : Prop :=
  GtB N fl G p mk wa wb t J St Dn ∧ (∀ A B, St A B A B) ∧ (∀ A B A1 B1 A2 B2, St A B A1 B1 → St A1 B1 A2 B2 → St A B A2 B2) ∧ (∀ a b c x A B A1 B1, a ≤ wa → b ≤ wb → c ≤ wb → x < t → Dn a b c x A B → St A B A1 B1 → Dn a b c x A1 B1) ∧ t ≤ 24 ∧ wa ≤ 24 ∧ wb ≤ 24 ∧ G 44 3 = nI t ∧ 100 < N
theorem gt62 (hh : GtA N fl G p mk wa wb t J St Dn) {a b c : Nat} (ha : a ≤ wa) (hbb : b ≤ wb) (hc : c ≤ wb) (k33 : Nat → Int32 → Int32 → Int32 → Int32 → Int32 → A_M → Option A_M) (k42 : Nat → Int32 → Int32 → Int32 → Int32 → Int32 → Int32 → A_M → Option A_M) (k52 : Nat → Int32 → Int32 → Int32 → Int32 → Int32 → Int32 → Int32 → A_M → Option A_M) : ∀ (d x n : Nat) (A : Nat → Nat → Int32) (B : Nat → Nat → Int64), x + d = t → d < n → J A B →
    ∃ A' B', f_X7_goThrough_L62 N k33 k42 k52 n 44 (nI p) (nI mk) (nI wa) (nI wb) (nI a) (nI b) (nI c) (nI x) (mem A B G fl) = k52 44 (nI p) (nI mk) (nI wa) (nI wb) (nI a) (nI b) (nI (c + 1)) (mem A' B' G fl) ∧ J A' B' ∧ St A B A' B' ∧ ∀ x', x ≤ x' → x' < t → Dn a b c x' A' B' := by
  have hh0 := hh
  obtain ⟨hb, hr, htr, hdn, ht, hwa, hwb, hG, hN⟩ := hh
  intro d
  induction d with
  | zero =>
    intro x n A B h hn hJ
    obtain ⟨n, rfl⟩ : ∃ j, n = j + 1 := ⟨n - 1, by omega⟩
    refine ⟨A, B, ?_, hJ, hr A B, fun x' q1 q2 => by omega⟩
    rw [f_X7_goThrough_L62, gx_44_3, sb, hG, if_pos (nI_le (by omega) (by omega)), f_X7_goThrough_K131, nI_1]
  | succ d ih =>
    intro x n A B h hn hJ
    obtain ⟨n, rfl⟩ : ∃ j, n = j + 1 := ⟨n - 1, by omega⟩
    obtain ⟨A1, B1, e1, e2, e3, e4⟩ := hb a b c x A B ha hbb hc (by omega) hJ
    obtain ⟨A2, B2, g1, g2, g3, g4⟩ := ih (x + 1) n A1 B1 (by omega) (by omega) e2
    refine ⟨A2, B2, by rw [e1, g1], g2, htr _ _ _ _ _ _ e3 g3, fun x' q1 q2 => ?_⟩
    rcases Nat.lt_or_ge x x' with r | r
    · exact g4 x' (by omega) q2
    · rw [show x' = x by omega]
      exact hdn _ _ _ _ _ _ _ _ ha hbb hc (by omega) e4 g3
theorem gt52 (hh : GtA N fl G p mk wa wb t J St Dn) {a b : Nat} (ha : a ≤ wa) (hbb : b ≤ wb) (k33 : Nat → Int32 → Int32 → Int32 → Int32 → Int32 → A_M → Option A_M) (k42 : Nat → Int32 → Int32 → Int32 → Int32 → Int32 → Int32 → A_M → Option A_M) : ∀ (d c n : Nat) (A : Nat → Nat → Int32) (B : Nat → Nat → Int64), c + d = wb + 1 → d < n → J A B →
    ∃ A' B', f_X7_goThrough_L52 N k33 k42 n 44 (nI p) (nI mk) (nI wa) (nI wb) (nI a) (nI b) (nI c) (mem A B G fl) = k42 44 (nI p) (nI mk) (nI wa) (nI wb) (nI a) (nI (b + 1)) (mem A' B' G fl) ∧ J A' B' ∧ St A B A' B' ∧ ∀ c' x', c ≤ c' → c' ≤ wb → x' < t → Dn a b c' x' A' B' := by
  have hh0 := hh
  obtain ⟨hb, hr, htr, hdn, ht, hwa, hwb, hG, hN⟩ := hh
  intro d
  induction d with
  | zero =>
    intro c n A B h hn hJ
    obtain ⟨n, rfl⟩ : ∃ j, n = j + 1 := ⟨n - 1, by omega⟩
    refine ⟨A, B, ?_, hJ, hr A B, fun c' x' q1 q2 => by omega⟩
    rw [f_X7_goThrough_L52, if_pos (nI_lt (by omega) (by omega)), f_X7_goThrough_K137, nI_1]
  | succ d ih =>
    intro c n A B h hn hJ
    obtain ⟨n, rfl⟩ : ∃ j, n = j + 1 := ⟨n - 1, by omega⟩
    obtain ⟨A1, B1, e1, e2, e3, e4⟩ := gt62 hh0 ha hbb (show c ≤ wb by omega) k33 k42 (f_X7_goThrough_L52 N k33 k42 n) t 0 N A B (by omega) (by omega) hJ
    obtain ⟨A2, B2, g1, g2, g3, g4⟩ := ih (c + 1) n A1 B1 (by omega) (by omega) e2
    refine ⟨A2, B2, ?_, g2, htr _ _ _ _ _ _ e3 g3, fun c' x' q1 q2 q3 => ?_⟩
    · rw [f_X7_goThrough_L52, if_neg (nI_nlt (by omega) (by omega)), show (0 : Int32) = nI 0 from rfl, e1, g1]
    · rcases Nat.lt_or_ge c c' with r | r
      · exact g4 c' x' (by omega) q2 q3
      · rw [show c' = c by omega]
        exact hdn _ _ _ _ _ _ _ _ ha hbb (by omega) q3 (e4 x' (Nat.zero_le _) q3) g3
theorem gt42 (hh : GtA N fl G p mk wa wb t J St Dn) {a : Nat} (ha : a ≤ wa) (k33 : Nat → Int32 → Int32 → Int32 → Int32 → Int32 → A_M → Option A_M) : ∀ (d b n : Nat) (A : Nat → Nat → Int32) (B : Nat → Nat → Int64), b + d = wb + 1 → d < n → J A B →
    ∃ A' B', f_X7_goThrough_L42 N k33 n 44 (nI p) (nI mk) (nI wa) (nI wb) (nI a) (nI b) (mem A B G fl) = k33 44 (nI p) (nI mk) (nI wa) (nI wb) (nI (a + 1)) (mem A' B' G fl) ∧ J A' B' ∧ St A B A' B' ∧ ∀ b' c' x', b ≤ b' → b' ≤ wb → c' ≤ wb → x' < t → Dn a b' c' x' A' B' := by
  have hh0 := hh
  obtain ⟨hb, hr, htr, hdn, ht, hwa, hwb, hG, hN⟩ := hh
  intro d
  induction d with
  | zero =>
    intro b n A B h hn hJ
    obtain ⟨n, rfl⟩ : ∃ j, n = j + 1 := ⟨n - 1, by omega⟩
    refine ⟨A, B, ?_, hJ, hr A B, fun b' c' x' q1 q2 => by omega⟩
    rw [f_X7_goThrough_L42, if_pos (nI_lt (by omega) (by omega)), f_X7_goThrough_K143, nI_1]
  | succ d ih =>
    intro b n A B h hn hJ
    obtain ⟨n, rfl⟩ : ∃ j, n = j + 1 := ⟨n - 1, by omega⟩
    obtain ⟨A1, B1, e1, e2, e3, e4⟩ := gt52 hh0 ha (show b ≤ wb by omega) k33 (f_X7_goThrough_L42 N k33 n) (wb + 1) 0 N A B (by omega) (by omega) hJ
    obtain ⟨A2, B2, g1, g2, g3, g4⟩ := ih (b + 1) n A1 B1 (by omega) (by omega) e2
    refine ⟨A2, B2, ?_, g2, htr _ _ _ _ _ _ e3 g3, fun b' c' x' q1 q2 q3 q4 => ?_⟩
    · rw [f_X7_goThrough_L42, if_neg (nI_nlt (by omega) (by omega)), show (0 : Int32) = nI 0 from rfl, e1, g1]
    · rcases Nat.lt_or_ge b b' with r | r
      · exact g4 b' c' x' (by omega) q2 q3 q4
      · rw [show b' = b by omega]
        exact hdn _ _ _ _ _ _ _ _ ha (by omega) q3 q4 (e4 c' x' (Nat.zero_le _) q3 q4) g3
theorem gt33 (hh : GtA N fl G p mk wa wb t J St Dn) : ∀ (d a n : Nat) (A : Nat → Nat → Int32) (B : Nat → Nat → Int64), a + d = wa + 1 → d < n → J A B →
    ∃ A' B', f_X7_goThrough_L33 N n 44 (nI p) (nI mk) (nI wa) (nI wb) (nI a) (mem A B G fl) = some (mem A' B' G fl) ∧ J A' B' ∧ St A B A' B' ∧ ∀ a' b' c' x', a ≤ a' → a' ≤ wa → b' ≤ wb → c' ≤ wb → x' < t → Dn a' b' c' x' A' B' := by
  have hh0 := hh
  obtain ⟨hb, hr, htr, hdn, ht, hwa, hwb, hG, hN⟩ := hh
  intro d
  induction d with
  | zero =>
    intro a n A B h hn hJ
    obtain ⟨n, rfl⟩ : ∃ j, n = j + 1 := ⟨n - 1, by omega⟩
    refine ⟨A, B, ?_, hJ, hr A B, fun a' b' c' x' q1 q2 => by omega⟩
    rw [f_X7_goThrough_L33, if_pos (nI_lt (by omega) (by omega))]
  | succ d ih =>
    intro a n A B h hn hJ
    obtain ⟨n, rfl⟩ : ∃ j, n = j + 1 := ⟨n - 1, by omega⟩
    obtain ⟨A1, B1, e1, e2, e3, e4⟩ := gt42 hh0 (show a ≤ wa by omega) (f_X7_goThrough_L33 N n) (wb + 1) 0 N A B (by omega) (by omega) hJ
    obtain ⟨A2, B2, g1, g2, g3, g4⟩ := ih (a + 1) n A1 B1 (by omega) (by omega) e2
    refine ⟨A2, B2, ?_, g2, htr _ _ _ _ _ _ e3 g3, fun a' b' c' x' q1 q2 q3 q4 q5 => ?_⟩
    · rw [f_X7_goThrough_L33, if_neg (nI_nlt (by omega) (by omega)), show (0 : Int32) = nI 0 from rfl, e1, g1]
    · rcases Nat.lt_or_ge a a' with r | r
      · exact g4 a' b' c' x' (by omega) q2 q3 q4 q5
      · rw [show a' = a by omega]
        exact hdn _ _ _ _ _ _ _ _ (by omega) q3 q4 q5 (e4 b' c' x' (Nat.zero_le _) q3 q4 q5) g3
end Gen
variable {b1 b2 b3 : Nat} {lc : Nat → Nat} {un D : Nat}
def waF (al : Nat) : Nat := if al = 1 then 24 else 8
def wbF (al : Nat) : Nat := if al = 1 then 0 else 8
theorem wVT (hal : al = 0 ∨ al = 1) {a b c x : Nat} : (a ≤ waF al ∧ b ≤ wbF al ∧ c ≤ wbF al ∧ x < t) ↔ VT al t a b c x := by
  unfold waF wbF VT
  rcases hal with h | h
  · rw [h, if_neg (by decide), if_neg (by decide)]
    exact ⟨fun ⟨q1, q2, q3, q4⟩ => ⟨q4, fun q => absurd q (by decide), fun _ => ⟨q1, q2, q3⟩⟩, fun ⟨q1, _, q3⟩ => by have := q3 (by decide); exact ⟨this.1, this.2.1, this.2.2, q1⟩⟩
  · rw [h, if_pos rfl, if_pos rfl]
    exact ⟨fun ⟨q1, q2, q3, q4⟩ => ⟨q4, fun _ => ⟨q1, by omega, by omega⟩, fun q => absurd rfl q⟩, fun ⟨q1, q2, _⟩ => by have := q2 rfl; exact ⟨this.1, by omega, by omega, q1⟩⟩
theorem s_through {p mk : Nat} {J : (Nat → Nat → Int32) → (Nat → Nat → Int64) → Prop} {St : (Nat → Nat → Int32) → (Nat → Nat → Int64) → (Nat → Nat → Int32) → (Nat → Nat → Int64) → Prop} {Dn : Nat → Nat → Nat → Nat → (Nat → Nat → Int32) → (Nat → Nat → Int64) → Prop} (hal : al = 0 ∨ al = 1) (hG : G 44 14 = nI al) (hh : GtA N fl G p mk (waF al) (wbF al) t J St Dn) (A : Nat → Nat → Int32) (B : Nat → Nat → Int64) (hJ : J A B) :
    ∃ A' B', f_X7_goThrough N 44 (nI p) (nI mk) (mem A B G fl) = some (mem A' B' G fl) ∧ J A' B' ∧ St A B A' B' ∧ ∀ a b c x, VT al t a b c x → Dn a b c x A' B' := by
  have hw : waF al ≤ 24 := hh.2.2.2.2.2.1
  have hN : 100 < N := hh.2.2.2.2.2.2.2.2
  obtain ⟨A', B', e1, e2, e3, e4⟩ := gt33 hh (waF al + 1) 0 N A B (by omega) (by omega) hJ
  refine ⟨A', B', ?_, e2, e3, fun a b c x hv => ?_⟩
  · unfold f_X7_goThrough f_X7_goThrough_K14 f_X7_goThrough_K28
    rw [gx_44_14, sb, hG]
    rcases hal with h | h
    · subst h
      rw [if_pos (show (nI 0 : Int32) = 0 from rfl), sb, if_pos (show (nI 0 : Int32) = 0 from rfl)]
      exact e1
    · subst h
      rw [if_neg (show ¬ (nI 1 : Int32) = 0 by decide), sb, if_neg (show ¬ (nI 1 : Int32) = 0 by decide)]
      exact e1
  · obtain ⟨q1, q2, q3, q4⟩ := (wVT hal).mpr hv
    exact e4 a b c x (Nat.zero_le _) q1 q2 q3 q4
/-- what is marked of a level has all behind it marked -/
def ClL (b1 b2 b3 D al t : Nat) (A : Nat → Nat → Int32) (p : Nat) : Prop := ∀ a b c x, VT al t a b c x → A 52 (ixF al p a b c x) ≠ 0 → CloF b1 b2 b3 D al t A p a b c x
theorem s_gtMark (hN : 100 < N) (hH : RfH b1 b2 b3 lc un D al t) {p : Nat} (hp : p < D) (A : Nat → Nat → Int32) (B : Nat → Nat → Int64) (hC : RfC b1 b2 b3 lc un D al t A B G) :
    ∃ A', f_X7_goThrough N 44 (nI p) (nI 1) (mem A B G fl) = some (mem A' B G fl) ∧ RMo al p A A' ∧ ClL b1 b2 b3 D al t A' p := by
  have ht : t ≤ 24 := hH.1.2.2.2.2.2.2
  have hD : D ≤ 31 := hH.1.2.2.2.2.2.1
  have hal := hH.2.1
  have hw : waF al ≤ 24 ∧ wbF al ≤ 24 := by unfold waF wbF; constructor <;> split <;> omega
  have hA : GtA N fl G p 1 (waF al) (wbF al) t (fun A B => RfC b1 b2 b3 lc un D al t A B G) (fun A B A' B' => B' = B ∧ RMo al p A A') (fun a b c x A B => A 52 (ixF al p a b c x) ≠ 0 → CloF b1 b2 b3 D al t A p a b c x) := by
    refine ⟨?_, fun A B => ⟨rfl, RMo.refl p A⟩, fun A B A1 B1 A2 B2 h1 h2 => ⟨h2.1.trans h1.1, h1.2.trans h2.2⟩, ?_, ht, hw.1, hw.2, hC.1, hN⟩
    · intro a b c x A B q1 q2 q3 q4 hJ
      have hv : VT al t a b c x := (wVT hal).mp ⟨q1, q2, q3, q4⟩
      have hlt := hv.lt (p := p) ht hH.2.2.2.1 (fun q => by have := hH.2.2.1 q; omega) (by omega)
      have hst : ∀ k33 k42 k52 n, f_X7_goThrough_L62 N k33 k42 k52 (n + 1) 44 (nI p) (nI 1) (nI (waF al)) (nI (wbF al)) (nI a) (nI b) (nI c) (nI x) (mem A B G fl) = if A 52 (ixF al p a b c x) = 0 then f_X7_goThrough_L62 N k33 k42 k52 n 44 (nI p) (nI 1) (nI (waF al)) (nI (wbF al)) (nI a) (nI b) (nI c) (nI (x + 1)) (mem A B G fl) else (f_X7_reachFrom N 44 (nI p) (nI a) (nI b) (nI c) (nI x) (mem A B G fl)).bind fun M => f_X7_goThrough_L62 N k33 k42 k52 n 44 (nI p) (nI 1) (nI (waF al)) (nI (wbF al)) (nI a) (nI b) (nI c) (nI (x + 1)) M := by
        intro k33 k42 k52 n
        rw [f_X7_goThrough_L62, gx_44_3, sb, hJ.1, if_neg (nI_ge q4 (by omega)), gx_44_12, sb, ck_44, sb, s_at hal hJ.2.1, b2s, ldZ_n (ly52 fl) hlt.1 (by decide), sb]
        by_cases h0 : A 52 (ixF al p a b c x) = 0
        · rw [if_pos h0, if_pos h0, f_X7_goThrough_K125, nI_1]
        · rw [if_neg h0, if_neg h0, if_neg (show ¬ (nI 1 : Int32) = 0 by decide), ck_44, sb]
          simp only [f_X7_goThrough_K125, nI_1]
      by_cases h0 : A 52 (ixF al p a b c x) = 0
      · refine ⟨A, B, fun k33 k42 k52 n => by rw [hst, if_pos h0], hJ, ⟨rfl, RMo.refl p A⟩, fun q => absurd h0 q⟩
      · obtain ⟨A', r1, r2, r3⟩ := s_reachF (fl := fl) (N := N) hN hH hv hp A hJ
        exact ⟨A', B, fun k33 k42 k52 n => by rw [hst, if_neg h0, r1, sb], hJ.fr (r2.1 54 (by omega)) rfl rfl rfl rfl rfl, ⟨rfl, r2⟩, fun _ => r3⟩
    · rintro a b c x A B A1 B1 q1 q2 q3 q4 hd ⟨-, hm⟩ hne
      have hv : VT al t a b c x := (wVT hal).mp ⟨q1, q2, q3, q4⟩
      rw [hm.2.1 _ (by rw [hv.lv ht hH.2.2.2.1]; omega)] at hne
      exact fun k m w1 w2 w3 w4 => hm.2.2 _ (hd hne k m w1 w2 w3 w4)
  obtain ⟨A', B', e1, -, ⟨e3, e4⟩, e5⟩ := s_through hal hC.2.1 hA A B hC
  subst e3
  exact ⟨A', e1, e4, fun a b c x hv => e5 a b c x hv⟩
/-- what is marked of a level has its least cost -/
def BsL (b1 b2 b3 : Nat) (lc : Nat → Nat) (un D al t : Nat) (A : Nat → Nat → Int32) (B : Nat → Nat → Int64) (p : Nat) : Prop := ∀ a b c x, VT al t a b c x → A 52 (ixF al p a b c x) ≠ 0 → B 51 (ixF al p a b c x) = lN (bWF b1 b2 b3 lc un D p a b c (t - x))
/-- only costs of one level are changed -/
def WMo (al p : Nat) (B B' : Nat → Nat → Int64) : Prop := (∀ k, k ≠ 51 → B' k = B k) ∧ ∀ j, lvJ al j ≠ p → B' 51 j = B 51 j
theorem s_gtWeigh (hN : 100 < N) (hH : RfH b1 b2 b3 lc un D al t) {p : Nat} (hp : p ≤ D) (A : Nat → Nat → Int32) (B : Nat → Nat → Int64) (hC : RfC b1 b2 b3 lc un D al t A B G) (hcl : p < D → ClL b1 b2 b3 D al t A p) (hbs : p < D → BsL b1 b2 b3 lc un D al t A B (p + 1)) :
    ∃ B', f_X7_goThrough N 44 (nI p) (nI 0) (mem A B G fl) = some (mem A B' G fl) ∧ WMo al p B B' ∧ BsL b1 b2 b3 lc un D al t A B' p := by
  have ht : t ≤ 24 := hH.1.2.2.2.2.2.2
  have hD : D ≤ 31 := hH.1.2.2.2.2.2.1
  have hal := hH.2.1
  have hw : waF al ≤ 24 ∧ wbF al ≤ 24 := by unfold waF wbF; constructor <;> split <;> omega
  have hA : GtA N fl G p 0 (waF al) (wbF al) t (fun A' B' => A' = A ∧ RfC b1 b2 b3 lc un D al t A B' G ∧ (p < D → BsL b1 b2 b3 lc un D al t A B' (p + 1))) (fun A B A' B' => A' = A ∧ WMo al p B B' ∧ ∀ j, B' 51 j = B 51 j ∨ ∃ a b c x, VT al t a b c x ∧ j = ixF al p a b c x ∧ B' 51 j = lN (bWF b1 b2 b3 lc un D p a b c (t - x))) (fun a b c x A B => A 52 (ixF al p a b c x) ≠ 0 → B 51 (ixF al p a b c x) = lN (bWF b1 b2 b3 lc un D p a b c (t - x))) := by
    refine ⟨?_, fun A B => ⟨rfl, ⟨fun _ _ => rfl, fun _ _ => rfl⟩, fun j => Or.inl rfl⟩, ?_, ?_, ht, hw.1, hw.2, hC.1, hN⟩
    · rintro a b c x A1 B q1 q2 q3 q4 ⟨rfl, hJ, hJ2⟩
      have hv : VT al t a b c x := (wVT hal).mp ⟨q1, q2, q3, q4⟩
      have hlt := hv.lt (p := p) ht hH.2.2.2.1 (fun q => by have := hH.2.2.1 q; omega) (by omega)
      have hst : ∀ k33 k42 k52 n, f_X7_goThrough_L62 N k33 k42 k52 (n + 1) 44 (nI p) (nI 0) (nI (waF al)) (nI (wbF al)) (nI a) (nI b) (nI c) (nI x) (mem A1 B G fl) = if A1 52 (ixF al p a b c x) = 0 then f_X7_goThrough_L62 N k33 k42 k52 n 44 (nI p) (nI 0) (nI (waF al)) (nI (wbF al)) (nI a) (nI b) (nI c) (nI (x + 1)) (mem A1 B G fl) else (f_X7_weigh N 44 (nI p) (nI a) (nI b) (nI c) (nI x) (mem A1 B G fl)).bind fun M => f_X7_goThrough_L62 N k33 k42 k52 n 44 (nI p) (nI 0) (nI (waF al)) (nI (wbF al)) (nI a) (nI b) (nI c) (nI (x + 1)) M := by
        intro k33 k42 k52 n
        rw [f_X7_goThrough_L62, gx_44_3, sb, hJ.1, if_neg (nI_ge q4 (by omega)), gx_44_12, sb, ck_44, sb, s_at hal hJ.2.1, b2s, ldZ_n (ly52 fl) hlt.1 (by decide), sb]
        by_cases h0 : A1 52 (ixF al p a b c x) = 0
        · rw [if_pos h0, if_pos h0, f_X7_goThrough_K125, nI_1]
        · rw [if_neg h0, if_neg h0, if_pos (show (nI 0 : Int32) = 0 from rfl), ck_44, sb]
          simp only [f_X7_goThrough_K125, nI_1]
      by_cases h0 : A1 52 (ixF al p a b c x) = 0
      · refine ⟨A1, B, fun k33 k42 k52 n => by rw [hst, if_pos h0], ⟨rfl, hJ, hJ2⟩, ⟨rfl, ⟨fun _ _ => rfl, fun _ _ => rfl⟩, fun j => Or.inl rfl⟩, fun q => absurd h0 q⟩
      · have hwf := s_weighF (fl := fl) (N := N) hN hH hJ hv hp (fun k m w1 w2 pD kR hz => by
          have hcl1 := hcl pD a b c x hv h0 k m w1 kR w2 hz
          have hb1 := hJ2 pD _ _ _ _ (hv.next (m := m) hH kR) hcl1
          rw [show t - (x + k) = t - x - k by omega, bW_eq hH.1 (by omega) (by omega) (by omega)] at hb1
          exact hb1)
        generalize hB1 : upA B 51 (vp_updL (B 51) (ixF al p a b c x) (lN (bWF b1 b2 b3 lc un D p a b c (t - x)))) = B1 at hwf
        have b0 : ∀ k, k ≠ 51 → B1 k = B k := fun k hk => by rw [← hB1, upA_ne _ _ _ hk]
        have b51 : B1 51 = vp_updL (B 51) (ixF al p a b c x) (lN (bWF b1 b2 b3 lc un D p a b c (t - x))) := by rw [← hB1, upA_same]
        have hlv := hv.lv (p := p) ht hH.2.2.2.1
        have hW : WMo al p B B1 := ⟨b0, fun j hj => by
          rw [b51, vpL_ne]
          intro q
          rw [q] at hj
          exact hj hlv⟩
        refine ⟨A1, B1, fun k33 k42 k52 n => by rw [hst, if_neg h0, hwf, sb], ⟨rfl, hJ.fr rfl (b0 53 (by omega)) rfl rfl rfl rfl, fun pD a' b' c' x' hv' hne' => ?_⟩, ⟨rfl, hW, fun j => ?_⟩, fun _ => by rw [b51, vpL_eq]⟩
        · rw [hW.2 _ (by rw [hv'.lv ht hH.2.2.2.1]; omega)]
          exact hJ2 pD a' b' c' x' hv' hne'
        · by_cases q : j = ixF al p a b c x
          · exact Or.inr ⟨a, b, c, x, hv, q, by rw [b51, q, vpL_eq]⟩
          · exact Or.inl (by rw [b51, vpL_ne _ _ _ q])
    · rintro A B A1 B1 A2 B2 ⟨rfl, h1, h2⟩ ⟨rfl, g1, g2⟩
      refine ⟨rfl, ⟨fun k hk => (g1.1 k hk).trans (h1.1 k hk), fun j hj => (g1.2 j hj).trans (h1.2 j hj)⟩, fun j => ?_⟩
      rcases g2 j with q | q
      · rcases h2 j with r | ⟨a, b, c, x, r1, r2, r3⟩
        · exact Or.inl (q.trans r)
        · exact Or.inr ⟨a, b, c, x, r1, r2, q.trans r3⟩
      · exact Or.inr q
    · rintro a b c x A B A1 B1 q1 q2 q3 q4 hd ⟨rfl, -, hm⟩ hne
      have hv : VT al t a b c x := (wVT hal).mp ⟨q1, q2, q3, q4⟩
      rcases hm (ixF al p a b c x) with q | ⟨a', b', c', x', r1, r2, r3⟩
      · rw [q]; exact hd hne
      · obtain ⟨rfl, rfl, rfl, rfl⟩ := VT.inj hv r1 ht hH.2.2.2.1 r2
        exact r3
  obtain ⟨A', B', e1, -, ⟨e3, e4, -⟩, e5⟩ := s_through hal hC.2.1 hA A B ⟨rfl, hC, hbs⟩
  subst e3
  exact ⟨B', e1, e4, fun a b c x hv => e5 a b c x hv⟩
end Gt
