/-! NOTHING IS THOUGHT OF, all of it; whether the quay is empty: both sides -/
section EMPTY
variable {W : Nat}
theorem m177b : ∀ (f i : Nat) (li : Nat → Int32) (ll : Nat → Int64) (s : u_H), 8 - i ≤ f → i ≤ 8 → li 1 = zi i → ∃ s2, u g_t177 55 (li, ll, [(0, 67)]) [] s = some (none, s2) ∧ s2.1 65 62 = Int32.ofInt 0 ∧ (∀ k, i ≤ k → k < 8 → s2.1 89 k = u_k (-1) ∧ s2.1 90 k = u_k (-1)) ∧ u_fr (fun o k => (o = 65 ∧ k = 62) ∨ ((o = 89 ∨ o = 90) ∧ i ≤ k)) s s2 := by
  intro f
  have stop : ∀ (i : Nat) (li : Nat → Int32) (ll : Nat → Int64) (s : u_H), i = 8 → li 1 = zi i → ∃ s2, u g_t177 55 (li, ll, [(0, 67)]) [] s = some (none, s2) ∧ s2.1 65 62 = Int32.ofInt 0 ∧ (∀ k, i ≤ k → k < 8 → s2.1 89 k = u_k (-1) ∧ s2.1 90 k = u_k (-1)) ∧ u_fr (fun o k => (o = 65 ∧ k = 62) ∨ ((o = 89 ∨ o = 90) ∧ i ≤ k)) s s2 := by
    intro i li ll s hi hl
    refine ⟨(y_u s.1 65 62 (Int32.ofInt 0), s.2), ?_, (by first | exact y_uE _ _ _ _ | (dsimp only; exact y_uE _ _ _ _)), fun k x y => absurd y (by omega), u_fr.wi (f := s.1) (r := s.2) u_fr.rf (Or.inl ⟨rfl, rfl⟩)⟩
    rw [b_177_55, hl, hi, if_pos (show Int32.ofInt 7 < zi 8 by decide)]
  induction f with
  | zero =>
    intro i li ll s hf hi hl
    exact stop i li ll s (by omega) hl
  | succ f ih =>
    intro i li ll s hf hi hl
    by_cases q : i < 8
    · have hin : u_in (zi i) 8 = true := (u_inz (by omega)).mpr (by omega)
      have hcl : (zi i).toNatClampNeg = i := zi_clamp (by omega)
      obtain ⟨s2, e1, e2, e3, e4⟩ := ih (i + 1) (u_l1 li 1 (zi (i + 1))) ll (y_u (y_u s.1 89 i (u_k (-1))) 90 i (u_k (-1)), s.2) (by omega) (by omega) (u_l1E _ _ _)
      refine ⟨s2, ?_, e2, fun k x y => ?_, ?_⟩
      · rw [b_177_55, hl, if_neg (show ¬ Int32.ofInt 7 < zi i from fun e => by have := (zi_lt (a := 7) (b := i) (by omega) (by omega)).mp e; omega), if_pos hin, if_pos hin, hcl, zi_one]
        exact e1
      · rcases Nat.lt_or_ge i k with w | w
        · exact e3 k w y
        · have hk : k = i := by omega
          subst hk
          rw [e4.i (o := 89) (k := k) (fun x => by omega), e4.i (o := 90) (k := k) (fun x => by omega)]
          show y_u (y_u s.1 89 k (u_k (-1))) 90 k (u_k (-1)) 89 k = u_k (-1) ∧ y_u (y_u s.1 89 k (u_k (-1))) 90 k (u_k (-1)) 90 k = u_k (-1)
          rw [y_uN (by omega), y_uE, y_uE]
          exact ⟨rfl, rfl⟩
      · exact (u_fr.wi (u_fr.wi (f := s.1) (r := s.2) u_fr.rf (Or.inr ⟨Or.inl rfl, Nat.le_refl _⟩)) (Or.inr ⟨Or.inr rfl, Nat.le_refl _⟩)).tr (e4.mono (fun o k x => by omega))
    · exact stop i li ll s (by omega) hl
theorem m177c : ∀ (f i : Nat) (li : Nat → Int32) (ll : Nat → Int64) (s : u_H), 3 - i ≤ f → i ≤ 3 → li 1 = zi i → ∃ s2, u g_t177 28 (li, ll, [(0, 67)]) [] s = some (none, s2) ∧ s2.1 65 62 = Int32.ofInt 0 ∧ (∀ k, k < 8 → s2.1 89 k = u_k (-1) ∧ s2.1 90 k = u_k (-1)) ∧ (∀ r, i ≤ r → r < 3 → s2.1 87 r = Int32.ofInt 0 ∧ s2.1 88 r = Int32.ofInt 0) ∧ u_fr (fun o k => (o = 65 ∧ k = 62) ∨ o = 89 ∨ o = 90 ∨ ((o = 87 ∨ o = 88) ∧ i ≤ k)) s s2 := by
  intro f
  have stop : ∀ (i : Nat) (li : Nat → Int32) (ll : Nat → Int64) (s : u_H), i = 3 → li 1 = zi i → ∃ s2, u g_t177 28 (li, ll, [(0, 67)]) [] s = some (none, s2) ∧ s2.1 65 62 = Int32.ofInt 0 ∧ (∀ k, k < 8 → s2.1 89 k = u_k (-1) ∧ s2.1 90 k = u_k (-1)) ∧ (∀ r, i ≤ r → r < 3 → s2.1 87 r = Int32.ofInt 0 ∧ s2.1 88 r = Int32.ofInt 0) ∧ u_fr (fun o k => (o = 65 ∧ k = 62) ∨ o = 89 ∨ o = 90 ∨ ((o = 87 ∨ o = 88) ∧ i ≤ k)) s s2 := by
    intro i li ll s hi hl
    obtain ⟨s2, e1, e2, e3, e4⟩ := m177b 8 0 (u_l1 li 1 (Int32.ofInt 0)) ll s (by omega) (by omega) (u_l1E li 1 _)
    refine ⟨s2, ?_, e2, fun k hk => e3 k (Nat.zero_le _) hk, fun r x y => absurd y (by omega), e4.mono (fun o k x => by omega)⟩
    rw [b_177_28, hl, hi, if_neg (show ¬ zi 3 < Int32.ofInt 3 by decide)]
    exact e1
  induction f with
  | zero =>
    intro i li ll s hf hi hl
    exact stop i li ll s (by omega) hl
  | succ f ih =>
    intro i li ll s hf hi hl
    by_cases q : i < 3
    · have hin : u_in (zi i) 3 = true := (u_inz (by omega)).mpr (by omega)
      have hcl : (zi i).toNatClampNeg = i := zi_clamp (by omega)
      obtain ⟨s2, e1, e2, e3, e4, e5⟩ := ih (i + 1) (u_l1 li 1 (zi (i + 1))) ll (y_u (y_u s.1 87 i (Int32.ofInt 0)) 88 i (Int32.ofInt 0), s.2) (by omega) (by omega) (u_l1E _ _ _)
      refine ⟨s2, ?_, e2, e3, fun r x y => ?_, ?_⟩
      · rw [b_177_28, hl, if_pos (show zi i < Int32.ofInt 3 from (zi_lt (b := 3) (by omega) (by omega)).mpr q), if_pos hin, if_pos hin, hcl, zi_one]
        exact e1
      · rcases Nat.lt_or_ge i r with w | w
        · exact e4 r w y
        · have hk : r = i := by omega
          subst hk
          rw [e5.i (o := 87) (k := r) (fun x => by omega), e5.i (o := 88) (k := r) (fun x => by omega)]
          show y_u (y_u s.1 87 r (Int32.ofInt 0)) 88 r (Int32.ofInt 0) 87 r = Int32.ofInt 0 ∧ y_u (y_u s.1 87 r (Int32.ofInt 0)) 88 r (Int32.ofInt 0) 88 r = Int32.ofInt 0
          rw [y_uN (by omega), y_uE, y_uE]
          exact ⟨rfl, rfl⟩
      · exact (u_fr.wi (u_fr.wi (f := s.1) (r := s.2) u_fr.rf (Or.inr (Or.inr (Or.inr ⟨Or.inl rfl, Nat.le_refl _⟩)))) (Or.inr (Or.inr (Or.inr ⟨Or.inr rfl, Nat.le_refl _⟩)))).tr (e5.mono (fun o k x => by omega))
    · exact stop i li ll s (by omega) hl
/-- nothing is thought of -/
def tN (g g2 : Nat → Nat → Int32) : Prop := g2 65 27 = g 65 49 ∧ g2 65 28 = g 65 50 ∧ g2 65 29 = u_k (-1) ∧ g2 65 59 = Int32.ofInt 0 ∧ g2 65 62 = Int32.ofInt 0 ∧ (∀ k, k < 8 → g2 89 k = u_k (-1) ∧ g2 90 k = u_k (-1)) ∧ ∀ r, r < 3 → g2 87 r = 0 ∧ g2 88 r = 0
theorem m_asTold (s : u_H) : ∃ s2, u_c 177 [.inr (.inr 67)] s = some (none, s2) ∧ tN s.1 s2.1 ∧ u_fr f177 s s2 := by
  obtain ⟨s2, e1, e2, e3, e4, e5⟩ := m177c 3 0 (u_l1 u_z1 1 (Int32.ofInt 0)) u_z2 (y_u (y_u (y_u (y_u s.1 65 27 (s.1 65 49)) 65 28 (s.1 65 50)) 65 29 (u_k (-1))) 65 59 (Int32.ofInt 0), s.2) (by omega) (by omega) (u_l1E u_z1 1 _)
  have n : ∀ k, k ≠ 62 → s2.1 65 k = y_u (y_u (y_u (y_u s.1 65 27 (s.1 65 49)) 65 28 (s.1 65 50)) 65 29 (u_k (-1))) 65 59 (Int32.ofInt 0) 65 k := fun k hk => e5.i (fun x => by omega)
  refine ⟨s2, ?_, ⟨?_, ?_, ?_, ?_, e2, e3, fun r hr => e4 r (Nat.zero_le _) hr⟩, (u_fr.wi (u_fr.wi (u_fr.wi (u_fr.wi (f := s.1) (r := s.2) u_fr.rf (by unfold f177; omega)) (by unfold f177; omega)) (by unfold f177; omega)) (by unfold f177; omega)).tr (e5.mono (fun o k x => by unfold f177; omega))⟩
  · rw [b_177]
    exact e1
  · exact (n 27 (by omega)).trans rfl
  · exact (n 28 (by omega)).trans rfl
  · exact (n 29 (by omega)).trans rfl
  · exact (n 59 (by omega)).trans rfl
/-- the model's row gone on with, and nothing thought of -/
theorem m203b : ∀ (f i : Nat) (li : Nat → Int32) (ll : Nat → Int64) (s : u_H), 28 - i ≤ f → i ≤ 28 → li 1 = zi i → ∃ s2, u g_t203 2 (li, ll, [(0, 67)]) [] s = some (none, s2) ∧ (∀ k, i ≤ k → k < 28 → s2.1 86 k = s.1 85 k) ∧ tN s.1 s2.1 ∧ u_fr (fun o k => (o = 86 ∧ i ≤ k) ∨ f177 o k) s s2 := by
  intro f
  have n86 : ∀ k, ¬ f177 86 k := fun k x => by
    unfold f177 at x
    omega
  have stop : ∀ (i : Nat) (li : Nat → Int32) (ll : Nat → Int64) (s : u_H), i = 28 → li 1 = zi i → ∃ s2, u g_t203 2 (li, ll, [(0, 67)]) [] s = some (none, s2) ∧ (∀ k, i ≤ k → k < 28 → s2.1 86 k = s.1 85 k) ∧ tN s.1 s2.1 ∧ u_fr (fun o k => (o = 86 ∧ i ≤ k) ∨ f177 o k) s s2 := by
    intro i li ll s hi hl
    obtain ⟨s2, e1, e3, e2⟩ := m_asTold s
    refine ⟨s2, ?_, fun k x y => absurd y (by omega), e3, e2.mono (fun o k x => Or.inr x)⟩
    rw [b_203_2, hl, hi, if_neg (show ¬ zi 28 < Int32.ofInt 28 by decide), e1, u_bvS]
  induction f with
  | zero =>
    intro i li ll s hf hi hl
    exact stop i li ll s (by omega) hl
  | succ f ih =>
    intro i li ll s hf hi hl
    by_cases q : i < 28
    · have hin : u_in (zi i) 28 = true := (u_inz (by omega)).mpr (by omega)
      have hcl : (zi i).toNatClampNeg = i := zi_clamp (by omega)
      obtain ⟨s2, e1, e3, e5, e4⟩ := ih (i + 1) (u_l1 li 1 (zi (i + 1))) ll (y_u s.1 86 i (s.1 85 i), s.2) (by omega) (by omega) (u_l1E _ _ _)
      refine ⟨s2, ?_, fun k x y => ?_, ?_, ?_⟩
      · rw [b_203_2, hl, if_pos (show zi i < Int32.ofInt 28 from (zi_lt (b := 28) (by omega) (by omega)).mpr q), if_pos hin, if_pos hin, hcl, zi_one]
        exact e1
      · rcases Nat.lt_or_ge i k with z | z
        · rw [e3 k z y]
          show y_u s.1 86 i (s.1 85 i) 85 k = s.1 85 k
          rw [y_uN (by omega)]
        · have hk : k = i := by omega
          subst hk
          rw [e4.i (o := 86) (k := k) (fun x => by rcases x with x | x; exact absurd x.2 (by omega); exact n86 k x)]
          exact y_uE s.1 86 k _
      · obtain ⟨t1, t2, t3, t4, t5, t6, t7⟩ := e5
        exact ⟨t1.trans rfl, t2.trans rfl, t3, t4, t5, t6, t7⟩
      · refine (u_fr.wi (f := s.1) (r := s.2) u_fr.rf (Or.inl ⟨rfl, Nat.le_refl _⟩)).tr (e4.mono (fun o k x => ?_))
        rcases x with x | x
        · exact Or.inl ⟨x.1, Nat.le_of_succ_le x.2⟩
        · exact Or.inr x
    · exact stop i li ll s (by omega) hl
theorem m_fillT (s : u_H) : ∃ s2, u_c 203 [.inr (.inr 67)] s = some (none, s2) ∧ (∀ k, k < 28 → s2.1 86 k = s.1 85 k) ∧ tN s.1 s2.1 ∧ u_fr (fun o k => o = 86 ∨ f177 o k) s s2 := by
  obtain ⟨s2, e1, e2, e4, e3⟩ := m203b 28 0 (u_l1 u_z1 1 (Int32.ofInt 0)) u_z2 s (by omega) (by omega) (u_l1E u_z1 1 _)
  refine ⟨s2, ?_, fun k hk => e2 k (Nat.zero_le _) hk, e4, e3.mono (fun o k x => by rcases x with x | x; exact Or.inl x.1; exact Or.inr x)⟩
  rw [b_203]
  exact e1
/-! whether it is empty -/
theorem c144_it {r : Nat} (hr : r < 2) {li : Nat → Int32} {ll : Nat → Int64} {s : u_H} (h2 : li 2 = zi r) (y : Bool) (h1 : li 1 = zb y) : u g_t144 4 (li, ll, [(0, 30)]) [] s = u g_t144 4 (u_l1 (u_l1 li 1 (zb (y && decide (s.1 31 r = u_k (-1))))) 2 (zi (r + 1)), ll, [(0, 30)]) [] s := by
  have h : zi r < Int32.ofInt 2 := (zi_lt (b := 2) (by omega) (by omega)).mpr hr
  have hin : u_in (zi r) 2 = true := (u_inz (by omega)).mpr hr
  have hcl : (zi r).toNatClampNeg = r := zi_clamp (by omega)
  cases y with
  | false =>
    rw [b_144_4, h2, if_pos h, h1, if_pos zb_no, zi_one]
    rfl
  | true =>
    by_cases q : s.1 31 r = u_k (-1)
    · rw [b_144_4, h2, if_pos h, h1, if_neg zb_yes, if_pos hin, hcl, if_pos q, zi_one, decide_eq_true q]
      rfl
    · rw [b_144_4, h2, if_pos h, h1, if_neg zb_yes, if_pos hin, hcl, if_neg q, zi_one, decide_eq_false q]
      rfl
theorem c_emp {z : Nat} (hz : z ≤ 7) {s : u_H} (h1 : s.1 28 1 = zi z) : u_c 144 [.inr (.inr 30)] s = some (some (.inl (zb (decide (s.1 31 0 = u_k (-1)) && decide (s.1 31 1 = u_k (-1)) && decide (z = 0)))), s) := by
  rw [b_144, c144_it (r := 0) (by omega) rfl true rfl, c144_it (r := 1) (by omega) (u_l1E _ _ _) (true && decide (s.1 31 0 = u_k (-1))) (by rw [u_l1N (by omega), u_l1E]), b_144_4, u_l1E, if_neg (show ¬ zi (1 + 1) < Int32.ofInt 2 by decide), u_l1N (by omega), u_l1E, Bool.true_and]
  cases hq : decide (s.1 31 0 = u_k (-1)) && decide (s.1 31 1 = u_k (-1)) with
  | false =>
    rw [if_pos zb_no, Bool.false_and]
    rfl
  | true =>
    rw [if_neg zb_yes, h1, Bool.true_and]
    by_cases e : z = 0
    · rw [if_pos (show zi z = 0 by rw [e]; rfl), decide_eq_true e]
      rfl
    · rw [if_neg (fun q => e ((zi_eq0 (by omega)).mp q)), decide_eq_false e]
      rfl
/-- a RAIL of the model's, free or not -/
theorem m_free {r : Nat} (hr : r < 3) {s : u_H} (h : s.1 86 (18 + r) = u_k (-1) ∨ ∃ p, p < 7 ∧ s.1 86 (18 + r) = zi p) : u_c 227 [.inr (.inr 67), .inl (zi r)] s = some (some (.inl (zb (decide (s.1 86 (18 + r) = u_k (-1))))), s) := by
  rw [b_227, show Int32.ofInt 18 = zi 18 from rfl, zi_add, if_pos ((u_inz (by omega)).mpr (by omega)), zi_clamp (by omega)]
  rcases h with h | ⟨p, hp, h⟩
  · rw [h, if_pos zk_neg, decide_eq_true rfl]
    rfl
  · rw [h, if_neg (zi_nonneg (by omega)), decide_eq_false (zi_n0 (by omega))]
    rfl
theorem m226_it {r R : Nat} (hr : r < R) (hR : R ≤ 2) {lj : Nat → Int32} {lm : Nat → Int64} {s : u_H} (h28 : s.1 65 28 = zi R) (h : s.1 86 (18 + r) = u_k (-1) ∨ ∃ p, p < 7 ∧ s.1 86 (18 + r) = zi p) (h2 : lj 2 = zi r) (y : Bool) (h1 : lj 1 = zb y) : u g_t226 15 (lj, lm, [(0, 67)]) [] s = u g_t226 15 (u_l1 (u_l1 lj 1 (zb (y && decide (s.1 86 (18 + r) = u_k (-1))))) 2 (zi (r + 1)), lm, [(0, 67)]) [] s := by
  have hlt : zi r < zi R := (zi_lt (by omega) (by omega)).mpr hr
  cases y with
  | false =>
    rw [b_226_15, h2, h28, if_pos hlt, h1, if_pos zb_no, zi_one]
    rfl
  | true =>
    rw [b_226_15, h2, h28, if_pos hlt, h1, if_neg zb_yes, m_free (by omega) h, u_biS, zi_one]
    by_cases q : s.1 86 (18 + r) = u_k (-1)
    · rw [decide_eq_true q, if_neg zb_yes]
      rfl
    · rw [decide_eq_false q, if_pos zb_no]
      rfl
theorem m_emp {z R : Nat} (hz : z ≤ 7) (hR1 : 1 ≤ R) (hR : R ≤ 2) {s : u_H} (h1 : s.1 86 8 = zi z) (h28 : s.1 65 28 = zi R) (h : ∀ r, r < 2 → s.1 86 (18 + r) = u_k (-1) ∨ ∃ p, p < 7 ∧ s.1 86 (18 + r) = zi p) (hno : R = 1 → s.1 86 19 = u_k (-1)) : u_c 226 [.inr (.inr 67)] s = some (some (.inl (zb (decide (s.1 86 18 = u_k (-1)) && decide (s.1 86 19 = u_k (-1)) && decide (z = 0)))), s) := by
  have start : u_c 226 [.inr (.inr 67)] s = u g_t226 15 (u_l1 (u_l1 u_z1 1 (zb (decide (z = 0)))) 2 (Int32.ofInt 0), u_z2, [(0, 67)]) [] s := by
    rw [b_226, b_277, u_biS, h1]
    by_cases e : z = 0
    · rw [if_pos (show zi z = 0 by rw [e]; rfl), decide_eq_true e]
      rfl
    · rw [if_neg (fun q => e ((zi_eq0 (by omega)).mp q)), decide_eq_false e]
      rfl
  have fin : ∀ (y : Bool) (lj : Nat → Int32), lj 1 = zb y → lj 2 = zi R → u g_t226 15 (lj, u_z2, [(0, 67)]) [] s = some (some (.inl (zb y)), s) := by
    intro y lj e1 e2
    rw [b_226_15, e2, h28, if_neg (by rw [zi_lt (by omega) (by omega)]; omega), e1, if_pos (by cases y <;> decide)]
  rw [start, m226_it (r := 0) (by omega) hR h28 (h 0 (by omega)) rfl (decide (z = 0)) rfl]
  rcases (show R = 1 ∨ R = 2 by omega) with e | e
  · rw [fin (decide (z = 0) && decide (s.1 86 (18 + 0) = u_k (-1))) _ (by rw [u_l1N (by omega), u_l1E]) (by rw [u_l1E, e]), decide_eq_true (hno e), Bool.and_true, Bool.and_comm]
  · rw [m226_it (r := 1) (by omega) hR h28 (h 1 (by omega)) (u_l1E _ _ _) (decide (z = 0) && decide (s.1 86 (18 + 0) = u_k (-1))) (by rw [u_l1N (by omega), u_l1E]), fin (decide (z = 0) && decide (s.1 86 (18 + 0) = u_k (-1)) && decide (s.1 86 (18 + 1) = u_k (-1))) _ (by rw [u_l1N (by omega), u_l1E]) (by rw [u_l1E, e]), Bool.and_assoc, Bool.and_comm]
/-- whether it is empty: alike -/
theorem emp_alike {a b R w : Nat} {c : List Int} {l : Bool} {sC sM : u_H} (J : jR W a b R w c l sC sM) : ∃ y : Bool, u_c 144 [.inr (.inr 30)] sC = some (some (.inl (zb y)), sC) ∧ u_c 226 [.inr (.inr 67)] sM = some (some (.inl (zb y)), sM) := by
  obtain ⟨J1, J2, J3⟩ := J
  have hb : b ≤ 7 := J2.1.2.1
  obtain ⟨z, z1, z2, z3⟩ := aQ_n J3.1
  obtain ⟨L1, L2, L3, L4⟩ := J3.2.2.2
  have h14 : ∀ r, r < 2 → sC.1 31 r = sM.1 86 (18 + r) := fun r hr => (nRp hr).symm.trans (L1 r hr).1
  have hr : ∀ r, r < 2 → sM.1 86 (18 + r) = u_k (-1) ∨ ∃ p, p < 7 ∧ sM.1 86 (18 + r) = zi p := fun r hr => by
    rcases (L1 r hr).2.2 with x | ⟨x, p, t, x1, x2, x3, x4, x5, x6⟩
    · exact Or.inl ((L1 r hr).1.symm.trans x)
    · exact Or.inr ⟨p, by omega, (L1 r hr).1.symm.trans x4⟩
  refine ⟨_, c_emp (by omega) (show sC.1 28 1 = zi z from z2), ?_⟩
  rw [m_emp (z := z) (R := R) (by omega) J2.1.2.2.1 J2.1.2.2.2 z3 J2.2.1.2.2.2.2.2.1 hr (fun e => by
    rcases (L1 1 (by omega)).2.2 with x | ⟨x, -⟩
    · exact (L1 1 (by omega)).1.symm.trans x
    · omega), ← h14 0 (by omega), ← h14 1 (by omega)]
end EMPTY
