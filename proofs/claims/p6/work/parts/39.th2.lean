/-! THE CLASS'S STATE, as begun -/
section CB
variable {W : Nat}
/-- what State.begin leaves, of b pairs and the draw d -/
def nB (g : Nat → Nat → Int32) (b d : Int32) : Prop := (g 28 1 = b ∧ g 28 3 = Int32.ofInt 0 ∧ g 28 6 = Int32.ofInt 0 ∧ g 28 7 = Int32.ofInt 0 ∧ g 28 8 = Int32.ofInt 0 ∧ g 28 9 = d) ∧ (∀ k, k < 7 → g 29 k = zi k ∧ g 30 k = Int32.ofInt 0) ∧ ∀ k, k < 2 → g 31 k = u_k (-1) ∧ g 32 k = Int32.ofInt 0
theorem c139_38 (hW : W = 5 ∨ W = 17) : ∀ (f i : Nat) (li : Nat → Int32) (ll : Nat → Int64) (s : u_H), 2 - i ≤ f → i ≤ 2 → li 2 = zi i → ∃ s2, u g_t139 38 (li, ll, [(1, W), (0, 30)]) [] s = some (none, s2) ∧ (∀ k, i ≤ k → k < 2 → s2.1 31 k = u_k (-1) ∧ s2.1 32 k = Int32.ofInt 0) ∧ (s2.1 28 3 = Int32.ofInt 0 ∧ s2.1 28 6 = Int32.ofInt 0 ∧ s2.1 28 7 = Int32.ofInt 0 ∧ s2.1 28 8 = Int32.ofInt 0 ∧ s2.1 28 9 = s.1 (W - 2) 12) ∧ u_fr (fun o k => ((o = 31 ∨ o = 32) ∧ i ≤ k) ∨ (o = 28 ∧ k ≠ 1)) s s2 := by
  intro f
  have stop : ∀ (i : Nat) (li : Nat → Int32) (ll : Nat → Int64) (s : u_H), i = 2 → li 2 = zi i → ∃ s2, u g_t139 38 (li, ll, [(1, W), (0, 30)]) [] s = some (none, s2) ∧ (∀ k, i ≤ k → k < 2 → s2.1 31 k = u_k (-1) ∧ s2.1 32 k = Int32.ofInt 0) ∧ (s2.1 28 3 = Int32.ofInt 0 ∧ s2.1 28 6 = Int32.ofInt 0 ∧ s2.1 28 7 = Int32.ofInt 0 ∧ s2.1 28 8 = Int32.ofInt 0 ∧ s2.1 28 9 = s.1 (W - 2) 12) ∧ u_fr (fun o k => ((o = 31 ∨ o = 32) ∧ i ≤ k) ∨ (o = 28 ∧ k ≠ 1)) s s2 := by
    intro i li ll s hi hl
    refine ⟨(y_u (y_u (y_u (y_u (y_u s.1 28 3 (Int32.ofInt 0)) 28 6 (Int32.ofInt 0)) 28 7 (Int32.ofInt 0)) 28 8 (Int32.ofInt 0)) 28 9 (s.1 (W - 2) 12), s.2), ?_, fun k x y => absurd y (by omega), ⟨rfl, rfl, rfl, rfl, rfl⟩, ?_⟩
    · rw [b_139_38 hW, hl, hi, if_neg (show ¬ zi 2 < Int32.ofInt 2 by decide)]
    · exact u_fr.wi (u_fr.wi (u_fr.wi (u_fr.wi (u_fr.wi (f := s.1) (r := s.2) u_fr.rf (Or.inr ⟨rfl, by omega⟩)) (Or.inr ⟨rfl, by omega⟩)) (Or.inr ⟨rfl, by omega⟩)) (Or.inr ⟨rfl, by omega⟩)) (Or.inr ⟨rfl, by omega⟩)
  induction f with
  | zero =>
    intro i li ll s hf hi hl
    exact stop i li ll s (by omega) hl
  | succ f ih =>
    intro i li ll s hf hi hl
    by_cases q : i < 2
    · have hin : u_in (zi i) 2 = true := (u_inz (by omega)).mpr (by omega)
      have hcl : (zi i).toNatClampNeg = i := zi_clamp (by omega)
      obtain ⟨s2, e1, e3, e4, e5⟩ := ih (i + 1) (u_l1 li 2 (zi (i + 1))) ll (y_u (y_u s.1 31 i (u_k (-1))) 32 i (Int32.ofInt 0), s.2) (by omega) (by omega) (u_l1E _ _ _)
      have w : ∀ o k, o ≠ 31 → o ≠ 32 → y_u (y_u s.1 31 i (u_k (-1))) 32 i (Int32.ofInt 0) o k = s.1 o k := fun o k x y => (y_uN (by omega)).trans (y_uN (by omega))
      refine ⟨s2, ?_, fun k x y => ?_, ⟨e4.1, e4.2.1, e4.2.2.1, e4.2.2.2.1, e4.2.2.2.2.trans (w (W - 2) 12 (by omega) (by omega))⟩, ?_⟩
      · rw [b_139_38 hW, hl, if_pos (show zi i < Int32.ofInt 2 from (zi_lt (b := 2) (by omega) (by omega)).mpr q), if_pos hin, if_pos hin, hcl, zi_one]
        exact e1
      · rcases Nat.lt_or_ge i k with z | z
        · exact e3 k z y
        · have hk : k = i := by omega
          subst hk
          rw [e5.i (o := 31) (k := k) (fun x => by rcases x with x | x; exact absurd x.2 (by omega); exact absurd x.1 (by omega)), e5.i (o := 32) (k := k) (fun x => by rcases x with x | x; exact absurd x.2 (by omega); exact absurd x.1 (by omega))]
          show y_u (y_u s.1 31 k (u_k (-1))) 32 k (Int32.ofInt 0) 31 k = u_k (-1) ∧ y_u (y_u s.1 31 k (u_k (-1))) 32 k (Int32.ofInt 0) 32 k = Int32.ofInt 0
          rw [y_uN (by omega), y_uE, y_uE]
          exact ⟨rfl, rfl⟩
      · refine (u_fr.wi (u_fr.wi (f := s.1) (r := s.2) u_fr.rf (Or.inl ⟨Or.inl rfl, Nat.le_refl _⟩)) (Or.inl ⟨Or.inr rfl, Nat.le_refl _⟩)).tr (e5.mono (fun o k x => ?_))
        rcases x with x | x
        · exact Or.inl ⟨x.1, Nat.le_of_succ_le x.2⟩
        · exact Or.inr x
    · exact stop i li ll s (by omega) hl
theorem c139_10 (hW : W = 5 ∨ W = 17) : ∀ (f i : Nat) (li : Nat → Int32) (ll : Nat → Int64) (s : u_H), 7 - i ≤ f → i ≤ 7 → li 2 = zi i → ∃ (li2 : Nat → Int32) (s2 : u_H), u g_t139 10 (li, ll, [(1, W), (0, 30)]) [] s = u g_t139 38 (li2, ll, [(1, W), (0, 30)]) [] s2 ∧ li2 2 = zi 0 ∧ (∀ k, i ≤ k → k < 7 → s2.1 29 k = zi k ∧ s2.1 30 k = Int32.ofInt 0) ∧ u_fr (fun o k => (o = 29 ∨ o = 30) ∧ i ≤ k) s s2 := by
  intro f
  have stop : ∀ (i : Nat) (li : Nat → Int32) (ll : Nat → Int64) (s : u_H), i = 7 → li 2 = zi i → ∃ (li2 : Nat → Int32) (s2 : u_H), u g_t139 10 (li, ll, [(1, W), (0, 30)]) [] s = u g_t139 38 (li2, ll, [(1, W), (0, 30)]) [] s2 ∧ li2 2 = zi 0 ∧ (∀ k, i ≤ k → k < 7 → s2.1 29 k = zi k ∧ s2.1 30 k = Int32.ofInt 0) ∧ u_fr (fun o k => (o = 29 ∨ o = 30) ∧ i ≤ k) s s2 := by
    intro i li ll s hi hl
    refine ⟨u_l1 li 2 (Int32.ofInt 0), s, ?_, u_l1E li 2 (Int32.ofInt 0), fun k x y => absurd y (by omega), u_fr.rf⟩
    rw [b_139_10 hW, hl, hi, if_neg (show ¬ zi 7 < Int32.ofInt 7 by decide)]
  induction f with
  | zero =>
    intro i li ll s hf hi hl
    exact stop i li ll s (by omega) hl
  | succ f ih =>
    intro i li ll s hf hi hl
    by_cases q : i < 7
    · have hin : u_in (zi i) 7 = true := (u_inz (by omega)).mpr (by omega)
      have hcl : (zi i).toNatClampNeg = i := zi_clamp (by omega)
      obtain ⟨li2, s2, e1, e2, e3, e4⟩ := ih (i + 1) (u_l1 li 2 (zi (i + 1))) ll (y_u (y_u s.1 29 i (zi i)) 30 i (Int32.ofInt 0), s.2) (by omega) (by omega) (u_l1E _ _ _)
      refine ⟨li2, s2, ?_, e2, fun k x y => ?_, ?_⟩
      · rw [b_139_10 hW, hl, if_pos (show zi i < Int32.ofInt 7 from (zi_lt (b := 7) (by omega) (by omega)).mpr q), if_pos hin, if_pos hin, hcl, zi_one]
        exact e1
      · rcases Nat.lt_or_ge i k with z | z
        · exact e3 k z y
        · have hk : k = i := by omega
          subst hk
          rw [e4.i (o := 29) (k := k) (fun x => absurd x.2 (by omega)), e4.i (o := 30) (k := k) (fun x => absurd x.2 (by omega))]
          show y_u (y_u s.1 29 k (zi k)) 30 k (Int32.ofInt 0) 29 k = zi k ∧ y_u (y_u s.1 29 k (zi k)) 30 k (Int32.ofInt 0) 30 k = Int32.ofInt 0
          rw [y_uN (by omega), y_uE, y_uE]
          exact ⟨rfl, rfl⟩
      · exact (u_fr.wi (u_fr.wi (f := s.1) (r := s.2) u_fr.rf ⟨Or.inl rfl, Nat.le_refl _⟩) ⟨Or.inr rfl, Nat.le_refl _⟩).tr (e4.mono (fun o k x => ⟨x.1, Nat.le_of_succ_le x.2⟩))
    · exact stop i li ll s (by omega) hl
theorem c_begin (hW : W = 5 ∨ W = 17) (s : u_H) : ∃ s2, u_c 139 [.inr (.inr 30), .inr (.inr W)] s = some (none, s2) ∧ nB s2.1 (s.1 (W - 2) 4) (s.1 (W - 2) 12) ∧ u_fr (fun o _ => 28 ≤ o ∧ o ≤ 32) s s2 := by
  obtain ⟨l2, s1, e1, e2, e3, e4⟩ := c139_10 hW 7 0 (u_l1 u_z1 2 (Int32.ofInt 0)) u_z2 (y_u s.1 28 1 (s.1 (W - 2) 4), s.2) (by omega) (by omega) (u_l1E u_z1 2 _)
  obtain ⟨s2, g1, g2, ⟨g3, g4, g5, g6, g7⟩, g8⟩ := c139_38 hW 2 0 l2 u_z2 s1 (by omega) (by omega) e2
  have w : ∀ o k, o ≠ 28 → o ≠ 29 → o ≠ 30 → s1.1 o k = s.1 o k := by
    intro o k x y z
    rw [e4.i (fun q => by rcases q.1 with q | q; exact y q; exact z q)]
    show y_u s.1 28 1 (s.1 (W - 2) 4) o k = s.1 o k
    rw [y_uN (by omega)]
  have n29 : ∀ o k, (o = 29 ∨ o = 30) → s2.1 o k = s1.1 o k := fun o k h => g8.i (fun q => by rcases q with q | q; have := q.1; omega; have := q.1; omega)
  refine ⟨s2, ?_, ⟨⟨?_, g3, g4, g5, g6, ?_⟩, fun k hk => ?_, fun k hk => g2 k (Nat.zero_le _) hk⟩, ?_⟩
  · rw [b_139 hW, e1, g1]
  · rw [g8.i (o := 28) (k := 1) (fun q => by rcases q with q | q; have := q.1; omega; exact q.2 rfl), e4.i (o := 28) (k := 1) (fun q => by have := q.1; omega)]
    exact y_uE s.1 28 1 _
  · rw [g7, w (W - 2) 12 (by omega) (by omega) (by omega)]
  · rw [n29 29 k (Or.inl rfl), n29 30 k (Or.inr rfl)]
    exact e3 k (Nat.zero_le _) hk
  · refine (u_fr.wi (f := s.1) (r := s.2) u_fr.rf ⟨by omega, by omega⟩).tr ((e4.mono (fun o k q => ?_)).tr (g8.mono (fun o k q => ?_)))
    · have := q.1
      show 28 ≤ o ∧ o ≤ 32
      omega
    · show 28 ≤ o ∧ o ≤ 32
      rcases q with q | q
      · have := q.1
        omega
      · have := q.1
        omega
end CB
