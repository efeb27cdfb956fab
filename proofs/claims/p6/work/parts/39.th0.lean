/-! THE MODEL'S QUAY, as a function: what was told is kept, its row is laid -/
section MQ
theorem mq98 : ∀ (f i F : Nat) (li : Nat → Int32) (ll : Nat → Int64) (s : u_H), F ≤ 320 → s.1 65 18 = zi F → F - i ≤ f → i ≤ F → li 1 = zi i → ∃ (li2 : Nat → Int32) (s2 : u_H), u g_t275 98 (li, ll, [(0, 67)]) [] s = u g_t275 138 (li2, ll, [(0, 67)]) [] s2 ∧ li2 1 = zi 0 ∧ (∀ k, i ≤ k → k < F → s2.1 70 k = s.1 68 k ∧ s2.1 71 k = s.1 69 k) ∧ u_fr (fun o k => (o = 70 ∨ o = 71) ∧ i ≤ k) s s2 := by
  intro f
  have stop : ∀ (i F : Nat) (li : Nat → Int32) (ll : Nat → Int64) (s : u_H), F ≤ 320 → s.1 65 18 = zi F → i = F → li 1 = zi i → ∃ (li2 : Nat → Int32) (s2 : u_H), u g_t275 98 (li, ll, [(0, 67)]) [] s = u g_t275 138 (li2, ll, [(0, 67)]) [] s2 ∧ li2 1 = zi 0 ∧ (∀ k, i ≤ k → k < F → s2.1 70 k = s.1 68 k ∧ s2.1 71 k = s.1 69 k) ∧ u_fr (fun o k => (o = 70 ∨ o = 71) ∧ i ≤ k) s s2 := by
    intro i F li ll s hF h18 hi hl
    refine ⟨u_l1 li 1 (Int32.ofInt 0), s, ?_, u_l1E li 1 (Int32.ofInt 0), fun k a b => absurd b (by omega), u_fr.rf⟩
    rw [b_275_98, hl, h18, if_neg (by rw [zi_lt (by omega) (by omega)]; omega)]
  induction f with
  | zero =>
    intro i F li ll s hF h18 hf hi hl
    exact stop i F li ll s hF h18 (by omega) hl
  | succ f ih =>
    intro i F li ll s hF h18 hf hi hl
    by_cases q : i < F
    · have hin : u_in (zi i) 320 = true := (u_inz (by omega)).mpr (by omega)
      have hcl : (zi i).toNatClampNeg = i := zi_clamp (by omega)
      obtain ⟨li2, s2, e1, e2, e3, e4⟩ := ih (i + 1) F (u_l1 li 1 (zi (i + 1))) ll (y_u (y_u s.1 70 i (s.1 68 i)) 71 i (s.1 69 i), s.2) hF (by show y_u (y_u s.1 70 i (s.1 68 i)) 71 i (s.1 69 i) 65 18 = _; rw [y_uN (by omega), y_uN (by omega)]; exact h18) (by omega) (by omega) (u_l1E _ _ _)
      refine ⟨li2, s2, ?_, e2, fun k a b => ?_, ?_⟩
      · rw [b_275_98, hl, h18, if_pos ((zi_lt (by omega) (by omega)).mpr q), if_pos hin, if_pos hin, if_pos hin, if_pos hin, hcl, zi_one]
        exact e1
      · rcases Nat.lt_or_ge i k with z | z
        · obtain ⟨x1, x2⟩ := e3 k z b
          rw [x1, x2]
          show y_u (y_u s.1 70 i (s.1 68 i)) 71 i (s.1 69 i) 68 k = s.1 68 k ∧ y_u (y_u s.1 70 i (s.1 68 i)) 71 i (s.1 69 i) 69 k = s.1 69 k
          rw [y_uN (by omega), y_uN (by omega), y_uN (by omega), y_uN (by omega)]
          exact ⟨rfl, rfl⟩
        · have hk : k = i := by omega
          subst hk
          rw [e4.i (o := 70) (k := k) (fun x => absurd x.2 (by omega)), e4.i (o := 71) (k := k) (fun x => absurd x.2 (by omega))]
          show y_u (y_u s.1 70 k (s.1 68 k)) 71 k (s.1 69 k) 70 k = s.1 68 k ∧ y_u (y_u s.1 70 k (s.1 68 k)) 71 k (s.1 69 k) 71 k = s.1 69 k
          rw [y_uN (by omega), y_uE, y_uE]
          exact ⟨rfl, rfl⟩
      · exact (u_fr.wi (u_fr.wi (f := s.1) (r := s.2) u_fr.rf ⟨Or.inl rfl, Nat.le_refl _⟩) ⟨Or.inr rfl, Nat.le_refl _⟩).tr (e4.mono (fun o k x => ⟨x.1, Nat.le_of_succ_le x.2⟩))
    · exact stop i F li ll s hF h18 (by omega) hl
theorem mq138 : ∀ (f i a : Nat) (li : Nat → Int32) (ll : Nat → Int64) (s : u_H), a ≤ 5 → s.1 65 47 = zi a → a - i ≤ f → i ≤ a → li 1 = zi i → ∃ (li2 : Nat → Int32) (s2 : u_H), u g_t275 138 (li, ll, [(0, 67)]) [] s = u g_t275 178 (li2, ll, [(0, 67)]) [] s2 ∧ li2 1 = zi 0 ∧ (∀ k, i ≤ k → k < a → s2.1 80 k = s.1 75 k ∧ s2.1 81 k = s.1 76 k) ∧ u_fr (fun o k => (o = 80 ∨ o = 81) ∧ i ≤ k) s s2 := by
  intro f
  have stop : ∀ (i a : Nat) (li : Nat → Int32) (ll : Nat → Int64) (s : u_H), a ≤ 5 → s.1 65 47 = zi a → i = a → li 1 = zi i → ∃ (li2 : Nat → Int32) (s2 : u_H), u g_t275 138 (li, ll, [(0, 67)]) [] s = u g_t275 178 (li2, ll, [(0, 67)]) [] s2 ∧ li2 1 = zi 0 ∧ (∀ k, i ≤ k → k < a → s2.1 80 k = s.1 75 k ∧ s2.1 81 k = s.1 76 k) ∧ u_fr (fun o k => (o = 80 ∨ o = 81) ∧ i ≤ k) s s2 := by
    intro i a li ll s ha h47 hi hl
    refine ⟨u_l1 li 1 (Int32.ofInt 0), s, ?_, u_l1E li 1 (Int32.ofInt 0), fun k x b => absurd b (by omega), u_fr.rf⟩
    rw [b_275_138, hl, h47, if_neg (by rw [zi_lt (by omega) (by omega)]; omega)]
  induction f with
  | zero =>
    intro i a li ll s ha h47 hf hi hl
    exact stop i a li ll s ha h47 (by omega) hl
  | succ f ih =>
    intro i a li ll s ha h47 hf hi hl
    by_cases q : i < a
    · have hin : u_in (zi i) 5 = true := (u_inz (by omega)).mpr (by omega)
      have hcl : (zi i).toNatClampNeg = i := zi_clamp (by omega)
      obtain ⟨li2, s2, e1, e2, e3, e4⟩ := ih (i + 1) a (u_l1 li 1 (zi (i + 1))) ll (y_u (y_u s.1 80 i (s.1 75 i)) 81 i (s.1 76 i), s.2) ha (by show y_u (y_u s.1 80 i (s.1 75 i)) 81 i (s.1 76 i) 65 47 = _; rw [y_uN (by omega), y_uN (by omega)]; exact h47) (by omega) (by omega) (u_l1E _ _ _)
      refine ⟨li2, s2, ?_, e2, fun k x b => ?_, ?_⟩
      · rw [b_275_138, hl, h47, if_pos ((zi_lt (by omega) (by omega)).mpr q), if_pos hin, if_pos hin, if_pos hin, if_pos hin, hcl, zi_one]
        exact e1
      · rcases Nat.lt_or_ge i k with z | z
        · obtain ⟨x1, x2⟩ := e3 k z b
          rw [x1, x2]
          show y_u (y_u s.1 80 i (s.1 75 i)) 81 i (s.1 76 i) 75 k = s.1 75 k ∧ y_u (y_u s.1 80 i (s.1 75 i)) 81 i (s.1 76 i) 76 k = s.1 76 k
          rw [y_uN (by omega), y_uN (by omega), y_uN (by omega), y_uN (by omega)]
          exact ⟨rfl, rfl⟩
        · have hk : k = i := by omega
          subst hk
          rw [e4.i (o := 80) (k := k) (fun x => absurd x.2 (by omega)), e4.i (o := 81) (k := k) (fun x => absurd x.2 (by omega))]
          show y_u (y_u s.1 80 k (s.1 75 k)) 81 k (s.1 76 k) 80 k = s.1 75 k ∧ y_u (y_u s.1 80 k (s.1 75 k)) 81 k (s.1 76 k) 81 k = s.1 76 k
          rw [y_uN (by omega), y_uE, y_uE]
          exact ⟨rfl, rfl⟩
      · exact (u_fr.wi (u_fr.wi (f := s.1) (r := s.2) u_fr.rf ⟨Or.inl rfl, Nat.le_refl _⟩) ⟨Or.inr rfl, Nat.le_refl _⟩).tr (e4.mono (fun o k x => ⟨x.1, Nat.le_of_succ_le x.2⟩))
    · exact stop i a li ll s ha h47 (by omega) hl
/-- behind the rows of pairs -/
noncomputable def mqZ (s : u_H) : u_H := (y_u (y_u (y_u (y_u s.1 65 66 (Int32.ofInt 0)) 65 67 (Int32.ofInt 0)) 65 78 (Int32.ofInt 0)) 65 70 (Int32.ofInt 0), s.2)
theorem mq178 : ∀ (f i b : Nat) (li : Nat → Int32) (ll : Nat → Int64) (s : u_H), b ≤ 7 → s.1 65 48 = zi b → b - i ≤ f → i ≤ b → li 1 = zi i → ∃ (li2 : Nat → Int32) (s2 : u_H), (u g_t275 178 (li, ll, [(0, 67)]) [] s = u_bv (u_c 245 [.inr (.inr 67)] s2) fun s1 => u_bv (u_c 240 [.inr (.inr 67)] s1) fun s3 => u g_t275 258 (li2, ll, [(0, 67)]) [] (mqZ s3)) ∧ li2 1 = zi 0 ∧ (∀ k, i ≤ k → k < b → s2.1 82 k = s.1 77 k ∧ s2.1 83 k = s.1 78 k ∧ s2.1 84 k = s.1 79 k) ∧ u_fr (fun o k => (o = 82 ∨ o = 83 ∨ o = 84) ∧ i ≤ k) s s2 := by
  intro f
  have stop : ∀ (i b : Nat) (li : Nat → Int32) (ll : Nat → Int64) (s : u_H), b ≤ 7 → s.1 65 48 = zi b → i = b → li 1 = zi i → ∃ (li2 : Nat → Int32) (s2 : u_H), (u g_t275 178 (li, ll, [(0, 67)]) [] s = u_bv (u_c 245 [.inr (.inr 67)] s2) fun s1 => u_bv (u_c 240 [.inr (.inr 67)] s1) fun s3 => u g_t275 258 (li2, ll, [(0, 67)]) [] (mqZ s3)) ∧ li2 1 = zi 0 ∧ (∀ k, i ≤ k → k < b → s2.1 82 k = s.1 77 k ∧ s2.1 83 k = s.1 78 k ∧ s2.1 84 k = s.1 79 k) ∧ u_fr (fun o k => (o = 82 ∨ o = 83 ∨ o = 84) ∧ i ≤ k) s s2 := by
    intro i b li ll s hb h48 hi hl
    refine ⟨u_l1 li 1 (Int32.ofInt 0), s, ?_, u_l1E li 1 (Int32.ofInt 0), fun k x y => absurd y (by omega), u_fr.rf⟩
    rw [b_275_178, hl, h48, if_neg (by rw [zi_lt (by omega) (by omega)]; omega)]
    rfl
  induction f with
  | zero =>
    intro i b li ll s hb h48 hf hi hl
    exact stop i b li ll s hb h48 (by omega) hl
  | succ f ih =>
    intro i b li ll s hb h48 hf hi hl
    by_cases q : i < b
    · have hin : u_in (zi i) 7 = true := (u_inz (by omega)).mpr (by omega)
      have hin8 : u_in (zi i) 8 = true := (u_inz (by omega)).mpr (by omega)
      have hcl : (zi i).toNatClampNeg = i := zi_clamp (by omega)
      obtain ⟨li2, s2, e1, e2, e3, e4⟩ := ih (i + 1) b (u_l1 li 1 (zi (i + 1))) ll (y_u (y_u (y_u s.1 82 i (s.1 77 i)) 83 i (s.1 78 i)) 84 i (s.1 79 i), s.2) hb (by show y_u (y_u (y_u s.1 82 i (s.1 77 i)) 83 i (s.1 78 i)) 84 i (s.1 79 i) 65 48 = _; rw [y_uN (by omega), y_uN (by omega), y_uN (by omega)]; exact h48) (by omega) (by omega) (u_l1E _ _ _)
      refine ⟨li2, s2, ?_, e2, fun k x y => ?_, ?_⟩
      · rw [b_275_178, hl, h48, if_pos ((zi_lt (by omega) (by omega)).mpr q), if_pos hin, if_pos hin8, if_pos hin, if_pos hin8, if_pos hin, if_pos hin8, hcl, zi_one]
        exact e1
      · rcases Nat.lt_or_ge i k with z | z
        · obtain ⟨x1, x2, x3⟩ := e3 k z y
          rw [x1, x2, x3]
          show y_u (y_u (y_u s.1 82 i (s.1 77 i)) 83 i (s.1 78 i)) 84 i (s.1 79 i) 77 k = s.1 77 k ∧ y_u (y_u (y_u s.1 82 i (s.1 77 i)) 83 i (s.1 78 i)) 84 i (s.1 79 i) 78 k = s.1 78 k ∧ y_u (y_u (y_u s.1 82 i (s.1 77 i)) 83 i (s.1 78 i)) 84 i (s.1 79 i) 79 k = s.1 79 k
          refine ⟨?_, ?_, ?_⟩
          · rw [y_uN (by omega), y_uN (by omega), y_uN (by omega)]
          · rw [y_uN (by omega), y_uN (by omega), y_uN (by omega)]
          · rw [y_uN (by omega), y_uN (by omega), y_uN (by omega)]
        · have hk : k = i := by omega
          subst hk
          rw [e4.i (o := 82) (k := k) (fun x => absurd x.2 (by omega)), e4.i (o := 83) (k := k) (fun x => absurd x.2 (by omega)), e4.i (o := 84) (k := k) (fun x => absurd x.2 (by omega))]
          show y_u (y_u (y_u s.1 82 k (s.1 77 k)) 83 k (s.1 78 k)) 84 k (s.1 79 k) 82 k = s.1 77 k ∧ y_u (y_u (y_u s.1 82 k (s.1 77 k)) 83 k (s.1 78 k)) 84 k (s.1 79 k) 83 k = s.1 78 k ∧ y_u (y_u (y_u s.1 82 k (s.1 77 k)) 83 k (s.1 78 k)) 84 k (s.1 79 k) 84 k = s.1 79 k
          refine ⟨?_, ?_, ?_⟩
          · rw [y_uN (by omega), y_uN (by omega), y_uE]
          · rw [y_uN (by omega), y_uE]
          · rw [y_uE]
      · exact (u_fr.wi (u_fr.wi (u_fr.wi (f := s.1) (r := s.2) u_fr.rf ⟨Or.inl rfl, Nat.le_refl _⟩) ⟨Or.inr (Or.inl rfl), Nat.le_refl _⟩) ⟨Or.inr (Or.inr rfl), Nat.le_refl _⟩).tr (e4.mono (fun o k x => ⟨x.1, Nat.le_of_succ_le x.2⟩))
    · exact stop i b li ll s hb h48 (by omega) hl
/-- the row at hand is kept -/
theorem m240_2 : ∀ (f i : Nat) (li : Nat → Int32) (ll : Nat → Int64) (s : u_H), 28 - i ≤ f → i ≤ 28 → li 1 = zi i → ∃ s2, u g_t240 2 (li, ll, [(0, 67)]) [] s = some (none, s2) ∧ (∀ k, i ≤ k → k < 28 → s2.1 85 k = s.1 86 k) ∧ u_fr (fun o k => o = 85 ∧ i ≤ k) s s2 := by
  intro f
  have stop : ∀ (i : Nat) (li : Nat → Int32) (ll : Nat → Int64) (s : u_H), i = 28 → li 1 = zi i → ∃ s2, u g_t240 2 (li, ll, [(0, 67)]) [] s = some (none, s2) ∧ (∀ k, i ≤ k → k < 28 → s2.1 85 k = s.1 86 k) ∧ u_fr (fun o k => o = 85 ∧ i ≤ k) s s2 := by
    intro i li ll s hi hl
    refine ⟨s, ?_, fun k x y => absurd y (by omega), u_fr.rf⟩
    rw [b_240_2, hl, hi, if_neg (show ¬ zi 28 < Int32.ofInt 28 by decide)]
  induction f with
  | zero =>
    intro i li ll s hf hi hl
    exact stop i li ll s (by omega) hl
  | succ f ih =>
    intro i li ll s hf hi hl
    by_cases q : i < 28
    · have hin : u_in (zi i) 28 = true := (u_inz (by omega)).mpr (by omega)
      have hcl : (zi i).toNatClampNeg = i := zi_clamp (by omega)
      obtain ⟨s2, e1, e3, e4⟩ := ih (i + 1) (u_l1 li 1 (zi (i + 1))) ll (y_u s.1 85 i (s.1 86 i), s.2) (by omega) (by omega) (u_l1E _ _ _)
      refine ⟨s2, ?_, fun k x y => ?_, ?_⟩
      · rw [b_240_2, hl, if_pos (show zi i < Int32.ofInt 28 from (zi_lt (b := 28) (by omega) (by omega)).mpr q), if_pos hin, if_pos hin, hcl, zi_one]
        exact e1
      · rcases Nat.lt_or_ge i k with z | z
        · rw [e3 k z y]
          show y_u s.1 85 i (s.1 86 i) 86 k = s.1 86 k
          rw [y_uN (by omega)]
        · have hk : k = i := by omega
          subst hk
          rw [e4.i (o := 85) (k := k) (fun x => absurd x.2 (by omega))]
          show y_u s.1 85 k (s.1 86 k) 85 k = s.1 86 k
          rw [y_uE]
      · exact (u_fr.wi (f := s.1) (r := s.2) u_fr.rf ⟨rfl, Nat.le_refl _⟩).tr (e4.mono (fun o k x => ⟨x.1, Nat.le_of_succ_le x.2⟩))
    · exact stop i li ll s (by omega) hl
theorem m_240 (s : u_H) : ∃ s2, u_c 240 [.inr (.inr 67)] s = some (none, s2) ∧ (∀ k, k < 28 → s2.1 85 k = s.1 86 k) ∧ u_fr (fun o _ => o = 85) s s2 := by
  obtain ⟨s2, e1, e2, e3⟩ := m240_2 28 0 (u_l1 u_z1 1 (Int32.ofInt 0)) u_z2 s (by omega) (by omega) (u_l1E u_z1 1 _)
  refine ⟨s2, ?_, fun k hk => e2 k (Nat.zero_le _) hk, e3.mono (fun o k x => x.1)⟩
  rw [b_240]
  exact e1
/-- nothing is thought of -/
def f177 (o k : Nat) : Prop := (o = 65 ∧ (k = 27 ∨ k = 28 ∨ k = 29 ∨ k = 59 ∨ k = 62)) ∨ o = 87 ∨ o = 88 ∨ o = 89 ∨ o = 90
theorem m177_55 : ∀ (f i : Nat) (li : Nat → Int32) (ll : Nat → Int64) (s : u_H), 8 - i ≤ f → i ≤ 8 → li 1 = zi i → ∃ s2, u g_t177 55 (li, ll, [(0, 67)]) [] s = some (none, s2) ∧ u_fr f177 s s2 := by
  intro f
  have stop : ∀ (i : Nat) (li : Nat → Int32) (ll : Nat → Int64) (s : u_H), i = 8 → li 1 = zi i → ∃ s2, u g_t177 55 (li, ll, [(0, 67)]) [] s = some (none, s2) ∧ u_fr f177 s s2 := by
    intro i li ll s hi hl
    refine ⟨(y_u s.1 65 62 (Int32.ofInt 0), s.2), ?_, u_fr.wi (f := s.1) (r := s.2) u_fr.rf (by unfold f177; omega)⟩
    rw [b_177_55, hl, hi, if_pos (show Int32.ofInt 7 < zi 8 by decide)]
  induction f with
  | zero =>
    intro i li ll s hf hi hl
    exact stop i li ll s (by omega) hl
  | succ f ih =>
    intro i li ll s hf hi hl
    by_cases q : i < 8
    · have hin : u_in (zi i) 8 = true := (u_inz (by omega)).mpr (by omega)
      have hcl : (zi i).toNatClampNeg = i := zi_clamp (by omega)
      obtain ⟨s2, e1, e2⟩ := ih (i + 1) (u_l1 li 1 (zi (i + 1))) ll (y_u (y_u s.1 89 i (u_k (-1))) 90 i (u_k (-1)), s.2) (by omega) (by omega) (u_l1E _ _ _)
      refine ⟨s2, ?_, (u_fr.wi (u_fr.wi (f := s.1) (r := s.2) u_fr.rf (by unfold f177; omega)) (by unfold f177; omega)).tr e2⟩
      rw [b_177_55, hl, if_neg (show ¬ Int32.ofInt 7 < zi i from fun e => by have := (zi_lt (a := 7) (b := i) (by omega) (by omega)).mp e; omega), if_pos hin, if_pos hin, hcl, zi_one]
      exact e1
    · exact stop i li ll s (by omega) hl
theorem m177_28 : ∀ (f i : Nat) (li : Nat → Int32) (ll : Nat → Int64) (s : u_H), 3 - i ≤ f → i ≤ 3 → li 1 = zi i → ∃ s2, u g_t177 28 (li, ll, [(0, 67)]) [] s = some (none, s2) ∧ u_fr f177 s s2 := by
  intro f
  have stop : ∀ (i : Nat) (li : Nat → Int32) (ll : Nat → Int64) (s : u_H), i = 3 → li 1 = zi i → ∃ s2, u g_t177 28 (li, ll, [(0, 67)]) [] s = some (none, s2) ∧ u_fr f177 s s2 := by
    intro i li ll s hi hl
    obtain ⟨s2, e1, e2⟩ := m177_55 8 0 (u_l1 li 1 (Int32.ofInt 0)) ll s (by omega) (by omega) (u_l1E li 1 _)
    refine ⟨s2, ?_, e2⟩
    rw [b_177_28, hl, hi, if_neg (show ¬ zi 3 < Int32.ofInt 3 by decide)]
    exact e1
  induction f with
  | zero =>
    intro i li ll s hf hi hl
    exact stop i li ll s (by omega) hl
  | succ f ih =>
    intro i li ll s hf hi hl
    by_cases q : i < 3
    · have hin : u_in (zi i) 3 = true := (u_inz (by omega)).mpr (by omega)
      have hcl : (zi i).toNatClampNeg = i := zi_clamp (by omega)
      obtain ⟨s2, e1, e2⟩ := ih (i + 1) (u_l1 li 1 (zi (i + 1))) ll (y_u (y_u s.1 87 i (Int32.ofInt 0)) 88 i (Int32.ofInt 0), s.2) (by omega) (by omega) (u_l1E _ _ _)
      refine ⟨s2, ?_, (u_fr.wi (u_fr.wi (f := s.1) (r := s.2) u_fr.rf (by unfold f177; omega)) (by unfold f177; omega)).tr e2⟩
      rw [b_177_28, hl, if_pos (show zi i < Int32.ofInt 3 from (zi_lt (b := 3) (by omega) (by omega)).mpr q), if_pos hin, if_pos hin, hcl, zi_one]
      exact e1
    · exact stop i li ll s (by omega) hl
theorem m_177 (s : u_H) : ∃ s2, u_c 177 [.inr (.inr 67)] s = some (none, s2) ∧ u_fr f177 s s2 := by
  obtain ⟨s2, e1, e2⟩ := m177_28 3 0 (u_l1 u_z1 1 (Int32.ofInt 0)) u_z2 (y_u (y_u (y_u (y_u s.1 65 27 (s.1 65 49)) 65 28 (s.1 65 50)) 65 29 (u_k (-1))) 65 59 (Int32.ofInt 0), s.2) (by omega) (by omega) (u_l1E u_z1 1 _)
  refine ⟨s2, ?_, (u_fr.wi (u_fr.wi (u_fr.wi (u_fr.wi (f := s.1) (r := s.2) u_fr.rf (by unfold f177; omega)) (by unfold f177; omega)) (by unfold f177; omega)) (by unfold f177; omega)).tr e2⟩
  rw [b_177]
  exact e1
/-- the row is laid as told -/
theorem m245_2 : ∀ (f i : Nat) (li : Nat → Int32) (ll : Nat → Int64) (s : u_H), 28 - i ≤ f → i ≤ 28 → li 1 = zi i → ∃ (li2 : Nat → Int32) (s2 : u_H), u g_t245 2 (li, ll, [(0, 67)]) [] s = u g_t245 23 (li2, ll, [(0, 67)]) [] s2 ∧ li2 1 = zi 0 ∧ (∀ k, i ≤ k → k < 28 → s2.1 86 k = Int32.ofInt 0) ∧ u_fr (fun o k => o = 86 ∧ i ≤ k) s s2 := by
  intro f
  have stop : ∀ (i : Nat) (li : Nat → Int32) (ll : Nat → Int64) (s : u_H), i = 28 → li 1 = zi i → ∃ (li2 : Nat → Int32) (s2 : u_H), u g_t245 2 (li, ll, [(0, 67)]) [] s = u g_t245 23 (li2, ll, [(0, 67)]) [] s2 ∧ li2 1 = zi 0 ∧ (∀ k, i ≤ k → k < 28 → s2.1 86 k = Int32.ofInt 0) ∧ u_fr (fun o k => o = 86 ∧ i ≤ k) s s2 := by
    intro i li ll s hi hl
    refine ⟨u_l1 li 1 (Int32.ofInt 0), s, ?_, u_l1E li 1 (Int32.ofInt 0), fun k x y => absurd y (by omega), u_fr.rf⟩
    rw [b_245_2, hl, hi, if_neg (show ¬ zi 28 < Int32.ofInt 28 by decide)]
  induction f with
  | zero =>
    intro i li ll s hf hi hl
    exact stop i li ll s (by omega) hl
  | succ f ih =>
    intro i li ll s hf hi hl
    by_cases q : i < 28
    · have hin : u_in (zi i) 28 = true := (u_inz (by omega)).mpr (by omega)
      have hcl : (zi i).toNatClampNeg = i := zi_clamp (by omega)
      obtain ⟨li2, s2, e1, e2, e3, e4⟩ := ih (i + 1) (u_l1 li 1 (zi (i + 1))) ll (y_u s.1 86 i (Int32.ofInt 0), s.2) (by omega) (by omega) (u_l1E _ _ _)
      refine ⟨li2, s2, ?_, e2, fun k x y => ?_, ?_⟩
      · rw [b_245_2, hl, if_pos (show zi i < Int32.ofInt 28 from (zi_lt (b := 28) (by omega) (by omega)).mpr q), if_pos hin, hcl, zi_one]
        exact e1
      · rcases Nat.lt_or_ge i k with z | z
        · exact e3 k z y
        · have hk : k = i := by omega
          subst hk
          rw [e4.i (o := 86) (k := k) (fun x => absurd x.2 (by omega))]
          show y_u s.1 86 k (Int32.ofInt 0) 86 k = Int32.ofInt 0
          rw [y_uE]
      · exact (u_fr.wi (f := s.1) (r := s.2) u_fr.rf ⟨rfl, Nat.le_refl _⟩).tr (e4.mono (fun o k x => ⟨x.1, Nat.le_of_succ_le x.2⟩))
    · exact stop i li ll s (by omega) hl
theorem m245_23 : ∀ (f i b : Nat) (li : Nat → Int32) (ll : Nat → Int64) (s : u_H), b ≤ 7 → s.1 65 48 = zi b → b - i ≤ f → i ≤ b → li 1 = zi i → ∃ (li2 : Nat → Int32) (s2 : u_H), u g_t245 23 (li, ll, [(0, 67)]) [] s = u g_t245 46 (li2, ll, [(0, 67)]) [] s2 ∧ li2 1 = zi 0 ∧ (∀ k, i ≤ k → k < b → s2.1 86 k = zi k) ∧ u_fr (fun o k => o = 86 ∧ i ≤ k ∧ k < b) s s2 := by
  intro f
  have stop : ∀ (i b : Nat) (li : Nat → Int32) (ll : Nat → Int64) (s : u_H), b ≤ 7 → s.1 65 48 = zi b → i = b → li 1 = zi i → ∃ (li2 : Nat → Int32) (s2 : u_H), u g_t245 23 (li, ll, [(0, 67)]) [] s = u g_t245 46 (li2, ll, [(0, 67)]) [] s2 ∧ li2 1 = zi 0 ∧ (∀ k, i ≤ k → k < b → s2.1 86 k = zi k) ∧ u_fr (fun o k => o = 86 ∧ i ≤ k ∧ k < b) s s2 := by
    intro i b li ll s hb h48 hi hl
    refine ⟨u_l1 li 1 (Int32.ofInt 0), s, ?_, u_l1E li 1 (Int32.ofInt 0), fun k x y => absurd y (by omega), u_fr.rf⟩
    rw [b_245_23, hl, h48, if_neg (by rw [zi_lt (by omega) (by omega)]; omega)]
  induction f with
  | zero =>
    intro i b li ll s hb h48 hf hi hl
    exact stop i b li ll s hb h48 (by omega) hl
  | succ f ih =>
    intro i b li ll s hb h48 hf hi hl
    by_cases q : i < b
    · have hin : u_in (zi i) 28 = true := (u_inz (by omega)).mpr (by omega)
      have hcl : (zi i).toNatClampNeg = i := zi_clamp (by omega)
      obtain ⟨li2, s2, e1, e2, e3, e4⟩ := ih (i + 1) b (u_l1 li 1 (zi (i + 1))) ll (y_u s.1 86 i (zi i), s.2) hb (by show y_u s.1 86 i (zi i) 65 48 = _; rw [y_uN (by omega)]; exact h48) (by omega) (by omega) (u_l1E _ _ _)
      refine ⟨li2, s2, ?_, e2, fun k x y => ?_, ?_⟩
      · rw [b_245_23, hl, h48, if_pos ((zi_lt (by omega) (by omega)).mpr q), if_pos hin, hcl, zi_one]
        exact e1
      · rcases Nat.lt_or_ge i k with z | z
        · exact e3 k z y
        · have hk : k = i := by omega
          subst hk
          rw [e4.i (o := 86) (k := k) (fun x => absurd x.2.1 (by omega))]
          show y_u s.1 86 k (zi k) 86 k = zi k
          rw [y_uE]
      · exact (u_fr.wi (f := s.1) (r := s.2) u_fr.rf ⟨rfl, Nat.le_refl _, q⟩).tr (e4.mono (fun o k x => ⟨x.1, Nat.le_of_succ_le x.2.1, x.2.2⟩))
    · exact stop i b li ll s hb h48 (by omega) hl
end MQ
