/-! AN ACT IS KEPT, in the model; the past, alike -/
section PAST
variable {W : Nat}
theorem m175_11 : ∀ (f i : Nat) (li : Nat → Int32) (ll : Nat → Int64) (s : u_H), 1092 - i ≤ f → i ≤ 1092 → s.1 65 66 = zi 40 → li 1 = zi i → ∃ (li2 : Nat → Int32) (s2 : u_H), u g_t175 11 (li, ll, [(0, 67)]) [] s = u g_t175 51 (li2, ll, [(0, 67)]) [] s2 ∧ li2 1 = zi 0 ∧ s2.1 65 66 = zi 39 ∧ (∀ k, i ≤ k → k < 1092 → s2.1 91 k = s.1 91 (28 + k)) ∧ u_fr (fun o k => (o = 91 ∧ i ≤ k ∧ k < 1092) ∨ (o = 65 ∧ k = 66)) s s2 := by
  intro f
  have k1092 : u_k 1092 = zi 1092 := u_kz 1092
  have stop : ∀ (i : Nat) (li : Nat → Int32) (ll : Nat → Int64) (s : u_H), i = 1092 → s.1 65 66 = zi 40 → li 1 = zi i → ∃ (li2 : Nat → Int32) (s2 : u_H), u g_t175 11 (li, ll, [(0, 67)]) [] s = u g_t175 51 (li2, ll, [(0, 67)]) [] s2 ∧ li2 1 = zi 0 ∧ s2.1 65 66 = zi 39 ∧ (∀ k, i ≤ k → k < 1092 → s2.1 91 k = s.1 91 (28 + k)) ∧ u_fr (fun o k => (o = 91 ∧ i ≤ k ∧ k < 1092) ∨ (o = 65 ∧ k = 66)) s s2 := by
    intro i li ll s hi h66 hl
    refine ⟨u_l1 li 1 (Int32.ofInt 0), (y_u s.1 65 66 (zi 39), s.2), ?_, u_l1E _ _ _, (by first | exact y_uE _ _ _ _ | (dsimp only; exact y_uE _ _ _ _)), fun k x y => absurd y (by omega), u_fr.wi (f := s.1) (r := s.2) u_fr.rf (Or.inr ⟨rfl, rfl⟩)⟩
    rw [b_175_11, hl, k1092, hi, if_neg (by rw [zi_lt (by omega) (by omega)]; omega), h66, show Int32.ofInt 1 = zi 1 from rfl, zi_sub (by omega)]
  induction f with
  | zero =>
    intro i li ll s hf hi h66 hl
    exact stop i li ll s (by omega) h66 hl
  | succ f ih =>
    intro i li ll s hf hi h66 hl
    by_cases q : i < 1092
    · have hin : u_in (zi i) 1120 = true := (u_inz (by omega)).mpr (by omega)
      have hin2 : u_in (zi (28 + i)) 1120 = true := (u_inz (by omega)).mpr (by omega)
      have hcl : (zi i).toNatClampNeg = i := zi_clamp (by omega)
      have hcl2 : (zi (28 + i)).toNatClampNeg = 28 + i := zi_clamp (by omega)
      obtain ⟨li2, s2, e1, e2, e3, e4, e5⟩ := ih (i + 1) (u_l1 li 1 (zi (i + 1))) ll (y_u s.1 91 i (s.1 91 (28 + i)), s.2) (by omega) (by omega) (by dsimp only; rw [y_uN (by omega)]; exact h66) (u_l1E _ _ _)
      refine ⟨li2, s2, ?_, e2, e3, fun k x y => ?_, ?_⟩
      · rw [b_175_11, hl, k1092, if_pos ((zi_lt (by omega) (by omega)).mpr q), show Int32.ofInt 28 = zi 28 from rfl, zi_add, if_pos hin2, if_pos hin, hcl, hcl2, zi_one]
        exact e1
      · rcases Nat.lt_or_ge i k with z | z
        · rw [e4 k z y]
          exact y_uN (by omega)
        · have hk : k = i := by omega
          subst hk
          rw [e5.i (o := 91) (k := k) (fun x => by omega)]
          exact y_uE s.1 91 k _
      · exact (u_fr.wi (f := s.1) (r := s.2) u_fr.rf (Or.inl ⟨rfl, Nat.le_refl _, q⟩)).tr (e5.mono (fun o k x => by omega))
    · exact stop i li ll s (by omega) h66 hl
/-- what an act's keeping writes in the model -/
def fAm (o k : Nat) : Prop := o = 91 ∨ (o = 65 ∧ (k = 66 ∨ k = 67)) ∨ o = 86 ∨ f177 o k
theorem m175_51 {U : Nat} (hU : U < 40) : ∀ (f i : Nat) (li : Nat → Int32) (ll : Nat → Int64) (s : u_H), 28 - i ≤ f → i ≤ 28 → s.1 65 66 = zi U → li 1 = zi i → ∃ s2, u g_t175 51 (li, ll, [(0, 67)]) [] s = some (none, s2) ∧ s2.1 65 66 = zi (U + 1) ∧ s2.1 65 67 = Int32.ofInt 0 ∧ (∀ k, i ≤ k → k < 28 → s2.1 91 (28 * U + k) = s.1 85 k) ∧ (∀ k, (k < 28 * U + i ∨ 28 * U + 28 ≤ k) → s2.1 91 k = s.1 91 k) ∧ (∀ k, k < 28 → s2.1 86 k = s.1 85 k) ∧ tN s.1 s2.1 ∧ u_fr fAm s s2 := by
  intro f
  have stop : ∀ (i : Nat) (li : Nat → Int32) (ll : Nat → Int64) (s : u_H), i = 28 → s.1 65 66 = zi U → li 1 = zi i → ∃ s2, u g_t175 51 (li, ll, [(0, 67)]) [] s = some (none, s2) ∧ s2.1 65 66 = zi (U + 1) ∧ s2.1 65 67 = Int32.ofInt 0 ∧ (∀ k, i ≤ k → k < 28 → s2.1 91 (28 * U + k) = s.1 85 k) ∧ (∀ k, (k < 28 * U + i ∨ 28 * U + 28 ≤ k) → s2.1 91 k = s.1 91 k) ∧ (∀ k, k < 28 → s2.1 86 k = s.1 85 k) ∧ tN s.1 s2.1 ∧ u_fr fAm s s2 := by
    intro i li ll s hi h66 hl
    obtain ⟨s2, e1, e2, e3, e4⟩ := m_fillT (y_u (y_u s.1 65 66 (zi (U + 1))) 65 67 (Int32.ofInt 0), s.2)
    have n : ∀ o k, o ≠ 86 → ¬ f177 o k → s2.1 o k = y_u (y_u s.1 65 66 (zi (U + 1))) 65 67 (Int32.ofInt 0) o k := fun o k x y => e4.i (fun q => by rcases q with q | q; exact x q; exact y q)
    refine ⟨s2, ?_, ?_, ?_, fun k x y => absurd y (by omega), fun k x => ?_, fun k hk => ?_, ?_, ?_⟩
    · rw [b_175_51, hl, hi, if_neg (show ¬ zi 28 < Int32.ofInt 28 by decide), h66, zi_one, e1, u_bvS]
    · rw [n 65 66 (by omega) (by unfold f177; omega), y_uN (by omega), y_uE]
    · rw [n 65 67 (by omega) (by unfold f177; omega), y_uE]
    · rw [n 91 k (by omega) (by unfold f177; omega), y_uN (by omega), y_uN (by omega)]
    · rw [e2 k hk]
      show y_u (y_u s.1 65 66 (zi (U + 1))) 65 67 (Int32.ofInt 0) 85 k = _
      rw [y_uN (by omega), y_uN (by omega)]
    · obtain ⟨t1, t2, t3, t4, t5, t6, t7⟩ := e3
      exact ⟨t1.trans rfl, t2.trans rfl, t3, t4, t5, t6, t7⟩
    · refine (u_fr.wi (u_fr.wi (f := s.1) (r := s.2) u_fr.rf (Or.inr (Or.inl ⟨rfl, Or.inl rfl⟩))) (Or.inr (Or.inl ⟨rfl, Or.inr rfl⟩))).tr (e4.mono (fun o k q => ?_))
      rcases q with q | q
      · exact Or.inr (Or.inr (Or.inl q))
      · exact Or.inr (Or.inr (Or.inr q))
  induction f with
  | zero =>
    intro i li ll s hf hi h66 hl
    exact stop i li ll s (by omega) h66 hl
  | succ f ih =>
    intro i li ll s hf hi h66 hl
    by_cases q : i < 28
    · have hin : u_in (zi i) 28 = true := (u_inz (by omega)).mpr (by omega)
      have hin2 : u_in (zi (28 * U + i)) 1120 = true := (u_inz (by omega)).mpr (by omega)
      have hcl : (zi i).toNatClampNeg = i := zi_clamp (by omega)
      have hcl2 : (zi (28 * U + i)).toNatClampNeg = 28 * U + i := zi_clamp (by omega)
      have w : ∀ o k, ¬ (o = 91 ∧ k = 28 * U + i) → y_u s.1 91 (28 * U + i) (s.1 85 i) o k = s.1 o k := fun o k x => y_uN x
      obtain ⟨s2, e1, e2, e3, e4, e5, e6, e7, e8⟩ := ih (i + 1) (u_l1 li 1 (zi (i + 1))) ll (y_u s.1 91 (28 * U + i) (s.1 85 i), s.2) (by omega) (by omega) ((w _ _ (by omega)).trans h66) (u_l1E _ _ _)
      refine ⟨s2, ?_, e2, e3, fun k x y => ?_, fun k x => ?_, fun k hk => (e6 k hk).trans (w 85 k (by omega)), ?_, ?_⟩
      · rw [b_175_51, hl, if_pos (show zi i < Int32.ofInt 28 from (zi_lt (b := 28) (by omega) (by omega)).mpr q), if_pos hin, h66, show Int32.ofInt 28 = zi 28 from rfl, zi_mul, zi_add, if_pos hin2, hcl, hcl2, zi_one]
        exact e1
      · rcases Nat.lt_or_ge i k with z | z
        · exact (e4 k z y).trans (w 85 k (by omega))
        · have hk : k = i := by omega
          subst hk
          rw [e5 (28 * U + k) (by omega)]
          exact y_uE s.1 91 _ _
      · rw [e5 k (by omega)]
        exact w 91 k (by omega)
      · obtain ⟨t1, t2, t3, t4, t5, t6, t7⟩ := e7
        exact ⟨t1.trans (w 65 49 (by omega)), t2.trans (w 65 50 (by omega)), t3, t4, t5, t6, t7⟩
      · exact (u_fr.wi (f := s.1) (r := s.2) u_fr.rf (Or.inl rfl)).tr e8
    · exact stop i li ll s (by omega) h66 hl
/-- act() -/
theorem m_act {U : Nat} (hU : U ≤ 40) {s : u_H} (h66 : s.1 65 66 = zi U) : ∃ U2 s2, u_c 175 [.inr (.inr 67)] s = some (none, s2) ∧ ((U < 40 ∧ U2 = U + 1) ∨ (U = 40 ∧ U2 = 40)) ∧ s2.1 65 66 = zi U2 ∧ s2.1 65 67 = Int32.ofInt 0 ∧ (∀ k, k < 28 → s2.1 91 (28 * (U2 - 1) + k) = s.1 85 k) ∧ (∀ i k, i < U2 - 1 → k < 28 → s2.1 91 (28 * i + k) = s.1 91 (28 * (i + (U + 1 - U2)) + k)) ∧ (∀ k, k < 28 → s2.1 86 k = s.1 85 k) ∧ tN s.1 s2.1 ∧ u_fr fAm s s2 := by
  rcases Nat.lt_or_ge U 40 with q | q
  · obtain ⟨s2, e1, e2, e3, e4, e5, e6, e7, e8⟩ := m175_51 q 28 0 (u_l1 u_z1 1 (Int32.ofInt 0)) u_z2 s (by omega) (Nat.zero_le _) h66 (u_l1E _ _ _)
    refine ⟨U + 1, s2, ?_, Or.inl ⟨q, rfl⟩, e2, e3, fun k hk => ?_, fun i k hi hk => ?_, e6, e7, e8⟩
    · rw [b_175, h66, if_neg (fun e => by have := (zi_inj (b := 40) (by omega) (by omega)).mp e; omega)]
      exact e1
    · rw [Nat.add_sub_cancel]
      exact e4 k (Nat.zero_le _) hk
    · rw [show i + (U + 1 - (U + 1)) = i by omega]
      exact e5 _ (by omega)
  · have e40 : U = 40 := by omega
    subst e40
    obtain ⟨l1, s1, g1, g2, g3, g4, g5⟩ := m175_11 1092 0 (u_l1 u_z1 1 (Int32.ofInt 0)) u_z2 s (by omega) (Nat.zero_le _) h66 (u_l1E _ _ _)
    obtain ⟨s2, e1, e2, e3, e4, e5, e6, e7, e8⟩ := m175_51 (U := 39) (by omega) 28 0 l1 u_z2 s1 (by omega) (Nat.zero_le _) g3 g2
    have n85 : ∀ k, s1.1 85 k = s.1 85 k := fun k => g5.i (fun x => by omega)
    refine ⟨40, s2, ?_, Or.inr ⟨rfl, rfl⟩, e2, e3, fun k hk => ?_, fun i k hi hk => ?_, fun k hk => (e6 k hk).trans (n85 k), ?_, ?_⟩
    · rw [b_175, h66, if_pos (show zi 40 = Int32.ofInt 40 from rfl), g1, e1]
    · exact (e4 k (Nat.zero_le _) hk).trans (n85 k)
    · rw [e5 _ (by omega), g4 _ (Nat.zero_le _) (by omega), show 28 + (28 * i + k) = 28 * (i + (40 + 1 - 40)) + k by omega]
    · obtain ⟨t1, t2, t3, t4, t5, t6, t7⟩ := e7
      exact ⟨t1.trans (g5.i (fun x => by omega)), t2.trans (g5.i (fun x => by omega)), t3, t4, t5, t6, t7⟩
    · refine (g5.mono (fun o k x => ?_)).tr e8
      rcases x with x | x
      · exact Or.inl x.1
      · exact Or.inr (Or.inl ⟨x.1, Or.inl x.2⟩)
/-- the model's row of the past: before the place U those behind, at it what is now, behind it those that can come again -/
def mP (g : Nat → Nat → Int32) (U i k : Nat) : Int32 := if i = U then g 85 k else g 91 (28 * (if i < U then i else i - 1) + k)
/-- the past, alike: U acts to undo, D to redo -/
def aP (b R : Nat) (f g : Nat → Nat → Int32) : Prop := ∃ O U D, O < 41 ∧ U + D ≤ 40 ∧ (f 33 1 = zi O ∧ f 33 2 = zi U ∧ f 33 3 = zi D) ∧ (g 65 66 = zi U ∧ g 65 67 = zi D) ∧ ∀ i, i ≤ U + D → aR b R (fun k => f 34 (pN O i + k)) (mP g U i)
end PAST
